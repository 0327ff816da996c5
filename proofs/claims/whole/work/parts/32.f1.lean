def f_109 (P : ab_P) : Option Int32 :=
    if (600 : Int32) < ((P.1 1 1) + (20 : Int32)) then
      some (0 : Int32)
    else
    some (1 : Int32)
theorem t_109 {xs : Nat × (Nat → Int32)} {d : Nat} (P : ab_P) : ab_tr xs (rI P) (d + 0) 109 0 [] [.inr (9, 0, 0, 1)] [] P (f_109 P) := by
  unfold f_109
  refine tr_nil (rows2 := kb_109_0) rfl (List.cons_ne_nil _ _) ?_
  refine tr_blk 5 (pc' := 10) (rows' := kb_109_0.drop 5) (loc' := [.inr (9, 0, 0, 1)]) (st' := [.inl (.int (600 : Int32)), .inl (.int ((P.1 1 1) + (20 : Int32)))]) (P1 := P) rfl ⟨trivial, trivial, trivial, trivial, trivial, trivial⟩ ?_
  refine tr_if (fun h1 => ?_) (fun h1 => ?_)
  · refine tr_icT (cd := .gt) h1 ?_
    refine tr_nil (rows2 := kb_109_17) rfl (List.cons_ne_nil _ _) ?_
    refine tr_blk 1 (pc' := 18) (rows' := kb_109_17.drop 1) (loc' := [.inr (9, 0, 0, 1)]) (st' := [.inl (.int (0 : Int32))]) (P1 := P) rfl ⟨trivial, trivial⟩ ?_
    refine tr_nil (rows2 := kb_109_18) rfl (List.cons_ne_nil _ _) ?_
    exact tr_reI (z := km_109) rfl ⟨_, rfl, rfl⟩ rfl
  · refine tr_icF (cd := .gt) h1 ?_
    refine tr_blk 1 (pc' := 14) (rows' := kb_109_0.drop 7) (loc' := [.inr (9, 0, 0, 1)]) (st' := [.inl (.int (1 : Int32))]) (P1 := P) rfl ⟨trivial, trivial⟩ ?_
    refine tr_goto ?_
    refine tr_nil (rows2 := kb_109_18) rfl (List.cons_ne_nil _ _) ?_
    exact tr_reI (z := km_109) rfl ⟨_, rfl, rfl⟩ rfl
def f_110_3 : Nat → Int32 → Int32 → ab_P → Option ab_P
  | 0, _, _, _ => none
  | n + 1, x1, x2, P =>
    if x2 < (0 : Int32) then
      some P
    else
    if (P.1 1 1) < (0 : Int32) then
      f_110_3 n x1 (x2 + (-8)) P
    else
    if (P.1 1 1) < (600 : Int32) then
      if ab_gi (P.1 1 1) 600 then
      ab_lt (ab_pI P 2 ((P.1 1 1)).toNatClampNeg (vp_nar .byte ((x1 >>> (x2 &&& 31))).toInt8.toInt32)) fun P2 =>
      ab_lt (ab_pI P2 1 1 ((P2.1 1 1) + (1 : Int32))) fun P3 =>
      f_110_3 n x1 (x2 + (-8)) P3
      else none
    else
    f_110_3 n x1 (x2 + (-8)) P
theorem t_110_3 {xs : Nat × (Nat → Int32)} {d : Nat} : ∀ n : Nat, ∀ (x1 : Int32) (x2 : Int32) (P : ab_P), ab_tr xs wV (d + 0) 110 3 [] [.inr (9, 0, 0, 1), .inl (.int x1), .inl (.int x2)] [] P (f_110_3 n x1 x2 P) := by
  intro n
  induction n with
  | zero => intro x1 x2 P; exact tr_no
  | succ n ih =>
    intro x1 x2 P
    refine tr_nil (rows2 := kb_110_3) rfl (List.cons_ne_nil _ _) ?_
    refine tr_blk 1 (pc' := 4) (rows' := kb_110_3.drop 1) (loc' := [.inr (9, 0, 0, 1), .inl (.int x1), .inl (.int x2)]) (st' := [.inl (.int x2)]) (P1 := P) rfl ⟨trivial, trivial⟩ ?_
    refine tr_if (fun h4 => ?_) (fun h4 => ?_)
    · refine tr_ifT (cd := .lt) h4 ?_
      refine tr_nil (rows2 := kb_110_55) rfl (List.cons_ne_nil _ _) ?_
      exact tr_reV (z := km_110) rfl rfl rfl
    · refine tr_ifF (cd := .lt) h4 ?_
      refine tr_blk 2 (pc' := 11) (rows' := kb_110_3.drop 4) (loc' := [.inr (9, 0, 0, 1), .inl (.int x1), .inl (.int x2)]) (st' := [.inl (.int (P.1 1 1))]) (P1 := P) rfl ⟨trivial, trivial, trivial⟩ ?_
      refine tr_if (fun h5 => ?_) (fun h5 => ?_)
      · refine tr_ifT (cd := .lt) h5 ?_
        refine tr_nil (rows2 := kb_110_49) rfl (List.cons_ne_nil _ _) ?_
        refine tr_blk 1 (pc' := 52) (rows' := kb_110_49.drop 1) (loc' := [.inr (9, 0, 0, 1), .inl (.int x1), .inl (.int (x2 + (-8)))]) (st' := []) (P1 := P) rfl ⟨trivial, trivial⟩ ?_
        refine tr_goto ?_
        exact ih x1 (x2 + (-8)) P
      · refine tr_ifF (cd := .lt) h5 ?_
        refine tr_blk 5 (pc' := 23) (rows' := kb_110_3.drop 10) (loc' := [.inr (9, 0, 0, 1), .inl (.int x1), .inl (.int x2)]) (st' := [.inl (.int (600 : Int32)), .inl (.int (P.1 1 1))]) (P1 := P) rfl ⟨trivial, trivial, trivial, trivial, (Or.inl (by decide)), trivial⟩ ?_
        refine tr_if (fun h6 => ?_) (fun h6 => ?_)
        · refine tr_icF (cd := .ge) (Int32.not_le.mpr h6) ?_
          refine tr_gd (fun h1 => ?_)
          refine tr_blk 9 (pc' := 39) (rows' := kb_110_3.drop 20) (loc' := [.inr (9, 0, 0, 1), .inl (.int x1), .inl (.int x2)]) (st' := []) (P1 := (ab_pI P 2 ((P.1 1 1)).toNatClampNeg (vp_nar .byte ((x1 >>> (x2 &&& 31))).toInt8.toInt32))) rfl ⟨trivial, trivial, trivial, trivial, trivial, trivial, trivial, trivial, h1, trivial⟩ ?_
          refine tr_lt (fun P2 => ?_)
          refine tr_blk 6 (pc' := 49) (rows' := kb_110_3.drop 26) (loc' := [.inr (9, 0, 0, 1), .inl (.int x1), .inl (.int x2)]) (st' := []) (P1 := (ab_pI P2 1 1 ((P2.1 1 1) + (1 : Int32)))) rfl ⟨trivial, trivial, trivial, trivial, trivial, trivial, trivial⟩ ?_
          refine tr_lt (fun P3 => ?_)
          refine tr_nil (rows2 := kb_110_49) rfl (List.cons_ne_nil _ _) ?_
          refine tr_blk 1 (pc' := 52) (rows' := kb_110_49.drop 1) (loc' := [.inr (9, 0, 0, 1), .inl (.int x1), .inl (.int (x2 + (-8)))]) (st' := []) (P1 := P3) rfl ⟨trivial, trivial⟩ ?_
          refine tr_goto ?_
          exact ih x1 (x2 + (-8)) P3
        · refine tr_icT (cd := .ge) (Int32.not_lt.mp h6) ?_
          refine tr_nil (rows2 := kb_110_49) rfl (List.cons_ne_nil _ _) ?_
          refine tr_blk 1 (pc' := 52) (rows' := kb_110_49.drop 1) (loc' := [.inr (9, 0, 0, 1), .inl (.int x1), .inl (.int (x2 + (-8)))]) (st' := []) (P1 := P) rfl ⟨trivial, trivial⟩ ?_
          refine tr_goto ?_
          exact ih x1 (x2 + (-8)) P
def f_110 (N : Nat) (a1 : Int32) (P : ab_P) : Option ab_P :=
    f_110_3 N a1 (24 : Int32) P
theorem t_110 {xs : Nat × (Nat → Int32)} {d : Nat} (N : Nat) : ∀ (a1 : Int32) (P : ab_P), ab_tr xs wV (d + 0) 110 0 [] [.inr (9, 0, 0, 1), .inl (.int a1), ab_top] [] P (f_110 N a1 P) := by
  intro a1 P
  unfold f_110
  refine tr_nil (rows2 := kb_110_0) rfl (List.cons_ne_nil _ _) ?_
  refine tr_blk 2 (pc' := 3) (rows' := kb_110_0.drop 2) (loc' := [.inr (9, 0, 0, 1), .inl (.int a1), .inl (.int (24 : Int32))]) (st' := []) (P1 := P) rfl ⟨trivial, trivial, trivial⟩ ?_
  exact t_110_3 N a1 (24 : Int32) P
def f_3 (N : Nat) (a1 : Int32) (a2 : Int32) (a3 : Int32) (a4 : Int32) (a5 : Int32) (P : ab_P) : Option (Int32 × ab_P) :=
    Option.bind (f_109 P) fun v1 =>
    if v1 = (0 : Int32) then
      some ((-1 : Int32), P)
    else
    Option.bind (f_110 N a1 P) fun P2 =>
    Option.bind (f_110 N a2 P2) fun P3 =>
    Option.bind (f_110 N a3 P3) fun P4 =>
    Option.bind (f_110 N a4 P4) fun P5 =>
    Option.bind (f_110 N a5 P5) fun P6 =>
    some ((P6.1 1 1), P6)
theorem t_3 {xs : Nat × (Nat → Int32)} {d : Nat} (N : Nat) : ∀ (a1 : Int32) (a2 : Int32) (a3 : Int32) (a4 : Int32) (a5 : Int32) (P : ab_P), ab_tr xs wI (d + 1) 3 0 [] [.inr (11, 0, 0, 0), .inl (.int a1), .inl (.int a2), .inl (.int a3), .inl (.int a4), .inl (.int a5)] [] P (f_3 N a1 a2 a3 a4 a5 P) := by
  intro a1 a2 a3 a4 a5 P
  unfold f_3
  refine tr_nil (rows2 := kb_3_0) rfl (List.cons_ne_nil _ _) ?_
  refine tr_blk 2 (pc' := 4) (rows' := kb_3_0.drop 2) (loc' := [.inr (11, 0, 0, 0), .inl (.int a1), .inl (.int a2), .inl (.int a3), .inl (.int a4), .inl (.int a5)]) (st' := [.inr (9, 0, 0, 1)]) (P1 := P) rfl ⟨trivial, trivial, trivial⟩ ?_
  refine tr_cRI (z := km_109) (av := [.inr (9, 0, 0, 1)]) (st' := []) rfl rfl rfl (Nat.le_of_ble_eq_true rfl) ⟨rfl, Or.inl (by decide)⟩ rfl (Nat.le_of_ble_eq_true rfl) (t_109 P) (fun v1 => ?_)
  refine tr_if (fun h7 => ?_) (fun h7 => ?_)
  · refine tr_ifF (cd := .ne) (fun q => q h7) ?_
    refine tr_blk 1 (pc' := 11) (rows' := kb_3_0.drop 5) (loc' := [.inr (11, 0, 0, 0), .inl (.int a1), .inl (.int a2), .inl (.int a3), .inl (.int a4), .inl (.int a5)]) (st' := [.inl (.int (-1 : Int32))]) (P1 := P) rfl ⟨trivial, trivial⟩ ?_
    exact tr_reI (z := km_3) rfl ⟨_, rfl, rfl⟩ rfl
  · refine tr_ifT (cd := .ne) h7 ?_
    refine tr_nil (rows2 := kb_3_12) rfl (List.cons_ne_nil _ _) ?_
    refine tr_blk 3 (pc' := 17) (rows' := kb_3_12.drop 3) (loc' := [.inr (11, 0, 0, 0), .inl (.int a1), .inl (.int a2), .inl (.int a3), .inl (.int a4), .inl (.int a5)]) (st' := [.inl (.int a1), .inr (9, 0, 0, 1)]) (P1 := P) rfl ⟨trivial, trivial, trivial, trivial⟩ ?_
    refine tr_cWV (z := km_110) (av := [.inr (9, 0, 0, 1), .inl (.int a1)]) (st' := []) rfl rfl rfl (Nat.le_of_ble_eq_true rfl) ⟨rfl, Or.inl (by decide)⟩ rfl (Nat.le_of_ble_eq_true rfl) (t_110 N a1 P) (fun P2 => ?_)
    refine tr_blk 3 (pc' := 25) (rows' := kb_3_12.drop 7) (loc' := [.inr (11, 0, 0, 0), .inl (.int a1), .inl (.int a2), .inl (.int a3), .inl (.int a4), .inl (.int a5)]) (st' := [.inl (.int a2), .inr (9, 0, 0, 1)]) (P1 := P2) rfl ⟨trivial, trivial, trivial, trivial⟩ ?_
    refine tr_cWV (z := km_110) (av := [.inr (9, 0, 0, 1), .inl (.int a2)]) (st' := []) rfl rfl rfl (Nat.le_of_ble_eq_true rfl) ⟨rfl, Or.inl (by decide)⟩ rfl (Nat.le_of_ble_eq_true rfl) (t_110 N a2 P2) (fun P3 => ?_)
    refine tr_blk 3 (pc' := 33) (rows' := kb_3_12.drop 11) (loc' := [.inr (11, 0, 0, 0), .inl (.int a1), .inl (.int a2), .inl (.int a3), .inl (.int a4), .inl (.int a5)]) (st' := [.inl (.int a3), .inr (9, 0, 0, 1)]) (P1 := P3) rfl ⟨trivial, trivial, trivial, trivial⟩ ?_
    refine tr_cWV (z := km_110) (av := [.inr (9, 0, 0, 1), .inl (.int a3)]) (st' := []) rfl rfl rfl (Nat.le_of_ble_eq_true rfl) ⟨rfl, Or.inl (by decide)⟩ rfl (Nat.le_of_ble_eq_true rfl) (t_110 N a3 P3) (fun P4 => ?_)
    refine tr_blk 3 (pc' := 42) (rows' := kb_3_12.drop 15) (loc' := [.inr (11, 0, 0, 0), .inl (.int a1), .inl (.int a2), .inl (.int a3), .inl (.int a4), .inl (.int a5)]) (st' := [.inl (.int a4), .inr (9, 0, 0, 1)]) (P1 := P4) rfl ⟨trivial, trivial, trivial, trivial⟩ ?_
    refine tr_cWV (z := km_110) (av := [.inr (9, 0, 0, 1), .inl (.int a4)]) (st' := []) rfl rfl rfl (Nat.le_of_ble_eq_true rfl) ⟨rfl, Or.inl (by decide)⟩ rfl (Nat.le_of_ble_eq_true rfl) (t_110 N a4 P4) (fun P5 => ?_)
    refine tr_blk 3 (pc' := 51) (rows' := kb_3_12.drop 19) (loc' := [.inr (11, 0, 0, 0), .inl (.int a1), .inl (.int a2), .inl (.int a3), .inl (.int a4), .inl (.int a5)]) (st' := [.inl (.int a5), .inr (9, 0, 0, 1)]) (P1 := P5) rfl ⟨trivial, trivial, trivial, trivial⟩ ?_
    refine tr_cWV (z := km_110) (av := [.inr (9, 0, 0, 1), .inl (.int a5)]) (st' := []) rfl rfl rfl (Nat.le_of_ble_eq_true rfl) ⟨rfl, Or.inl (by decide)⟩ rfl (Nat.le_of_ble_eq_true rfl) (t_110 N a5 P5) (fun P6 => ?_)
    refine tr_blk 3 (pc' := 61) (rows' := kb_3_12.drop 23) (loc' := [.inr (11, 0, 0, 0), .inl (.int a1), .inl (.int a2), .inl (.int a3), .inl (.int a4), .inl (.int a5)]) (st' := [.inl (.int (P6.1 1 1))]) (P1 := P6) rfl ⟨trivial, trivial, trivial, trivial⟩ ?_
    exact tr_reI (z := km_3) rfl ⟨_, rfl, rfl⟩ rfl
def f_4_23 : Nat → Int32 → Int32 → Int32 → Int32 → Int32 → Int32 → ab_P → Option (Int32 × ab_P)
  | 0, _, _, _, _, _, _, _ => none
  | n + 1, x1, x2, x3, x4, x5, x6, P =>
    if x6 < (20 : Int32) then
      if x6 < (4 : Int32) then
        if ab_gi (P.1 72 1) 600 then
        ab_lt (ab_pI P 73 ((P.1 72 1)).toNatClampNeg ((x1 >>> (((24 : Int32) - ((8 : Int32) * (x6 - x6 / (4 : Int32) * (4 : Int32)))) &&& 31)) &&& (255 : Int32))) fun P15 =>
        ab_lt (ab_pI P15 72 1 ((P15.1 72 1) + (1 : Int32))) fun P16 =>
        f_4_23 n x1 x2 x3 x4 x5 (x6 + 1) P16
        else none
      else
      if x6 < (8 : Int32) then
        if ab_gi (P.1 72 1) 600 then
        ab_lt (ab_pI P 73 ((P.1 72 1)).toNatClampNeg ((x2 >>> (((24 : Int32) - ((8 : Int32) * (x6 - x6 / (4 : Int32) * (4 : Int32)))) &&& 31)) &&& (255 : Int32))) fun P12 =>
        ab_lt (ab_pI P12 72 1 ((P12.1 72 1) + (1 : Int32))) fun P13 =>
        f_4_23 n x1 x2 x3 x4 x5 (x6 + 1) P13
        else none
      else
      if x6 < (12 : Int32) then
        if ab_gi (P.1 72 1) 600 then
        ab_lt (ab_pI P 73 ((P.1 72 1)).toNatClampNeg ((x3 >>> (((24 : Int32) - ((8 : Int32) * (x6 - x6 / (4 : Int32) * (4 : Int32)))) &&& 31)) &&& (255 : Int32))) fun P9 =>
        ab_lt (ab_pI P9 72 1 ((P9.1 72 1) + (1 : Int32))) fun P10 =>
        f_4_23 n x1 x2 x3 x4 x5 (x6 + 1) P10
        else none
      else
      if x6 < (16 : Int32) then
        if ab_gi (P.1 72 1) 600 then
        ab_lt (ab_pI P 73 ((P.1 72 1)).toNatClampNeg ((x4 >>> (((24 : Int32) - ((8 : Int32) * (x6 - x6 / (4 : Int32) * (4 : Int32)))) &&& 31)) &&& (255 : Int32))) fun P6 =>
        ab_lt (ab_pI P6 72 1 ((P6.1 72 1) + (1 : Int32))) fun P7 =>
        f_4_23 n x1 x2 x3 x4 x5 (x6 + 1) P7
        else none
      else
      if ab_gi (P.1 72 1) 600 then
      ab_lt (ab_pI P 73 ((P.1 72 1)).toNatClampNeg ((x5 >>> (((24 : Int32) - ((8 : Int32) * (x6 - x6 / (4 : Int32) * (4 : Int32)))) &&& 31)) &&& (255 : Int32))) fun P3 =>
      ab_lt (ab_pI P3 72 1 ((P3.1 72 1) + (1 : Int32))) fun P4 =>
      f_4_23 n x1 x2 x3 x4 x5 (x6 + 1) P4
      else none
    else
    some ((P.1 72 1), P)
theorem t_4_23 {xs : Nat × (Nat → Int32)} {d : Nat} : ∀ n : Nat, ∀ (x1 : Int32) (x2 : Int32) (x3 : Int32) (x4 : Int32) (x5 : Int32) (x6 : Int32) (d7 : ab_V) (P : ab_P), ab_tr xs wI (d + 0) 4 23 [] [.inr (12, 0, 0, 72), .inl (.int x1), .inl (.int x2), .inl (.int x3), .inl (.int x4), .inl (.int x5), .inl (.int x6), d7] [] P (f_4_23 n x1 x2 x3 x4 x5 x6 P) := by
  intro n
  induction n with
  | zero => intro x1 x2 x3 x4 x5 x6 d7 P; exact tr_no
  | succ n ih =>
    intro x1 x2 x3 x4 x5 x6 d7 P
    refine tr_nil (rows2 := kb_4_23) rfl (List.cons_ne_nil _ _) ?_
    refine tr_blk 2 (pc' := 27) (rows' := kb_4_23.drop 2) (loc' := [.inr (12, 0, 0, 72), .inl (.int x1), .inl (.int x2), .inl (.int x3), .inl (.int x4), .inl (.int x5), .inl (.int x6), d7]) (st' := [.inl (.int (20 : Int32)), .inl (.int x6)]) (P1 := P) rfl ⟨trivial, trivial, trivial⟩ ?_
    refine tr_if (fun h17 => ?_) (fun h17 => ?_)
    · refine tr_icF (cd := .ge) (Int32.not_le.mpr h17) ?_
      refine tr_blk 2 (pc' := 33) (rows' := kb_4_23.drop 5) (loc' := [.inr (12, 0, 0, 72), .inl (.int x1), .inl (.int x2), .inl (.int x3), .inl (.int x4), .inl (.int x5), .inl (.int x6), d7]) (st' := [.inl (.int (4 : Int32)), .inl (.int x6)]) (P1 := P) rfl ⟨trivial, trivial, trivial⟩ ?_
      refine tr_if (fun h18 => ?_) (fun h18 => ?_)
      · refine tr_icF (cd := .ge) (Int32.not_le.mpr h18) ?_
        refine tr_blk 1 (pc' := 37) (rows' := kb_4_23.drop 7) (loc' := [.inr (12, 0, 0, 72), .inl (.int x1), .inl (.int x2), .inl (.int x3), .inl (.int x4), .inl (.int x5), .inl (.int x6), d7]) (st' := [.inl (.int x1)]) (P1 := P) rfl ⟨trivial, trivial⟩ ?_
        refine tr_goto ?_
        refine tr_nil (rows2 := kb_4_76) rfl (List.cons_ne_nil _ _) ?_
        refine tr_gd (fun h14 => ?_)
        refine tr_blk 17 (pc' := 104) (rows' := kb_4_76.drop 17) (loc' := [.inr (12, 0, 0, 72), .inl (.int x1), .inl (.int x2), .inl (.int x3), .inl (.int x4), .inl (.int x5), .inl (.int x6), .inl (.int x1)]) (st' := []) (P1 := (ab_pI P 73 ((P.1 72 1)).toNatClampNeg ((x1 >>> (((24 : Int32) - ((8 : Int32) * (x6 - x6 / (4 : Int32) * (4 : Int32)))) &&& 31)) &&& (255 : Int32)))) rfl ⟨trivial, trivial, trivial, trivial, trivial, trivial, trivial, trivial, trivial, trivial, (by decide), trivial, trivial, trivial, trivial, trivial, h14, trivial⟩ ?_
        refine tr_lt (fun P15 => ?_)
        refine tr_blk 6 (pc' := 114) (rows' := kb_4_76.drop 23) (loc' := [.inr (12, 0, 0, 72), .inl (.int x1), .inl (.int x2), .inl (.int x3), .inl (.int x4), .inl (.int x5), .inl (.int x6), .inl (.int x1)]) (st' := []) (P1 := (ab_pI P15 72 1 ((P15.1 72 1) + (1 : Int32)))) rfl ⟨trivial, trivial, trivial, trivial, trivial, trivial, trivial⟩ ?_
        refine tr_lt (fun P16 => ?_)
        refine tr_blk 1 (pc' := 117) (rows' := kb_4_76.drop 24) (loc' := [.inr (12, 0, 0, 72), .inl (.int x1), .inl (.int x2), .inl (.int x3), .inl (.int x4), .inl (.int x5), .inl (.int (x6 + 1)), .inl (.int x1)]) (st' := []) (P1 := P16) rfl ⟨trivial, trivial⟩ ?_
        refine tr_goto ?_
        exact ih x1 x2 x3 x4 x5 (x6 + 1) (.inl (.int x1)) P16
      · refine tr_icT (cd := .ge) (Int32.not_lt.mp h18) ?_
        refine tr_nil (rows2 := kb_4_40) rfl (List.cons_ne_nil _ _) ?_
        refine tr_blk 2 (pc' := 44) (rows' := kb_4_40.drop 2) (loc' := [.inr (12, 0, 0, 72), .inl (.int x1), .inl (.int x2), .inl (.int x3), .inl (.int x4), .inl (.int x5), .inl (.int x6), d7]) (st' := [.inl (.int (8 : Int32)), .inl (.int x6)]) (P1 := P) rfl ⟨trivial, trivial, trivial⟩ ?_
        refine tr_if (fun h19 => ?_) (fun h19 => ?_)
        · refine tr_icF (cd := .ge) (Int32.not_le.mpr h19) ?_
          refine tr_blk 1 (pc' := 48) (rows' := kb_4_40.drop 4) (loc' := [.inr (12, 0, 0, 72), .inl (.int x1), .inl (.int x2), .inl (.int x3), .inl (.int x4), .inl (.int x5), .inl (.int x6), d7]) (st' := [.inl (.int x2)]) (P1 := P) rfl ⟨trivial, trivial⟩ ?_
          refine tr_goto ?_
          refine tr_nil (rows2 := kb_4_76) rfl (List.cons_ne_nil _ _) ?_
          refine tr_gd (fun h11 => ?_)
          refine tr_blk 17 (pc' := 104) (rows' := kb_4_76.drop 17) (loc' := [.inr (12, 0, 0, 72), .inl (.int x1), .inl (.int x2), .inl (.int x3), .inl (.int x4), .inl (.int x5), .inl (.int x6), .inl (.int x2)]) (st' := []) (P1 := (ab_pI P 73 ((P.1 72 1)).toNatClampNeg ((x2 >>> (((24 : Int32) - ((8 : Int32) * (x6 - x6 / (4 : Int32) * (4 : Int32)))) &&& 31)) &&& (255 : Int32)))) rfl ⟨trivial, trivial, trivial, trivial, trivial, trivial, trivial, trivial, trivial, trivial, (by decide), trivial, trivial, trivial, trivial, trivial, h11, trivial⟩ ?_
          refine tr_lt (fun P12 => ?_)
          refine tr_blk 6 (pc' := 114) (rows' := kb_4_76.drop 23) (loc' := [.inr (12, 0, 0, 72), .inl (.int x1), .inl (.int x2), .inl (.int x3), .inl (.int x4), .inl (.int x5), .inl (.int x6), .inl (.int x2)]) (st' := []) (P1 := (ab_pI P12 72 1 ((P12.1 72 1) + (1 : Int32)))) rfl ⟨trivial, trivial, trivial, trivial, trivial, trivial, trivial⟩ ?_
          refine tr_lt (fun P13 => ?_)
          refine tr_blk 1 (pc' := 117) (rows' := kb_4_76.drop 24) (loc' := [.inr (12, 0, 0, 72), .inl (.int x1), .inl (.int x2), .inl (.int x3), .inl (.int x4), .inl (.int x5), .inl (.int (x6 + 1)), .inl (.int x2)]) (st' := []) (P1 := P13) rfl ⟨trivial, trivial⟩ ?_
          refine tr_goto ?_
          exact ih x1 x2 x3 x4 x5 (x6 + 1) (.inl (.int x2)) P13
        · refine tr_icT (cd := .ge) (Int32.not_lt.mp h19) ?_
          refine tr_nil (rows2 := kb_4_51) rfl (List.cons_ne_nil _ _) ?_
          refine tr_blk 2 (pc' := 55) (rows' := kb_4_51.drop 2) (loc' := [.inr (12, 0, 0, 72), .inl (.int x1), .inl (.int x2), .inl (.int x3), .inl (.int x4), .inl (.int x5), .inl (.int x6), d7]) (st' := [.inl (.int (12 : Int32)), .inl (.int x6)]) (P1 := P) rfl ⟨trivial, trivial, trivial⟩ ?_
          refine tr_if (fun h20 => ?_) (fun h20 => ?_)
          · refine tr_icF (cd := .ge) (Int32.not_le.mpr h20) ?_
            refine tr_blk 1 (pc' := 59) (rows' := kb_4_51.drop 4) (loc' := [.inr (12, 0, 0, 72), .inl (.int x1), .inl (.int x2), .inl (.int x3), .inl (.int x4), .inl (.int x5), .inl (.int x6), d7]) (st' := [.inl (.int x3)]) (P1 := P) rfl ⟨trivial, trivial⟩ ?_
            refine tr_goto ?_
            refine tr_nil (rows2 := kb_4_76) rfl (List.cons_ne_nil _ _) ?_
            refine tr_gd (fun h8 => ?_)
            refine tr_blk 17 (pc' := 104) (rows' := kb_4_76.drop 17) (loc' := [.inr (12, 0, 0, 72), .inl (.int x1), .inl (.int x2), .inl (.int x3), .inl (.int x4), .inl (.int x5), .inl (.int x6), .inl (.int x3)]) (st' := []) (P1 := (ab_pI P 73 ((P.1 72 1)).toNatClampNeg ((x3 >>> (((24 : Int32) - ((8 : Int32) * (x6 - x6 / (4 : Int32) * (4 : Int32)))) &&& 31)) &&& (255 : Int32)))) rfl ⟨trivial, trivial, trivial, trivial, trivial, trivial, trivial, trivial, trivial, trivial, (by decide), trivial, trivial, trivial, trivial, trivial, h8, trivial⟩ ?_
            refine tr_lt (fun P9 => ?_)
            refine tr_blk 6 (pc' := 114) (rows' := kb_4_76.drop 23) (loc' := [.inr (12, 0, 0, 72), .inl (.int x1), .inl (.int x2), .inl (.int x3), .inl (.int x4), .inl (.int x5), .inl (.int x6), .inl (.int x3)]) (st' := []) (P1 := (ab_pI P9 72 1 ((P9.1 72 1) + (1 : Int32)))) rfl ⟨trivial, trivial, trivial, trivial, trivial, trivial, trivial⟩ ?_
            refine tr_lt (fun P10 => ?_)
            refine tr_blk 1 (pc' := 117) (rows' := kb_4_76.drop 24) (loc' := [.inr (12, 0, 0, 72), .inl (.int x1), .inl (.int x2), .inl (.int x3), .inl (.int x4), .inl (.int x5), .inl (.int (x6 + 1)), .inl (.int x3)]) (st' := []) (P1 := P10) rfl ⟨trivial, trivial⟩ ?_
            refine tr_goto ?_
            exact ih x1 x2 x3 x4 x5 (x6 + 1) (.inl (.int x3)) P10
          · refine tr_icT (cd := .ge) (Int32.not_lt.mp h20) ?_
            refine tr_nil (rows2 := kb_4_62) rfl (List.cons_ne_nil _ _) ?_
            refine tr_blk 2 (pc' := 66) (rows' := kb_4_62.drop 2) (loc' := [.inr (12, 0, 0, 72), .inl (.int x1), .inl (.int x2), .inl (.int x3), .inl (.int x4), .inl (.int x5), .inl (.int x6), d7]) (st' := [.inl (.int (16 : Int32)), .inl (.int x6)]) (P1 := P) rfl ⟨trivial, trivial, trivial⟩ ?_
            refine tr_if (fun h21 => ?_) (fun h21 => ?_)
            · refine tr_icF (cd := .ge) (Int32.not_le.mpr h21) ?_
              refine tr_blk 1 (pc' := 71) (rows' := kb_4_62.drop 4) (loc' := [.inr (12, 0, 0, 72), .inl (.int x1), .inl (.int x2), .inl (.int x3), .inl (.int x4), .inl (.int x5), .inl (.int x6), d7]) (st' := [.inl (.int x4)]) (P1 := P) rfl ⟨trivial, trivial⟩ ?_
              refine tr_goto ?_
              refine tr_nil (rows2 := kb_4_76) rfl (List.cons_ne_nil _ _) ?_
              refine tr_gd (fun h5 => ?_)
              refine tr_blk 17 (pc' := 104) (rows' := kb_4_76.drop 17) (loc' := [.inr (12, 0, 0, 72), .inl (.int x1), .inl (.int x2), .inl (.int x3), .inl (.int x4), .inl (.int x5), .inl (.int x6), .inl (.int x4)]) (st' := []) (P1 := (ab_pI P 73 ((P.1 72 1)).toNatClampNeg ((x4 >>> (((24 : Int32) - ((8 : Int32) * (x6 - x6 / (4 : Int32) * (4 : Int32)))) &&& 31)) &&& (255 : Int32)))) rfl ⟨trivial, trivial, trivial, trivial, trivial, trivial, trivial, trivial, trivial, trivial, (by decide), trivial, trivial, trivial, trivial, trivial, h5, trivial⟩ ?_
              refine tr_lt (fun P6 => ?_)
              refine tr_blk 6 (pc' := 114) (rows' := kb_4_76.drop 23) (loc' := [.inr (12, 0, 0, 72), .inl (.int x1), .inl (.int x2), .inl (.int x3), .inl (.int x4), .inl (.int x5), .inl (.int x6), .inl (.int x4)]) (st' := []) (P1 := (ab_pI P6 72 1 ((P6.1 72 1) + (1 : Int32)))) rfl ⟨trivial, trivial, trivial, trivial, trivial, trivial, trivial⟩ ?_
              refine tr_lt (fun P7 => ?_)
              refine tr_blk 1 (pc' := 117) (rows' := kb_4_76.drop 24) (loc' := [.inr (12, 0, 0, 72), .inl (.int x1), .inl (.int x2), .inl (.int x3), .inl (.int x4), .inl (.int x5), .inl (.int (x6 + 1)), .inl (.int x4)]) (st' := []) (P1 := P7) rfl ⟨trivial, trivial⟩ ?_
              refine tr_goto ?_
              exact ih x1 x2 x3 x4 x5 (x6 + 1) (.inl (.int x4)) P7
            · refine tr_icT (cd := .ge) (Int32.not_lt.mp h21) ?_
              refine tr_nil (rows2 := kb_4_74) rfl (List.cons_ne_nil _ _) ?_
              refine tr_blk 1 (pc' := 76) (rows' := kb_4_74.drop 1) (loc' := [.inr (12, 0, 0, 72), .inl (.int x1), .inl (.int x2), .inl (.int x3), .inl (.int x4), .inl (.int x5), .inl (.int x6), d7]) (st' := [.inl (.int x5)]) (P1 := P) rfl ⟨trivial, trivial⟩ ?_
              refine tr_nil (rows2 := kb_4_76) rfl (List.cons_ne_nil _ _) ?_
              refine tr_gd (fun h2 => ?_)
              refine tr_blk 17 (pc' := 104) (rows' := kb_4_76.drop 17) (loc' := [.inr (12, 0, 0, 72), .inl (.int x1), .inl (.int x2), .inl (.int x3), .inl (.int x4), .inl (.int x5), .inl (.int x6), .inl (.int x5)]) (st' := []) (P1 := (ab_pI P 73 ((P.1 72 1)).toNatClampNeg ((x5 >>> (((24 : Int32) - ((8 : Int32) * (x6 - x6 / (4 : Int32) * (4 : Int32)))) &&& 31)) &&& (255 : Int32)))) rfl ⟨trivial, trivial, trivial, trivial, trivial, trivial, trivial, trivial, trivial, trivial, (by decide), trivial, trivial, trivial, trivial, trivial, h2, trivial⟩ ?_
              refine tr_lt (fun P3 => ?_)
              refine tr_blk 6 (pc' := 114) (rows' := kb_4_76.drop 23) (loc' := [.inr (12, 0, 0, 72), .inl (.int x1), .inl (.int x2), .inl (.int x3), .inl (.int x4), .inl (.int x5), .inl (.int x6), .inl (.int x5)]) (st' := []) (P1 := (ab_pI P3 72 1 ((P3.1 72 1) + (1 : Int32)))) rfl ⟨trivial, trivial, trivial, trivial, trivial, trivial, trivial⟩ ?_
              refine tr_lt (fun P4 => ?_)
              refine tr_blk 1 (pc' := 117) (rows' := kb_4_76.drop 24) (loc' := [.inr (12, 0, 0, 72), .inl (.int x1), .inl (.int x2), .inl (.int x3), .inl (.int x4), .inl (.int x5), .inl (.int (x6 + 1)), .inl (.int x5)]) (st' := []) (P1 := P4) rfl ⟨trivial, trivial⟩ ?_
              refine tr_goto ?_
              exact ih x1 x2 x3 x4 x5 (x6 + 1) (.inl (.int x5)) P4
    · refine tr_icT (cd := .ge) (Int32.not_lt.mp h17) ?_
      refine tr_nil (rows2 := kb_4_120) rfl (List.cons_ne_nil _ _) ?_
      refine tr_blk 2 (pc' := 124) (rows' := kb_4_120.drop 2) (loc' := [.inr (12, 0, 0, 72), .inl (.int x1), .inl (.int x2), .inl (.int x3), .inl (.int x4), .inl (.int x5), .inl (.int x6), d7]) (st' := [.inl (.int (P.1 72 1))]) (P1 := P) rfl ⟨trivial, trivial, trivial⟩ ?_
      exact tr_reI (z := km_4) rfl ⟨_, rfl, rfl⟩ rfl
def f_4 (N : Nat) (a1 : Int32) (a2 : Int32) (a3 : Int32) (a4 : Int32) (a5 : Int32) (P : ab_P) : Option (Int32 × ab_P) :=
    ab_lt (ab_pI P 72 0 (0 : Int32)) fun P1 =>
    if (600 : Int32) < ((P1.1 72 1) + (20 : Int32)) then
      some ((-1 : Int32), P1)
    else
    f_4_23 N a1 a2 a3 a4 a5 (0 : Int32) P1
theorem t_4 {xs : Nat × (Nat → Int32)} {d : Nat} (N : Nat) : ∀ (a1 : Int32) (a2 : Int32) (a3 : Int32) (a4 : Int32) (a5 : Int32) (P : ab_P), ab_tr xs wI (d + 0) 4 0 [] [.inr (12, 0, 0, 72), .inl (.int a1), .inl (.int a2), .inl (.int a3), .inl (.int a4), .inl (.int a5), ab_top, ab_top] [] P (f_4 N a1 a2 a3 a4 a5 P) := by
  intro a1 a2 a3 a4 a5 P
  unfold f_4
  refine tr_nil (rows2 := kb_4_0) rfl (List.cons_ne_nil _ _) ?_
  refine tr_blk 3 (pc' := 5) (rows' := kb_4_0.drop 3) (loc' := [.inr (12, 0, 0, 72), .inl (.int a1), .inl (.int a2), .inl (.int a3), .inl (.int a4), .inl (.int a5), ab_top, ab_top]) (st' := []) (P1 := (ab_pI P 72 0 (0 : Int32))) rfl ⟨trivial, trivial, trivial, trivial⟩ ?_
  refine tr_lt (fun P1 => ?_)
  refine tr_blk 5 (pc' := 15) (rows' := kb_4_0.drop 8) (loc' := [.inr (12, 0, 0, 72), .inl (.int a1), .inl (.int a2), .inl (.int a3), .inl (.int a4), .inl (.int a5), ab_top, ab_top]) (st' := [.inl (.int (600 : Int32)), .inl (.int ((P1.1 72 1) + (20 : Int32)))]) (P1 := P1) rfl ⟨trivial, trivial, trivial, trivial, trivial, trivial⟩ ?_
  refine tr_if (fun h22 => ?_) (fun h22 => ?_)
  · refine tr_icF (cd := .le) (Int32.not_le.mpr h22) ?_
    refine tr_blk 1 (pc' := 19) (rows' := kb_4_0.drop 10) (loc' := [.inr (12, 0, 0, 72), .inl (.int a1), .inl (.int a2), .inl (.int a3), .inl (.int a4), .inl (.int a5), ab_top, ab_top]) (st' := [.inl (.int (-1 : Int32))]) (P1 := P1) rfl ⟨trivial, trivial⟩ ?_
    exact tr_reI (z := km_4) rfl ⟨_, rfl, rfl⟩ rfl
  · refine tr_icT (cd := .le) (Int32.not_lt.mp h22) ?_
    refine tr_nil (rows2 := kb_4_20) rfl (List.cons_ne_nil _ _) ?_
    refine tr_blk 2 (pc' := 23) (rows' := kb_4_20.drop 2) (loc' := [.inr (12, 0, 0, 72), .inl (.int a1), .inl (.int a2), .inl (.int a3), .inl (.int a4), .inl (.int a5), .inl (.int (0 : Int32)), ab_top]) (st' := []) (P1 := P1) rfl ⟨trivial, trivial, trivial⟩ ?_
    exact t_4_23 N a1 a2 a3 a4 a5 (0 : Int32) (ab_top) P1
def f_228 (a1 : Int32) (P : ab_P) : Option ((Unit ⊕ Fin 3) × ab_P) :=
    if a1 = (0 : Int32) then
      ab_lt (ab_pI P 71 1 ((P.1 71 1) + (1 : Int32))) fun P1 =>
      some (.inr 1, ab_ex P1)
    else
    some (.inl (), P)
theorem t_228 {xs : Nat × (Nat → Int32)} {d : Nat} : ∀ (a1 : Int32) (P : ab_P), ab_tr xs xV (d + 0) 228 0 [] [.inr (11, 0, 0, 0), .inl (.int a1)] [] P (f_228 a1 P) := by
  intro a1 P
  unfold f_228
  refine tr_nil (rows2 := kb_228_0) rfl (List.cons_ne_nil _ _) ?_
  refine tr_blk 1 (pc' := 1) (rows' := kb_228_0.drop 1) (loc' := [.inr (11, 0, 0, 0), .inl (.int a1)]) (st' := [.inl (.int a1)]) (P1 := P) rfl ⟨trivial, trivial⟩ ?_
  refine tr_if (fun h2 => ?_) (fun h2 => ?_)
  · refine tr_ifF (cd := .ne) (fun q => q h2) ?_
    refine tr_blk 8 (pc' := 14) (rows' := kb_228_0.drop 10) (loc' := [.inr (11, 0, 0, 0), .inl (.int a1)]) (st' := []) (P1 := (ab_pI P 71 1 ((P.1 71 1) + (1 : Int32)))) rfl ⟨trivial, trivial, trivial, trivial, (ab_vi (by decide)), trivial, trivial, (ab_vi (by decide)), trivial⟩ ?_
    refine tr_lt (fun P1 => ?_)
    exact tr_thr (z := km_228) rfl rfl rfl
  · refine tr_ifT (cd := .ne) h2 ?_
    refine tr_nil (rows2 := kb_228_25) rfl (List.cons_ne_nil _ _) ?_
    exact tr_reV (z := km_228) rfl rfl rfl
def f_198 (a1 : Int32) (a2 : Int32) (P : ab_P) : Option ((Unit ⊕ Fin 3) × ab_P) :=
    if a1 < (0 : Int32) then
      ab_x2 (f_228 (0 : Int32) P) (fun _ P1 =>
      some (.inl (), P1)) (fun q => q)
    else
    if a2 < a1 then
      ab_x2 (f_228 (0 : Int32) P) (fun _ P2 =>
      some (.inl (), P2)) (fun q => q)
    else
    if (P.1 1 1) < a1 then
      ab_x2 (f_228 (0 : Int32) P) (fun _ P3 =>
      some (.inl (), P3)) (fun q => q)
    else
    ab_x2 (f_228 (1 : Int32) P) (fun _ P4 =>
    some (.inl (), P4)) (fun q => q)
theorem t_198 {xs : Nat × (Nat → Int32)} {d : Nat} : ∀ (a1 : Int32) (a2 : Int32) (P : ab_P), ab_tr xs xV (d + 1) 198 0 [] [.inr (11, 0, 0, 0), .inl (.int a1), .inl (.int a2)] [] P (f_198 a1 a2 P) := by
  intro a1 a2 P
  unfold f_198
  refine tr_nil (rows2 := kb_198_0) rfl (List.cons_ne_nil _ _) ?_
  refine tr_blk 2 (pc' := 2) (rows' := kb_198_0.drop 2) (loc' := [.inr (11, 0, 0, 0), .inl (.int a1), .inl (.int a2)]) (st' := [.inl (.int a1), .inr (11, 0, 0, 0)]) (P1 := P) rfl ⟨trivial, trivial, trivial⟩ ?_
  refine tr_if (fun h5 => ?_) (fun h5 => ?_)
  · refine tr_ifT (cd := .lt) h5 ?_
    refine tr_nil (rows2 := kb_198_25) rfl (List.cons_ne_nil _ _) ?_
    refine tr_blk 1 (pc' := 26) (rows' := kb_198_25.drop 1) (loc' := [.inr (11, 0, 0, 0), .inl (.int a1), .inl (.int a2)]) (st' := [.inl (.int (0 : Int32)), .inr (11, 0, 0, 0)]) (P1 := P) rfl ⟨trivial, trivial⟩ ?_
    refine tr_nil (rows2 := kb_198_26) rfl (List.cons_ne_nil _ _) ?_
    refine tr_cax (fun _ => none) (zi := km_198) (fun _ => rfl) (fun _ _ => rfl) rfl rfl (z := km_228) (av := [.inr (11, 0, 0, 0), .inl (.int (0 : Int32))]) (st' := []) rfl rfl rfl (Nat.le_of_ble_eq_true rfl) ⟨rfl, Or.inl (by decide)⟩ rfl (Nat.le_of_ble_eq_true rfl) (t_228 (0 : Int32) P) (fun _ P1 => ?_)
    exact tr_reV (z := km_198) rfl rfl rfl
  · refine tr_ifF (cd := .lt) h5 ?_
    refine tr_blk 2 (pc' := 7) (rows' := kb_198_0.drop 5) (loc' := [.inr (11, 0, 0, 0), .inl (.int a1), .inl (.int a2)]) (st' := [.inl (.int a2), .inl (.int a1), .inr (11, 0, 0, 0)]) (P1 := P) rfl ⟨trivial, trivial, trivial⟩ ?_
    refine tr_if (fun h6 => ?_) (fun h6 => ?_)
    · refine tr_icT (cd := .gt) h6 ?_
      refine tr_nil (rows2 := kb_198_25) rfl (List.cons_ne_nil _ _) ?_
      refine tr_blk 1 (pc' := 26) (rows' := kb_198_25.drop 1) (loc' := [.inr (11, 0, 0, 0), .inl (.int a1), .inl (.int a2)]) (st' := [.inl (.int (0 : Int32)), .inr (11, 0, 0, 0)]) (P1 := P) rfl ⟨trivial, trivial⟩ ?_
      refine tr_nil (rows2 := kb_198_26) rfl (List.cons_ne_nil _ _) ?_
      refine tr_cax (fun _ => none) (zi := km_198) (fun _ => rfl) (fun _ _ => rfl) rfl rfl (z := km_228) (av := [.inr (11, 0, 0, 0), .inl (.int (0 : Int32))]) (st' := []) rfl rfl rfl (Nat.le_of_ble_eq_true rfl) ⟨rfl, Or.inl (by decide)⟩ rfl (Nat.le_of_ble_eq_true rfl) (t_228 (0 : Int32) P) (fun _ P2 => ?_)
      exact tr_reV (z := km_198) rfl rfl rfl
    · refine tr_icF (cd := .gt) h6 ?_
      refine tr_blk 4 (pc' := 18) (rows' := kb_198_0.drop 10) (loc' := [.inr (11, 0, 0, 0), .inl (.int a1), .inl (.int a2)]) (st' := [.inl (.int (P.1 1 1)), .inl (.int a1), .inr (11, 0, 0, 0)]) (P1 := P) rfl ⟨trivial, trivial, trivial, trivial, trivial⟩ ?_
      refine tr_if (fun h7 => ?_) (fun h7 => ?_)
      · refine tr_icT (cd := .gt) h7 ?_
        refine tr_nil (rows2 := kb_198_25) rfl (List.cons_ne_nil _ _) ?_
        refine tr_blk 1 (pc' := 26) (rows' := kb_198_25.drop 1) (loc' := [.inr (11, 0, 0, 0), .inl (.int a1), .inl (.int a2)]) (st' := [.inl (.int (0 : Int32)), .inr (11, 0, 0, 0)]) (P1 := P) rfl ⟨trivial, trivial⟩ ?_
        refine tr_nil (rows2 := kb_198_26) rfl (List.cons_ne_nil _ _) ?_
        refine tr_cax (fun _ => none) (zi := km_198) (fun _ => rfl) (fun _ _ => rfl) rfl rfl (z := km_228) (av := [.inr (11, 0, 0, 0), .inl (.int (0 : Int32))]) (st' := []) rfl rfl rfl (Nat.le_of_ble_eq_true rfl) ⟨rfl, Or.inl (by decide)⟩ rfl (Nat.le_of_ble_eq_true rfl) (t_228 (0 : Int32) P) (fun _ P3 => ?_)
        exact tr_reV (z := km_198) rfl rfl rfl
      · refine tr_icF (cd := .gt) h7 ?_
        refine tr_blk 1 (pc' := 22) (rows' := kb_198_0.drop 12) (loc' := [.inr (11, 0, 0, 0), .inl (.int a1), .inl (.int a2)]) (st' := [.inl (.int (1 : Int32)), .inr (11, 0, 0, 0)]) (P1 := P) rfl ⟨trivial, trivial⟩ ?_
        refine tr_goto ?_
        refine tr_nil (rows2 := kb_198_26) rfl (List.cons_ne_nil _ _) ?_
        refine tr_cax (fun _ => none) (zi := km_198) (fun _ => rfl) (fun _ _ => rfl) rfl rfl (z := km_228) (av := [.inr (11, 0, 0, 0), .inl (.int (1 : Int32))]) (st' := []) rfl rfl rfl (Nat.le_of_ble_eq_true rfl) ⟨rfl, Or.inl (by decide)⟩ rfl (Nat.le_of_ble_eq_true rfl) (t_228 (1 : Int32) P) (fun _ P4 => ?_)
        exact tr_reV (z := km_198) rfl rfl rfl
def f_199 (a1 : Int32) (P : ab_P) : Option ab_P :=
    ab_lt (ab_pI P 1 1 (0 : Int32)) fun P1 =>
    ab_lt (ab_pI P1 1 2 (ab_mn a1 (600 : Int32))) fun P2 =>
    ab_lt (ab_pI P2 1 3 (0 : Int32)) fun P3 =>
    ab_lt (ab_pI P3 1 4 (0 : Int32)) fun P4 =>
    ab_lt (ab_pI P4 1 5 (0 : Int32)) fun P5 =>
    ab_lt (ab_pI P5 1 6 (-1 : Int32)) fun P6 =>
    some P6
theorem t_199 {xs : Nat × (Nat → Int32)} {d : Nat} : ∀ (a1 : Int32) (P : ab_P), ab_tr xs wV (d + 0) 199 0 [] [.inr (9, 0, 0, 1), .inl (.int a1)] [] P (f_199 a1 P) := by
  intro a1 P
  unfold f_199
  refine tr_nil (rows2 := kb_199_0) rfl (List.cons_ne_nil _ _) ?_
  refine tr_blk 3 (pc' := 5) (rows' := kb_199_0.drop 3) (loc' := [.inr (9, 0, 0, 1), .inl (.int a1)]) (st' := []) (P1 := (ab_pI P 1 1 (0 : Int32))) rfl ⟨trivial, trivial, trivial, trivial⟩ ?_
  refine tr_lt (fun P1 => ?_)
  refine tr_blk 7 (pc' := 18) (rows' := kb_199_0.drop 10) (loc' := [.inr (9, 0, 0, 1), .inl (.int a1)]) (st' := []) (P1 := (ab_pI P1 1 2 (ab_mn a1 (600 : Int32)))) rfl ⟨trivial, trivial, trivial, trivial, (Or.inl (by decide)), (Nat.le_of_ble_eq_true rfl), trivial, trivial⟩ ?_
  refine tr_lt (fun P2 => ?_)
  refine tr_blk 3 (pc' := 23) (rows' := kb_199_0.drop 13) (loc' := [.inr (9, 0, 0, 1), .inl (.int a1)]) (st' := []) (P1 := (ab_pI P2 1 3 (0 : Int32))) rfl ⟨trivial, trivial, trivial, trivial⟩ ?_
  refine tr_lt (fun P3 => ?_)
  refine tr_blk 3 (pc' := 28) (rows' := kb_199_0.drop 16) (loc' := [.inr (9, 0, 0, 1), .inl (.int a1)]) (st' := []) (P1 := (ab_pI P3 1 4 (0 : Int32))) rfl ⟨trivial, trivial, trivial, trivial⟩ ?_
  refine tr_lt (fun P4 => ?_)
  refine tr_blk 3 (pc' := 33) (rows' := kb_199_0.drop 19) (loc' := [.inr (9, 0, 0, 1), .inl (.int a1)]) (st' := []) (P1 := (ab_pI P4 1 5 (0 : Int32))) rfl ⟨trivial, trivial, trivial, trivial⟩ ?_
  refine tr_lt (fun P5 => ?_)
  refine tr_blk 3 (pc' := 38) (rows' := kb_199_0.drop 22) (loc' := [.inr (9, 0, 0, 1), .inl (.int a1)]) (st' := []) (P1 := (ab_pI P5 1 6 (-1 : Int32))) rfl ⟨trivial, trivial, trivial, trivial⟩ ?_
  refine tr_lt (fun P6 => ?_)
  exact tr_reV (z := km_199) rfl rfl rfl
def f_347 (P : ab_P) (a1 : Int32) : Option Int32 :=
    if a1 < (0 : Int32) then
      some (-1 : Int32)
    else
    if a1 < (600 : Int32) then
      if ab_gi a1 600 then
      some ((P.1 2 a1.toNatClampNeg) &&& (255 : Int32))
      else none
    else
    some (-1 : Int32)
theorem t_347 {xs : Nat × (Nat → Int32)} {d : Nat} (P : ab_P) : ∀ (a1 : Int32), ab_tr xs (rI P) (d + 0) 347 0 [] [.inr (9, 0, 0, 1), .inl (.int a1)] [] P (f_347 P a1) := by
  intro a1
  unfold f_347
  refine tr_nil (rows2 := kb_347_0) rfl (List.cons_ne_nil _ _) ?_
  refine tr_blk 1 (pc' := 1) (rows' := kb_347_0.drop 1) (loc' := [.inr (9, 0, 0, 1), .inl (.int a1)]) (st' := [.inl (.int a1)]) (P1 := P) rfl ⟨trivial, trivial⟩ ?_
  refine tr_if (fun h2 => ?_) (fun h2 => ?_)
  · refine tr_ifT (cd := .lt) h2 ?_
    refine tr_nil (rows2 := kb_347_26) rfl (List.cons_ne_nil _ _) ?_
    refine tr_blk 1 (pc' := 27) (rows' := kb_347_26.drop 1) (loc' := [.inr (9, 0, 0, 1), .inl (.int a1)]) (st' := [.inl (.int (-1 : Int32))]) (P1 := P) rfl ⟨trivial, trivial⟩ ?_
    refine tr_nil (rows2 := kb_347_27) rfl (List.cons_ne_nil _ _) ?_
    exact tr_reI (z := km_347) rfl ⟨_, rfl, rfl⟩ rfl
  · refine tr_ifF (cd := .lt) h2 ?_
    refine tr_blk 4 (pc' := 10) (rows' := kb_347_0.drop 6) (loc' := [.inr (9, 0, 0, 1), .inl (.int a1)]) (st' := [.inl (.int (600 : Int32)), .inl (.int a1)]) (P1 := P) rfl ⟨trivial, trivial, trivial, (Or.inl (by decide)), trivial⟩ ?_
    refine tr_if (fun h3 => ?_) (fun h3 => ?_)
    · refine tr_icF (cd := .ge) (Int32.not_le.mpr h3) ?_
      refine tr_gd (fun h1 => ?_)
      refine tr_blk 6 (pc' := 23) (rows' := kb_347_0.drop 13) (loc' := [.inr (9, 0, 0, 1), .inl (.int a1)]) (st' := [.inl (.int ((P.1 2 a1.toNatClampNeg) &&& (255 : Int32)))]) (P1 := P) rfl ⟨trivial, trivial, trivial, h1, trivial, trivial, trivial⟩ ?_
      refine tr_goto ?_
      refine tr_nil (rows2 := kb_347_27) rfl (List.cons_ne_nil _ _) ?_
      exact tr_reI (z := km_347) rfl ⟨_, rfl, rfl⟩ rfl
    · refine tr_icT (cd := .ge) (Int32.not_lt.mp h3) ?_
      refine tr_nil (rows2 := kb_347_26) rfl (List.cons_ne_nil _ _) ?_
      refine tr_blk 1 (pc' := 27) (rows' := kb_347_26.drop 1) (loc' := [.inr (9, 0, 0, 1), .inl (.int a1)]) (st' := [.inl (.int (-1 : Int32))]) (P1 := P) rfl ⟨trivial, trivial⟩ ?_
      refine tr_nil (rows2 := kb_347_27) rfl (List.cons_ne_nil _ _) ?_
      exact tr_reI (z := km_347) rfl ⟨_, rfl, rfl⟩ rfl
def f_319_5 : Nat → Int32 → ab_P → Option (Int32 × ab_P)
  | 0, _, _ => none
  | n + 1, x1, P =>
    if x1 < (P.1 1 2) then
      Option.bind (f_347 P x1) fun v2 =>
      if v2 = (32 : Int32) then
        f_319_5 n (x1 + 1) P
      else
      ab_lt (ab_pI P 1 3 x1) fun P3 =>
      some (v2, P3)
    else
    ab_lt (ab_pI P 1 3 (P.1 1 2)) fun P1 =>
    some ((-1 : Int32), P1)
theorem t_319_5 {xs : Nat × (Nat → Int32)} {d : Nat} : ∀ n : Nat, ∀ (x1 : Int32) (d2 : ab_V) (P : ab_P), ab_tr xs wI (d + 1) 319 5 [] [.inr (9, 0, 0, 1), .inl (.int x1), d2] [] P (f_319_5 n x1 P) := by
  intro n
  induction n with
  | zero => intro x1 d2 P; exact tr_no
  | succ n ih =>
    intro x1 d2 P
    refine tr_nil (rows2 := kb_319_5) rfl (List.cons_ne_nil _ _) ?_
    refine tr_blk 3 (pc' := 10) (rows' := kb_319_5.drop 3) (loc' := [.inr (9, 0, 0, 1), .inl (.int x1), d2]) (st' := [.inl (.int (P.1 1 2)), .inl (.int x1)]) (P1 := P) rfl ⟨trivial, trivial, trivial, trivial⟩ ?_
    refine tr_if (fun h4 => ?_) (fun h4 => ?_)
    · refine tr_icF (cd := .ge) (Int32.not_le.mpr h4) ?_
      refine tr_blk 2 (pc' := 15) (rows' := kb_319_5.drop 6) (loc' := [.inr (9, 0, 0, 1), .inl (.int x1), d2]) (st' := [.inl (.int x1), .inr (9, 0, 0, 1)]) (P1 := P) rfl ⟨trivial, trivial, trivial⟩ ?_
      refine tr_cRI (z := km_347) (av := [.inr (9, 0, 0, 1), .inl (.int x1)]) (st' := []) rfl rfl rfl (Nat.le_of_ble_eq_true rfl) ⟨rfl, Or.inl (by decide)⟩ rfl (Nat.le_of_ble_eq_true rfl) (t_347 P x1) (fun v2 => ?_)
      refine tr_blk 3 (pc' := 22) (rows' := kb_319_5.drop 10) (loc' := [.inr (9, 0, 0, 1), .inl (.int x1), .inl (.int v2)]) (st' := [.inl (.int (32 : Int32)), .inl (.int v2)]) (P1 := P) rfl ⟨trivial, trivial, trivial, trivial⟩ ?_
      refine tr_if (fun h5 => ?_) (fun h5 => ?_)
      · refine tr_icT (cd := .eq) h5 ?_
        refine tr_nil (rows2 := kb_319_32) rfl (List.cons_ne_nil _ _) ?_
        refine tr_blk 1 (pc' := 35) (rows' := kb_319_32.drop 1) (loc' := [.inr (9, 0, 0, 1), .inl (.int (x1 + 1)), .inl (.int v2)]) (st' := []) (P1 := P) rfl ⟨trivial, trivial⟩ ?_
        refine tr_goto ?_
        exact ih (x1 + 1) (.inl (.int v2)) P
      · refine tr_icF (cd := .eq) h5 ?_
        refine tr_blk 3 (pc' := 30) (rows' := kb_319_5.drop 14) (loc' := [.inr (9, 0, 0, 1), .inl (.int x1), .inl (.int v2)]) (st' := []) (P1 := (ab_pI P 1 3 x1)) rfl ⟨trivial, trivial, trivial, trivial⟩ ?_
        refine tr_lt (fun P3 => ?_)
        refine tr_blk 1 (pc' := 31) (rows' := kb_319_5.drop 15) (loc' := [.inr (9, 0, 0, 1), .inl (.int x1), .inl (.int v2)]) (st' := [.inl (.int v2)]) (P1 := P3) rfl ⟨trivial, trivial⟩ ?_
        exact tr_reI (z := km_319) rfl ⟨_, rfl, rfl⟩ rfl
    · refine tr_icT (cd := .ge) (Int32.not_lt.mp h4) ?_
      refine tr_nil (rows2 := kb_319_38) rfl (List.cons_ne_nil _ _) ?_
      refine tr_blk 4 (pc' := 46) (rows' := kb_319_38.drop 4) (loc' := [.inr (9, 0, 0, 1), .inl (.int x1), d2]) (st' := []) (P1 := (ab_pI P 1 3 (P.1 1 2))) rfl ⟨trivial, trivial, trivial, trivial, trivial⟩ ?_
      refine tr_lt (fun P1 => ?_)
      refine tr_blk 1 (pc' := 47) (rows' := kb_319_38.drop 5) (loc' := [.inr (9, 0, 0, 1), .inl (.int x1), d2]) (st' := [.inl (.int (-1 : Int32))]) (P1 := P1) rfl ⟨trivial, trivial⟩ ?_
      exact tr_reI (z := km_319) rfl ⟨_, rfl, rfl⟩ rfl
def f_319 (N : Nat) (P : ab_P) : Option (Int32 × ab_P) :=
    f_319_5 N (P.1 1 3) P
theorem t_319 {xs : Nat × (Nat → Int32)} {d : Nat} (N : Nat) : ∀ (P : ab_P), ab_tr xs wI (d + 1) 319 0 [] [.inr (9, 0, 0, 1), ab_top, ab_top] [] P (f_319 N P) := by
  intro P
  unfold f_319
  refine tr_nil (rows2 := kb_319_0) rfl (List.cons_ne_nil _ _) ?_
  refine tr_blk 3 (pc' := 5) (rows' := kb_319_0.drop 3) (loc' := [.inr (9, 0, 0, 1), .inl (.int (P.1 1 3)), ab_top]) (st' := []) (P1 := P) rfl ⟨trivial, trivial, trivial, trivial⟩ ?_
  exact t_319_5 N (P.1 1 3) (ab_top) P
def f_282 (N : Nat) (P : ab_P) : Option (Int32 × ab_P) :=
    if (P.1 1 5) = (0 : Int32) then
      ab_b2 (f_319 N P) fun v2 P1 =>
      if v2 = (-1 : Int32) then
        some ((0 : Int32), P1)
      else
      some ((1 : Int32), P1)
    else
    some ((0 : Int32), P)
theorem t_282 {xs : Nat × (Nat → Int32)} {d : Nat} (N : Nat) : ∀ (P : ab_P), ab_tr xs wI (d + 2) 282 0 [] [.inr (9, 0, 0, 1)] [] P (f_282 N P) := by
  intro P
  unfold f_282
  refine tr_nil (rows2 := kb_282_0) rfl (List.cons_ne_nil _ _) ?_
  refine tr_blk 2 (pc' := 4) (rows' := kb_282_0.drop 2) (loc' := [.inr (9, 0, 0, 1)]) (st' := [.inl (.int (P.1 1 5))]) (P1 := P) rfl ⟨trivial, trivial, trivial⟩ ?_
  refine tr_if (fun h3 => ?_) (fun h3 => ?_)
  · refine tr_ifF (cd := .ne) (fun q => q h3) ?_
    refine tr_blk 1 (pc' := 8) (rows' := kb_282_0.drop 4) (loc' := [.inr (9, 0, 0, 1)]) (st' := [.inr (9, 0, 0, 1)]) (P1 := P) rfl ⟨trivial, trivial⟩ ?_
    refine tr_cWI (z := km_319) (av := [.inr (9, 0, 0, 1)]) (st' := []) rfl rfl rfl (Nat.le_of_ble_eq_true rfl) ⟨rfl, Or.inl (by decide)⟩ rfl (Nat.le_of_ble_eq_true rfl) (t_319 N P) (fun v2 P1 => ?_)
    refine tr_blk 1 (pc' := 12) (rows' := kb_282_0.drop 6) (loc' := [.inr (9, 0, 0, 1)]) (st' := [.inl (.int (-1 : Int32)), .inl (.int v2)]) (P1 := P1) rfl ⟨trivial, trivial⟩ ?_
    refine tr_if (fun h4 => ?_) (fun h4 => ?_)
    · refine tr_icT (cd := .eq) h4 ?_
      refine tr_nil (rows2 := kb_282_19) rfl (List.cons_ne_nil _ _) ?_
      refine tr_blk 1 (pc' := 20) (rows' := kb_282_19.drop 1) (loc' := [.inr (9, 0, 0, 1)]) (st' := [.inl (.int (0 : Int32))]) (P1 := P1) rfl ⟨trivial, trivial⟩ ?_
      refine tr_nil (rows2 := kb_282_20) rfl (List.cons_ne_nil _ _) ?_
      exact tr_reI (z := km_282) rfl ⟨_, rfl, rfl⟩ rfl
    · refine tr_icF (cd := .eq) h4 ?_
      refine tr_blk 1 (pc' := 16) (rows' := kb_282_0.drop 8) (loc' := [.inr (9, 0, 0, 1)]) (st' := [.inl (.int (1 : Int32))]) (P1 := P1) rfl ⟨trivial, trivial⟩ ?_
      refine tr_goto ?_
      refine tr_nil (rows2 := kb_282_20) rfl (List.cons_ne_nil _ _) ?_
      exact tr_reI (z := km_282) rfl ⟨_, rfl, rfl⟩ rfl
  · refine tr_ifT (cd := .ne) h3 ?_
    refine tr_nil (rows2 := kb_282_19) rfl (List.cons_ne_nil _ _) ?_
    refine tr_blk 1 (pc' := 20) (rows' := kb_282_19.drop 1) (loc' := [.inr (9, 0, 0, 1)]) (st' := [.inl (.int (0 : Int32))]) (P1 := P) rfl ⟨trivial, trivial⟩ ?_
    refine tr_nil (rows2 := kb_282_20) rfl (List.cons_ne_nil _ _) ?_
    exact tr_reI (z := km_282) rfl ⟨_, rfl, rfl⟩ rfl
def f_290 (a1 : Int32) (a2 : Int32) (P : ab_P) : Option ab_P :=
    if (P.1 1 5) = (0 : Int32) then
      ab_lt (ab_pI P 1 5 a1) fun P1 =>
      ab_lt (ab_pI P1 1 6 a2) fun P2 =>
      some P2
    else
    some P
theorem t_290 {xs : Nat × (Nat → Int32)} {d : Nat} : ∀ (a1 : Int32) (a2 : Int32) (P : ab_P), ab_tr xs wV (d + 0) 290 0 [] [.inr (9, 0, 0, 1), .inl (.int a1), .inl (.int a2)] [] P (f_290 a1 a2 P) := by
  intro a1 a2 P
  unfold f_290
  refine tr_nil (rows2 := kb_290_0) rfl (List.cons_ne_nil _ _) ?_
  refine tr_blk 2 (pc' := 4) (rows' := kb_290_0.drop 2) (loc' := [.inr (9, 0, 0, 1), .inl (.int a1), .inl (.int a2)]) (st' := [.inl (.int (P.1 1 5))]) (P1 := P) rfl ⟨trivial, trivial, trivial⟩ ?_
  refine tr_if (fun h3 => ?_) (fun h3 => ?_)
  · refine tr_ifF (cd := .ne) (fun q => q h3) ?_
    refine tr_blk 3 (pc' := 12) (rows' := kb_290_0.drop 6) (loc' := [.inr (9, 0, 0, 1), .inl (.int a1), .inl (.int a2)]) (st' := []) (P1 := (ab_pI P 1 5 a1)) rfl ⟨trivial, trivial, trivial, trivial⟩ ?_
    refine tr_lt (fun P1 => ?_)
    refine tr_blk 3 (pc' := 17) (rows' := kb_290_0.drop 9) (loc' := [.inr (9, 0, 0, 1), .inl (.int a1), .inl (.int a2)]) (st' := []) (P1 := (ab_pI P1 1 6 a2)) rfl ⟨trivial, trivial, trivial, trivial⟩ ?_
    refine tr_lt (fun P2 => ?_)
    refine tr_nil (rows2 := kb_290_17) rfl (List.cons_ne_nil _ _) ?_
    exact tr_reV (z := km_290) rfl rfl rfl
  · refine tr_ifT (cd := .ne) h3 ?_
    refine tr_nil (rows2 := kb_290_17) rfl (List.cons_ne_nil _ _) ?_
    exact tr_reV (z := km_290) rfl rfl rfl
def f_356_0 (P : ab_P) : Option Int32 :=
    some (0 : Int32)
theorem t_356_0 {xs : Nat × (Nat → Int32)} {d : Nat} (P : ab_P) : ab_tr xs (rI P) (d + 0) 356 0 [] [.inr (30, 0, 0, 2)] [] P (f_356_0 P) := by
  unfold f_356_0
  refine tr_nil (rows2 := kb_356_0) rfl (List.cons_ne_nil _ _) ?_
  refine tr_blk 1 (pc' := 3) (rows' := kb_356_0.drop 1) (loc' := [.inr (30, 0, 0, 2)]) (st' := [.inl (.int (1 : Int32))]) (P1 := P) rfl ⟨trivial, trivial⟩ ?_
  refine tr_ifF (cd := .eq) (ab_cdF (by decide)) ?_
  refine tr_blk 2 (pc' := 10) (rows' := kb_356_0.drop 4) (loc' := [.inr (30, 0, 0, 2)]) (st' := [.inl (.int (0 : Int32))]) (P1 := P) rfl ⟨trivial, trivial, trivial⟩ ?_
  refine tr_goto ?_
  refine tr_nil (rows2 := kb_356_14) rfl (List.cons_ne_nil _ _) ?_
  exact tr_reI (z := km_356) rfl ⟨_, rfl, rfl⟩ rfl
def f_354_0 (P : ab_P) : Option Int32 :=
    Option.bind (f_356_0 P) fun v1 =>
    some ((32 : Int32) >>> (v1 &&& 31))
theorem t_354_0 {xs : Nat × (Nat → Int32)} {d : Nat} (P : ab_P) : ab_tr xs (rI P) (d + 1) 354 0 [] [.inr (30, 0, 0, 2)] [] P (f_354_0 P) := by
  unfold f_354_0
  refine tr_nil (rows2 := kb_354_0) rfl (List.cons_ne_nil _ _) ?_
  refine tr_blk 4 (pc' := 6) (rows' := kb_354_0.drop 4) (loc' := [.inr (30, 0, 0, 2)]) (st' := [.inr (30, 0, 0, 2), .inl (.int (32 : Int32))]) (P1 := P) rfl ⟨trivial, trivial, (Or.inr (Or.inr (Or.inr (by decide)))), trivial, trivial⟩ ?_
  refine tr_cRI (z := km_356) (av := [.inr (30, 0, 0, 2)]) (st' := [.inl (.int (32 : Int32))]) rfl rfl rfl (Nat.le_of_ble_eq_true rfl) ⟨rfl, Or.inr (by decide)⟩ rfl (Nat.le_of_ble_eq_true rfl) (t_356_0 P) (fun v1 => ?_)
  refine tr_blk 1 (pc' := 10) (rows' := kb_354_0.drop 6) (loc' := [.inr (30, 0, 0, 2)]) (st' := [.inl (.int ((32 : Int32) >>> (v1 &&& 31)))]) (P1 := P) rfl ⟨trivial, trivial⟩ ?_
  exact tr_reI (z := km_354) rfl ⟨_, rfl, rfl⟩ rfl
def f_357_0 (P : ab_P) : Option Int32 :=
    some (1 : Int32)
theorem t_357_0 {xs : Nat × (Nat → Int32)} {d : Nat} (P : ab_P) : ab_tr xs (rI P) (d + 0) 357 0 [] [.inr (30, 0, 0, 2)] [] P (f_357_0 P) := by
  unfold f_357_0
  refine tr_nil (rows2 := kb_357_0) rfl (List.cons_ne_nil _ _) ?_
  refine tr_blk 1 (pc' := 3) (rows' := kb_357_0.drop 1) (loc' := [.inr (30, 0, 0, 2)]) (st' := [.inl (.int (1 : Int32))]) (P1 := P) rfl ⟨trivial, trivial⟩ ?_
  refine tr_ifF (cd := .eq) (ab_cdF (by decide)) ?_
  refine tr_blk 2 (pc' := 10) (rows' := kb_357_0.drop 4) (loc' := [.inr (30, 0, 0, 2)]) (st' := [.inl (.int (0 : Int32))]) (P1 := P) rfl ⟨trivial, trivial, trivial⟩ ?_
  refine tr_ifF (cd := .ne) (ab_cdF (by decide)) ?_
  refine tr_blk 1 (pc' := 14) (rows' := kb_357_0.drop 6) (loc' := [.inr (30, 0, 0, 2)]) (st' := [.inl (.int (1 : Int32))]) (P1 := P) rfl ⟨trivial, trivial⟩ ?_
  refine tr_goto ?_
  refine tr_nil (rows2 := kb_357_18) rfl (List.cons_ne_nil _ _) ?_
  exact tr_reI (z := km_357) rfl ⟨_, rfl, rfl⟩ rfl
def f_358_0 (P : ab_P) (a1 : Int32) : Option Int32 :=
    if (¬ a1 < 0 ∧ a1 < (32 : Int32)) then
    if ab_gi a1 32 then
    if vp_nar .char ((((ab_txc 0 a1.toNatClampNeg) &&& (255 : Int32))).toUInt32 % 65536).toInt32 = ((((ab_txc 0 a1.toNatClampNeg) &&& (255 : Int32))).toUInt32 % 65536).toInt32 then
    some ((((ab_txc 0 a1.toNatClampNeg) &&& (255 : Int32))).toUInt32 % 65536).toInt32
    else none
    else none
    else none
theorem t_358_0 {xs : Nat × (Nat → Int32)} {d : Nat} (P : ab_P) : ∀ (a1 : Int32), ab_tr xs (rI P) (d + 0) 358 0 [] [.inr (33, 32, 0, 3), .inl (.int a1)] [] P (f_358_0 P a1) := by
  intro a1
  unfold f_358_0
  refine tr_nil (rows2 := kb_358_0) rfl (List.cons_ne_nil _ _) ?_
  refine tr_gd (fun h1 => ?_)
  refine tr_gd (fun h2 => ?_)
  refine tr_gd (fun h3 => ?_)
  refine tr_blk 10 (pc' := 14) (rows' := kb_358_0.drop 10) (loc' := [.inr (33, 32, 0, 3), .inl (.int a1)]) (st' := [.inl (.int ((((ab_txc 0 a1.toNatClampNeg) &&& (255 : Int32))).toUInt32 % 65536).toInt32)]) (P1 := P) rfl ⟨trivial, trivial, (Or.inr (Or.inr (Or.inr (by decide)))), ⟨h1, Nat.le_of_ble_eq_true rfl⟩, trivial, trivial, ⟨h2, rfl, rfl, by decide⟩, trivial, trivial, trivial, trivial⟩ ?_
  exact tr_reI (z := km_358) rfl ⟨_, rfl, ab_nar (by decide) h3⟩ rfl
def f_355_0 (P : ab_P) (a1 : Int32) : Option Int32 :=
    Option.bind (f_357_0 P) fun v1 =>
    if v1 = (0 : Int32) then
      none
    else
    Option.bind (f_358_0 P a1) fun v2 =>
    if vp_nar .char v2 = v2 then
    some v2
    else none
theorem t_355_0 {xs : Nat × (Nat → Int32)} {d : Nat} (P : ab_P) : ∀ (a1 : Int32), ab_tr xs (rI P) (d + 1) 355 0 [] [.inr (30, 0, 0, 2), .inl (.int a1)] [] P (f_355_0 P a1) := by
  intro a1
  unfold f_355_0
  refine tr_nil (rows2 := kb_355_0) rfl (List.cons_ne_nil _ _) ?_
  refine tr_blk 1 (pc' := 1) (rows' := kb_355_0.drop 1) (loc' := [.inr (30, 0, 0, 2), .inl (.int a1)]) (st' := [.inr (30, 0, 0, 2)]) (P1 := P) rfl ⟨trivial, trivial⟩ ?_
  refine tr_cRI (z := km_357) (av := [.inr (30, 0, 0, 2)]) (st' := []) rfl rfl rfl (Nat.le_of_ble_eq_true rfl) ⟨rfl, Or.inr (by decide)⟩ rfl (Nat.le_of_ble_eq_true rfl) (t_357_0 P) (fun v1 => ?_)
  refine tr_if (fun h4 => ?_) (fun h4 => ?_)
  · refine tr_ifT (cd := .eq) h4 ?_
    refine tr_nil (rows2 := kb_355_16) rfl (List.cons_ne_nil _ _) ?_
    refine tr_blk 3 (pc' := 21) (rows' := kb_355_16.drop 3) (loc' := [.inr (30, 0, 0, 2), .inl (.int a1)]) (st' := [.inl (.int a1), .inr (33, 32, 0, 3)]) (P1 := P) rfl ⟨trivial, trivial, trivial, trivial⟩ ?_
    exact tr_no
  · refine tr_ifF (cd := .eq) h4 ?_
    refine tr_blk 3 (pc' := 12) (rows' := kb_355_0.drop 6) (loc' := [.inr (30, 0, 0, 2), .inl (.int a1)]) (st' := [.inl (.int a1), .inr (33, 32, 0, 3)]) (P1 := P) rfl ⟨trivial, trivial, trivial, trivial⟩ ?_
    refine tr_cRI (z := km_358) (av := [.inr (33, 32, 0, 3), .inl (.int a1)]) (st' := []) rfl rfl rfl (Nat.le_of_ble_eq_true rfl) trivial rfl (Nat.le_of_ble_eq_true rfl) (t_358_0 P a1) (fun v2 => ?_)
    refine tr_gd (fun h3 => ?_)
    exact tr_reI (z := km_355) rfl ⟨_, rfl, ab_nar (by decide) h3⟩ rfl
def f_349_0_43 (P : ab_P) (H14 : Int32 → Int32 → Int32 → Int32 → Int32 → Option Int32) (x2 : Int32) (x3 : Int32) (x4 : Int32) (x5 : Int32) (x6 : Int32) (s0 : Int32) : Option Int32 :=
    if s0 = (32 : Int32) then
      if x5 = (0 : Int32) then
        H14 x2 (x3 + 1) (P.1 1 4) (1 : Int32) (x6 + 1)
      else
      if x4 = x2 then
        some x3
      else
      H14 x2 (x3 + 1) (P.1 1 4) (1 : Int32) (x6 + 1)
    else
    if x5 = (0 : Int32) then
      H14 x2 x3 (x4 + 1) (0 : Int32) (x6 + 1)
    else
    if x4 < x2 then
      Option.bind (f_347 P x4) fun v4 =>
      if v4 = s0 then
        H14 x2 x3 (x4 + 1) (1 : Int32) (x6 + 1)
      else
      H14 x2 x3 (x4 + 1) (0 : Int32) (x6 + 1)
    else
    H14 x2 x3 (x4 + 1) (0 : Int32) (x6 + 1)
theorem t_349_0_43 {xs : Nat × (Nat → Int32)} {d : Nat} (P : ab_P) (H14 : Int32 → Int32 → Int32 → Int32 → Int32 → Option Int32) (hH14 : ∀ (x2 : Int32) (x3 : Int32) (x4 : Int32) (x5 : Int32) (x6 : Int32) (d7 : ab_V), ab_tr xs (rI P) (d + 2) 349 14 [] [.inr (9, 0, 0, 1), .inr (30, 0, 0, 2), .inl (.int x2), .inl (.int x3), .inl (.int x4), .inl (.int x5), .inl (.int x6), d7] [] P (H14 x2 x3 x4 x5 x6)) : ∀ (x2 : Int32) (x3 : Int32) (x4 : Int32) (x5 : Int32) (x6 : Int32) (s0 : Int32) (d7 : ab_V), ab_tr xs (rI P) (d + 2) 349 43 [] [.inr (9, 0, 0, 1), .inr (30, 0, 0, 2), .inl (.int x2), .inl (.int x3), .inl (.int x4), .inl (.int x5), .inl (.int x6), d7] [.inl (.int s0)] P (f_349_0_43 P H14 x2 x3 x4 x5 x6 s0) := by
  intro x2 x3 x4 x5 x6 s0 d7
  unfold f_349_0_43
  refine tr_nil (rows2 := kb_349_43) rfl (List.cons_ne_nil _ _) ?_
  refine tr_blk 3 (pc' := 49) (rows' := kb_349_43.drop 3) (loc' := [.inr (9, 0, 0, 1), .inr (30, 0, 0, 2), .inl (.int x2), .inl (.int x3), .inl (.int x4), .inl (.int x5), .inl (.int x6), .inl (.int s0)]) (st' := [.inl (.int (32 : Int32)), .inl (.int s0)]) (P1 := P) rfl ⟨trivial, trivial, trivial, trivial⟩ ?_
  refine tr_if (fun h5 => ?_) (fun h5 => ?_)
  · refine tr_icT (cd := .eq) h5 ?_
    refine tr_nil (rows2 := kb_349_87) rfl (List.cons_ne_nil _ _) ?_
    refine tr_blk 1 (pc' := 89) (rows' := kb_349_87.drop 1) (loc' := [.inr (9, 0, 0, 1), .inr (30, 0, 0, 2), .inl (.int x2), .inl (.int x3), .inl (.int x4), .inl (.int x5), .inl (.int x6), .inl (.int s0)]) (st' := [.inl (.int x5)]) (P1 := P) rfl ⟨trivial, trivial⟩ ?_
    refine tr_if (fun h6 => ?_) (fun h6 => ?_)
    · refine tr_ifT (cd := .eq) h6 ?_
      refine tr_nil (rows2 := kb_349_100) rfl (List.cons_ne_nil _ _) ?_
      refine tr_blk 6 (pc' := 112) (rows' := kb_349_100.drop 6) (loc' := [.inr (9, 0, 0, 1), .inr (30, 0, 0, 2), .inl (.int x2), .inl (.int (x3 + 1)), .inl (.int (P.1 1 4)), .inl (.int (1 : Int32)), .inl (.int x6), .inl (.int s0)]) (st' := []) (P1 := P) rfl ⟨trivial, trivial, trivial, trivial, trivial, trivial, trivial⟩ ?_
      refine tr_nil (rows2 := kb_349_112) rfl (List.cons_ne_nil _ _) ?_
      refine tr_blk 1 (pc' := 115) (rows' := kb_349_112.drop 1) (loc' := [.inr (9, 0, 0, 1), .inr (30, 0, 0, 2), .inl (.int x2), .inl (.int (x3 + 1)), .inl (.int (P.1 1 4)), .inl (.int (1 : Int32)), .inl (.int (x6 + 1)), .inl (.int s0)]) (st' := []) (P1 := P) rfl ⟨trivial, trivial⟩ ?_
      refine tr_goto ?_
      exact hH14 x2 (x3 + 1) (P.1 1 4) (1 : Int32) (x6 + 1) (.inl (.int s0))
    · refine tr_ifF (cd := .eq) h6 ?_
      refine tr_blk 2 (pc' := 95) (rows' := kb_349_87.drop 4) (loc' := [.inr (9, 0, 0, 1), .inr (30, 0, 0, 2), .inl (.int x2), .inl (.int x3), .inl (.int x4), .inl (.int x5), .inl (.int x6), .inl (.int s0)]) (st' := [.inl (.int x2), .inl (.int x4)]) (P1 := P) rfl ⟨trivial, trivial, trivial⟩ ?_
      refine tr_if (fun h7 => ?_) (fun h7 => ?_)
      · refine tr_icF (cd := .ne) (fun q => q h7) ?_
        refine tr_blk 1 (pc' := 99) (rows' := kb_349_87.drop 6) (loc' := [.inr (9, 0, 0, 1), .inr (30, 0, 0, 2), .inl (.int x2), .inl (.int x3), .inl (.int x4), .inl (.int x5), .inl (.int x6), .inl (.int s0)]) (st' := [.inl (.int x3)]) (P1 := P) rfl ⟨trivial, trivial⟩ ?_
        exact tr_reI (z := km_349) rfl ⟨_, rfl, rfl⟩ rfl
      · refine tr_icT (cd := .ne) h7 ?_
        refine tr_nil (rows2 := kb_349_100) rfl (List.cons_ne_nil _ _) ?_
        refine tr_blk 6 (pc' := 112) (rows' := kb_349_100.drop 6) (loc' := [.inr (9, 0, 0, 1), .inr (30, 0, 0, 2), .inl (.int x2), .inl (.int (x3 + 1)), .inl (.int (P.1 1 4)), .inl (.int (1 : Int32)), .inl (.int x6), .inl (.int s0)]) (st' := []) (P1 := P) rfl ⟨trivial, trivial, trivial, trivial, trivial, trivial, trivial⟩ ?_
        refine tr_nil (rows2 := kb_349_112) rfl (List.cons_ne_nil _ _) ?_
        refine tr_blk 1 (pc' := 115) (rows' := kb_349_112.drop 1) (loc' := [.inr (9, 0, 0, 1), .inr (30, 0, 0, 2), .inl (.int x2), .inl (.int (x3 + 1)), .inl (.int (P.1 1 4)), .inl (.int (1 : Int32)), .inl (.int (x6 + 1)), .inl (.int s0)]) (st' := []) (P1 := P) rfl ⟨trivial, trivial⟩ ?_
        refine tr_goto ?_
        exact hH14 x2 (x3 + 1) (P.1 1 4) (1 : Int32) (x6 + 1) (.inl (.int s0))
  · refine tr_icF (cd := .eq) h5 ?_
    refine tr_blk 1 (pc' := 54) (rows' := kb_349_43.drop 5) (loc' := [.inr (9, 0, 0, 1), .inr (30, 0, 0, 2), .inl (.int x2), .inl (.int x3), .inl (.int x4), .inl (.int x5), .inl (.int x6), .inl (.int s0)]) (st' := [.inl (.int x5)]) (P1 := P) rfl ⟨trivial, trivial⟩ ?_
    refine tr_if (fun h8 => ?_) (fun h8 => ?_)
    · refine tr_ifT (cd := .eq) h8 ?_
      refine tr_nil (rows2 := kb_349_78) rfl (List.cons_ne_nil _ _) ?_
      refine tr_blk 1 (pc' := 79) (rows' := kb_349_78.drop 1) (loc' := [.inr (9, 0, 0, 1), .inr (30, 0, 0, 2), .inl (.int x2), .inl (.int x3), .inl (.int x4), .inl (.int x5), .inl (.int x6), .inl (.int s0)]) (st' := [.inl (.int (0 : Int32))]) (P1 := P) rfl ⟨trivial, trivial⟩ ?_
      refine tr_nil (rows2 := kb_349_79) rfl (List.cons_ne_nil _ _) ?_
      refine tr_blk 2 (pc' := 84) (rows' := kb_349_79.drop 2) (loc' := [.inr (9, 0, 0, 1), .inr (30, 0, 0, 2), .inl (.int x2), .inl (.int x3), .inl (.int (x4 + 1)), .inl (.int (0 : Int32)), .inl (.int x6), .inl (.int s0)]) (st' := []) (P1 := P) rfl ⟨trivial, trivial, trivial⟩ ?_
      refine tr_goto ?_
      refine tr_nil (rows2 := kb_349_112) rfl (List.cons_ne_nil _ _) ?_
      refine tr_blk 1 (pc' := 115) (rows' := kb_349_112.drop 1) (loc' := [.inr (9, 0, 0, 1), .inr (30, 0, 0, 2), .inl (.int x2), .inl (.int x3), .inl (.int (x4 + 1)), .inl (.int (0 : Int32)), .inl (.int (x6 + 1)), .inl (.int s0)]) (st' := []) (P1 := P) rfl ⟨trivial, trivial⟩ ?_
      refine tr_goto ?_
      exact hH14 x2 x3 (x4 + 1) (0 : Int32) (x6 + 1) (.inl (.int s0))
    · refine tr_ifF (cd := .eq) h8 ?_
      refine tr_blk 2 (pc' := 60) (rows' := kb_349_43.drop 8) (loc' := [.inr (9, 0, 0, 1), .inr (30, 0, 0, 2), .inl (.int x2), .inl (.int x3), .inl (.int x4), .inl (.int x5), .inl (.int x6), .inl (.int s0)]) (st' := [.inl (.int x2), .inl (.int x4)]) (P1 := P) rfl ⟨trivial, trivial, trivial⟩ ?_
      refine tr_if (fun h9 => ?_) (fun h9 => ?_)
      · refine tr_icF (cd := .ge) (Int32.not_le.mpr h9) ?_
        refine tr_blk 2 (pc' := 66) (rows' := kb_349_43.drop 11) (loc' := [.inr (9, 0, 0, 1), .inr (30, 0, 0, 2), .inl (.int x2), .inl (.int x3), .inl (.int x4), .inl (.int x5), .inl (.int x6), .inl (.int s0)]) (st' := [.inl (.int x4), .inr (9, 0, 0, 1)]) (P1 := P) rfl ⟨trivial, trivial, trivial⟩ ?_
        refine tr_cRI (z := km_347) (av := [.inr (9, 0, 0, 1), .inl (.int x4)]) (st' := []) rfl rfl rfl (Nat.le_of_ble_eq_true rfl) ⟨rfl, Or.inl (by decide)⟩ rfl (Nat.le_of_ble_eq_true rfl) (t_347 P x4) (fun v4 => ?_)
        refine tr_blk 1 (pc' := 71) (rows' := kb_349_43.drop 13) (loc' := [.inr (9, 0, 0, 1), .inr (30, 0, 0, 2), .inl (.int x2), .inl (.int x3), .inl (.int x4), .inl (.int x5), .inl (.int x6), .inl (.int s0)]) (st' := [.inl (.int s0), .inl (.int v4)]) (P1 := P) rfl ⟨trivial, trivial⟩ ?_
        refine tr_if (fun h10 => ?_) (fun h10 => ?_)
        · refine tr_icF (cd := .ne) (fun q => q h10) ?_
          refine tr_blk 1 (pc' := 75) (rows' := kb_349_43.drop 15) (loc' := [.inr (9, 0, 0, 1), .inr (30, 0, 0, 2), .inl (.int x2), .inl (.int x3), .inl (.int x4), .inl (.int x5), .inl (.int x6), .inl (.int s0)]) (st' := [.inl (.int (1 : Int32))]) (P1 := P) rfl ⟨trivial, trivial⟩ ?_
          refine tr_goto ?_
          refine tr_nil (rows2 := kb_349_79) rfl (List.cons_ne_nil _ _) ?_
          refine tr_blk 2 (pc' := 84) (rows' := kb_349_79.drop 2) (loc' := [.inr (9, 0, 0, 1), .inr (30, 0, 0, 2), .inl (.int x2), .inl (.int x3), .inl (.int (x4 + 1)), .inl (.int (1 : Int32)), .inl (.int x6), .inl (.int s0)]) (st' := []) (P1 := P) rfl ⟨trivial, trivial, trivial⟩ ?_
          refine tr_goto ?_
          refine tr_nil (rows2 := kb_349_112) rfl (List.cons_ne_nil _ _) ?_
          refine tr_blk 1 (pc' := 115) (rows' := kb_349_112.drop 1) (loc' := [.inr (9, 0, 0, 1), .inr (30, 0, 0, 2), .inl (.int x2), .inl (.int x3), .inl (.int (x4 + 1)), .inl (.int (1 : Int32)), .inl (.int (x6 + 1)), .inl (.int s0)]) (st' := []) (P1 := P) rfl ⟨trivial, trivial⟩ ?_
          refine tr_goto ?_
          exact hH14 x2 x3 (x4 + 1) (1 : Int32) (x6 + 1) (.inl (.int s0))
        · refine tr_icT (cd := .ne) h10 ?_
          refine tr_nil (rows2 := kb_349_78) rfl (List.cons_ne_nil _ _) ?_
          refine tr_blk 1 (pc' := 79) (rows' := kb_349_78.drop 1) (loc' := [.inr (9, 0, 0, 1), .inr (30, 0, 0, 2), .inl (.int x2), .inl (.int x3), .inl (.int x4), .inl (.int x5), .inl (.int x6), .inl (.int s0)]) (st' := [.inl (.int (0 : Int32))]) (P1 := P) rfl ⟨trivial, trivial⟩ ?_
          refine tr_nil (rows2 := kb_349_79) rfl (List.cons_ne_nil _ _) ?_
          refine tr_blk 2 (pc' := 84) (rows' := kb_349_79.drop 2) (loc' := [.inr (9, 0, 0, 1), .inr (30, 0, 0, 2), .inl (.int x2), .inl (.int x3), .inl (.int (x4 + 1)), .inl (.int (0 : Int32)), .inl (.int x6), .inl (.int s0)]) (st' := []) (P1 := P) rfl ⟨trivial, trivial, trivial⟩ ?_
          refine tr_goto ?_
          refine tr_nil (rows2 := kb_349_112) rfl (List.cons_ne_nil _ _) ?_
          refine tr_blk 1 (pc' := 115) (rows' := kb_349_112.drop 1) (loc' := [.inr (9, 0, 0, 1), .inr (30, 0, 0, 2), .inl (.int x2), .inl (.int x3), .inl (.int (x4 + 1)), .inl (.int (0 : Int32)), .inl (.int (x6 + 1)), .inl (.int s0)]) (st' := []) (P1 := P) rfl ⟨trivial, trivial⟩ ?_
          refine tr_goto ?_
          exact hH14 x2 x3 (x4 + 1) (0 : Int32) (x6 + 1) (.inl (.int s0))
      · refine tr_icT (cd := .ge) (Int32.not_lt.mp h9) ?_
        refine tr_nil (rows2 := kb_349_78) rfl (List.cons_ne_nil _ _) ?_
        refine tr_blk 1 (pc' := 79) (rows' := kb_349_78.drop 1) (loc' := [.inr (9, 0, 0, 1), .inr (30, 0, 0, 2), .inl (.int x2), .inl (.int x3), .inl (.int x4), .inl (.int x5), .inl (.int x6), .inl (.int s0)]) (st' := [.inl (.int (0 : Int32))]) (P1 := P) rfl ⟨trivial, trivial⟩ ?_
        refine tr_nil (rows2 := kb_349_79) rfl (List.cons_ne_nil _ _) ?_
        refine tr_blk 2 (pc' := 84) (rows' := kb_349_79.drop 2) (loc' := [.inr (9, 0, 0, 1), .inr (30, 0, 0, 2), .inl (.int x2), .inl (.int x3), .inl (.int (x4 + 1)), .inl (.int (0 : Int32)), .inl (.int x6), .inl (.int s0)]) (st' := []) (P1 := P) rfl ⟨trivial, trivial, trivial⟩ ?_
        refine tr_goto ?_
        refine tr_nil (rows2 := kb_349_112) rfl (List.cons_ne_nil _ _) ?_
        refine tr_blk 1 (pc' := 115) (rows' := kb_349_112.drop 1) (loc' := [.inr (9, 0, 0, 1), .inr (30, 0, 0, 2), .inl (.int x2), .inl (.int x3), .inl (.int (x4 + 1)), .inl (.int (0 : Int32)), .inl (.int (x6 + 1)), .inl (.int s0)]) (st' := []) (P1 := P) rfl ⟨trivial, trivial⟩ ?_
        refine tr_goto ?_
        exact hH14 x2 x3 (x4 + 1) (0 : Int32) (x6 + 1) (.inl (.int s0))
def f_349_0_14 (P : ab_P) : Nat → Int32 → Int32 → Int32 → Int32 → Int32 → Option Int32
  | 0, _, _, _, _, _ => none
  | n + 1, x2, x3, x4, x5, x6 =>
    Option.bind (f_354_0 P) fun v1 =>
    if v1 < x6 then
      some (-1 : Int32)
    else
    Option.bind (f_354_0 P) fun v2 =>
    if x6 < v2 then
      Option.bind (f_355_0 P x6) fun v3 =>
      f_349_0_43 P (fun y0 y1 y2 y3 y4 => f_349_0_14 P n y0 y1 y2 y3 y4) x2 x3 x4 x5 x6 v3
    else
    f_349_0_43 P (fun y0 y1 y2 y3 y4 => f_349_0_14 P n y0 y1 y2 y3 y4) x2 x3 x4 x5 x6 (32 : Int32)
theorem t_349_0_14 {xs : Nat × (Nat → Int32)} {d : Nat} (P : ab_P) : ∀ n : Nat, ∀ (x2 : Int32) (x3 : Int32) (x4 : Int32) (x5 : Int32) (x6 : Int32) (d7 : ab_V), ab_tr xs (rI P) (d + 2) 349 14 [] [.inr (9, 0, 0, 1), .inr (30, 0, 0, 2), .inl (.int x2), .inl (.int x3), .inl (.int x4), .inl (.int x5), .inl (.int x6), d7] [] P (f_349_0_14 P n x2 x3 x4 x5 x6) := by
  intro n
  induction n with
  | zero => intro x2 x3 x4 x5 x6 d7; exact tr_no
  | succ n ih =>
    intro x2 x3 x4 x5 x6 d7
    refine tr_nil (rows2 := kb_349_14) rfl (List.cons_ne_nil _ _) ?_
    refine tr_blk 2 (pc' := 17) (rows' := kb_349_14.drop 2) (loc' := [.inr (9, 0, 0, 1), .inr (30, 0, 0, 2), .inl (.int x2), .inl (.int x3), .inl (.int x4), .inl (.int x5), .inl (.int x6), d7]) (st' := [.inr (30, 0, 0, 2), .inl (.int x6)]) (P1 := P) rfl ⟨trivial, trivial, trivial⟩ ?_
    refine tr_cRI (z := km_354) (av := [.inr (30, 0, 0, 2)]) (st' := [.inl (.int x6)]) rfl rfl rfl (Nat.le_of_ble_eq_true rfl) ⟨rfl, Or.inr (by decide)⟩ rfl (Nat.le_of_ble_eq_true rfl) (t_354_0 P) (fun v1 => ?_)
    refine tr_if (fun h11 => ?_) (fun h11 => ?_)
    · refine tr_icT (cd := .gt) h11 ?_
      refine tr_nil (rows2 := kb_349_118) rfl (List.cons_ne_nil _ _) ?_
      refine tr_blk 1 (pc' := 119) (rows' := kb_349_118.drop 1) (loc' := [.inr (9, 0, 0, 1), .inr (30, 0, 0, 2), .inl (.int x2), .inl (.int x3), .inl (.int x4), .inl (.int x5), .inl (.int x6), d7]) (st' := [.inl (.int (-1 : Int32))]) (P1 := P) rfl ⟨trivial, trivial⟩ ?_
      exact tr_reI (z := km_349) rfl ⟨_, rfl, rfl⟩ rfl
    · refine tr_icF (cd := .gt) h11 ?_
      refine tr_blk 2 (pc' := 26) (rows' := kb_349_14.drop 6) (loc' := [.inr (9, 0, 0, 1), .inr (30, 0, 0, 2), .inl (.int x2), .inl (.int x3), .inl (.int x4), .inl (.int x5), .inl (.int x6), d7]) (st' := [.inr (30, 0, 0, 2), .inl (.int x6)]) (P1 := P) rfl ⟨trivial, trivial, trivial⟩ ?_
      refine tr_cRI (z := km_354) (av := [.inr (30, 0, 0, 2)]) (st' := [.inl (.int x6)]) rfl rfl rfl (Nat.le_of_ble_eq_true rfl) ⟨rfl, Or.inr (by decide)⟩ rfl (Nat.le_of_ble_eq_true rfl) (t_354_0 P) (fun v2 => ?_)
      refine tr_if (fun h12 => ?_) (fun h12 => ?_)
      · refine tr_icF (cd := .ge) (Int32.not_le.mpr h12) ?_
        refine tr_blk 2 (pc' := 35) (rows' := kb_349_14.drop 10) (loc' := [.inr (9, 0, 0, 1), .inr (30, 0, 0, 2), .inl (.int x2), .inl (.int x3), .inl (.int x4), .inl (.int x5), .inl (.int x6), d7]) (st' := [.inl (.int x6), .inr (30, 0, 0, 2)]) (P1 := P) rfl ⟨trivial, trivial, trivial⟩ ?_
        refine tr_cRI (z := km_355) (av := [.inr (30, 0, 0, 2), .inl (.int x6)]) (st' := []) rfl rfl rfl (Nat.le_of_ble_eq_true rfl) ⟨rfl, Or.inr (by decide)⟩ rfl (Nat.le_of_ble_eq_true rfl) (t_355_0 P x6) (fun v3 => ?_)
        refine tr_goto ?_
        exact t_349_0_43 P _ ih x2 x3 x4 x5 x6 v3 (d7)
      · refine tr_icT (cd := .ge) (Int32.not_lt.mp h12) ?_
        refine tr_nil (rows2 := kb_349_41) rfl (List.cons_ne_nil _ _) ?_
        refine tr_blk 1 (pc' := 43) (rows' := kb_349_41.drop 1) (loc' := [.inr (9, 0, 0, 1), .inr (30, 0, 0, 2), .inl (.int x2), .inl (.int x3), .inl (.int x4), .inl (.int x5), .inl (.int x6), d7]) (st' := [.inl (.int (32 : Int32))]) (P1 := P) rfl ⟨trivial, trivial⟩ ?_
        exact t_349_0_43 P _ ih x2 x3 x4 x5 x6 (32 : Int32) (d7)
def f_349_0 (N : Nat) (P : ab_P) (a2 : Int32) : Option Int32 :=
    f_349_0_14 P N a2 (0 : Int32) (P.1 1 4) (1 : Int32) (0 : Int32)
theorem t_349_0 {xs : Nat × (Nat → Int32)} {d : Nat} (N : Nat) (P : ab_P) : ∀ (a2 : Int32), ab_tr xs (rI P) (d + 2) 349 0 [] [.inr (9, 0, 0, 1), .inr (30, 0, 0, 2), .inl (.int a2), ab_top, ab_top, ab_top, ab_top, ab_top] [] P (f_349_0 N P a2) := by
  intro a2
  unfold f_349_0
  refine tr_nil (rows2 := kb_349_0) rfl (List.cons_ne_nil _ _) ?_
  refine tr_blk 9 (pc' := 14) (rows' := kb_349_0.drop 9) (loc' := [.inr (9, 0, 0, 1), .inr (30, 0, 0, 2), .inl (.int a2), .inl (.int (0 : Int32)), .inl (.int (P.1 1 4)), .inl (.int (1 : Int32)), .inl (.int (0 : Int32)), ab_top]) (st' := []) (P1 := P) rfl ⟨trivial, trivial, trivial, trivial, trivial, trivial, trivial, trivial, trivial, trivial⟩ ?_
  exact t_349_0_14 P N a2 (0 : Int32) (P.1 1 4) (1 : Int32) (0 : Int32) (ab_top)
def f_348 (P : ab_P) (a0 : Int32) : Option Int32 :=
    if a0 < (97 : Int32) then
      some (0 : Int32)
    else
    if (122 : Int32) < a0 then
      some (0 : Int32)
    else
    some (1 : Int32)
theorem t_348 {xs : Nat × (Nat → Int32)} {d : Nat} (P : ab_P) : ∀ (a0 : Int32), ab_tr xs (rI P) (d + 0) 348 0 [] [.inl (.int a0)] [] P (f_348 P a0) := by
  intro a0
  unfold f_348
  refine tr_nil (rows2 := kb_348_0) rfl (List.cons_ne_nil _ _) ?_
  refine tr_blk 2 (pc' := 3) (rows' := kb_348_0.drop 2) (loc' := [.inl (.int a0)]) (st' := [.inl (.int (97 : Int32)), .inl (.int a0)]) (P1 := P) rfl ⟨trivial, trivial, trivial⟩ ?_
  refine tr_if (fun h1 => ?_) (fun h1 => ?_)
  · refine tr_icT (cd := .lt) h1 ?_
    refine tr_nil (rows2 := kb_348_16) rfl (List.cons_ne_nil _ _) ?_
    refine tr_blk 1 (pc' := 17) (rows' := kb_348_16.drop 1) (loc' := [.inl (.int a0)]) (st' := [.inl (.int (0 : Int32))]) (P1 := P) rfl ⟨trivial, trivial⟩ ?_
    refine tr_nil (rows2 := kb_348_17) rfl (List.cons_ne_nil _ _) ?_
    exact tr_reI (z := km_348) rfl ⟨_, rfl, rfl⟩ rfl
  · refine tr_icF (cd := .lt) h1 ?_
    refine tr_blk 2 (pc' := 9) (rows' := kb_348_0.drop 5) (loc' := [.inl (.int a0)]) (st' := [.inl (.int (122 : Int32)), .inl (.int a0)]) (P1 := P) rfl ⟨trivial, trivial, trivial⟩ ?_
    refine tr_if (fun h2 => ?_) (fun h2 => ?_)
    · refine tr_icT (cd := .gt) h2 ?_
      refine tr_nil (rows2 := kb_348_16) rfl (List.cons_ne_nil _ _) ?_
      refine tr_blk 1 (pc' := 17) (rows' := kb_348_16.drop 1) (loc' := [.inl (.int a0)]) (st' := [.inl (.int (0 : Int32))]) (P1 := P) rfl ⟨trivial, trivial⟩ ?_
      refine tr_nil (rows2 := kb_348_17) rfl (List.cons_ne_nil _ _) ?_
      exact tr_reI (z := km_348) rfl ⟨_, rfl, rfl⟩ rfl
    · refine tr_icF (cd := .gt) h2 ?_
      refine tr_blk 1 (pc' := 13) (rows' := kb_348_0.drop 7) (loc' := [.inl (.int a0)]) (st' := [.inl (.int (1 : Int32))]) (P1 := P) rfl ⟨trivial, trivial⟩ ?_
      refine tr_goto ?_
      refine tr_nil (rows2 := kb_348_17) rfl (List.cons_ne_nil _ _) ?_
      exact tr_reI (z := km_348) rfl ⟨_, rfl, rfl⟩ rfl
def f_320_0_79 (x2 : Int32) (s0 : Int32) (P : ab_P) : Option (Int32 × ab_P) :=
    if s0 = (-1 : Int32) then
      Option.bind (f_290 (1 : Int32) (P.1 1 4) P) fun P8 =>
      some (s0, P8)
    else
    ab_lt (ab_pI P 1 3 x2) fun P7 =>
    some (s0, P7)
theorem t_320_0_79 {xs : Nat × (Nat → Int32)} {d : Nat} : ∀ (x2 : Int32) (s0 : Int32) (d3 : Int32) (P : ab_P), ab_tr xs wI (d + 3) 320 79 [] [.inr (9, 0, 0, 1), .inr (30, 0, 0, 2), .inl (.int x2), .inl (.int d3)] [.inl (.int s0)] P (f_320_0_79 x2 s0 P) := by
  intro x2 s0 d3 P
  unfold f_320_0_79
  refine tr_nil (rows2 := kb_320_79) rfl (List.cons_ne_nil _ _) ?_
  refine tr_blk 3 (pc' := 82) (rows' := kb_320_79.drop 3) (loc' := [.inr (9, 0, 0, 1), .inr (30, 0, 0, 2), .inl (.int x2), .inl (.int s0)]) (st' := [.inl (.int (-1 : Int32)), .inl (.int s0)]) (P1 := P) rfl ⟨trivial, trivial, trivial, trivial⟩ ?_
  refine tr_if (fun h9 => ?_) (fun h9 => ?_)
  · refine tr_icF (cd := .ne) (fun q => q h9) ?_
    refine tr_blk 4 (pc' := 91) (rows' := kb_320_79.drop 8) (loc' := [.inr (9, 0, 0, 1), .inr (30, 0, 0, 2), .inl (.int x2), .inl (.int s0)]) (st' := [.inl (.int (P.1 1 4)), .inl (.int (1 : Int32)), .inr (9, 0, 0, 1)]) (P1 := P) rfl ⟨trivial, trivial, trivial, trivial, trivial⟩ ?_
    refine tr_cWV (z := km_290) (av := [.inr (9, 0, 0, 1), .inl (.int (1 : Int32)), .inl (.int (P.1 1 4))]) (st' := []) rfl rfl rfl (Nat.le_of_ble_eq_true rfl) ⟨rfl, Or.inl (by decide)⟩ rfl (Nat.le_of_ble_eq_true rfl) (t_290 (1 : Int32) (P.1 1 4) P) (fun P8 => ?_)
    refine tr_goto ?_
    refine tr_nil (rows2 := kb_320_102) rfl (List.cons_ne_nil _ _) ?_
    refine tr_blk 1 (pc' := 103) (rows' := kb_320_102.drop 1) (loc' := [.inr (9, 0, 0, 1), .inr (30, 0, 0, 2), .inl (.int x2), .inl (.int s0)]) (st' := [.inl (.int s0)]) (P1 := P8) rfl ⟨trivial, trivial⟩ ?_
    exact tr_reI (z := km_320) rfl ⟨_, rfl, rfl⟩ rfl
  · refine tr_icT (cd := .ne) h9 ?_
    refine tr_nil (rows2 := kb_320_97) rfl (List.cons_ne_nil _ _) ?_
    refine tr_blk 3 (pc' := 102) (rows' := kb_320_97.drop 3) (loc' := [.inr (9, 0, 0, 1), .inr (30, 0, 0, 2), .inl (.int x2), .inl (.int s0)]) (st' := []) (P1 := (ab_pI P 1 3 x2)) rfl ⟨trivial, trivial, trivial, trivial⟩ ?_
    refine tr_lt (fun P7 => ?_)
    refine tr_nil (rows2 := kb_320_102) rfl (List.cons_ne_nil _ _) ?_
    refine tr_blk 1 (pc' := 103) (rows' := kb_320_102.drop 1) (loc' := [.inr (9, 0, 0, 1), .inr (30, 0, 0, 2), .inl (.int x2), .inl (.int s0)]) (st' := [.inl (.int s0)]) (P1 := P7) rfl ⟨trivial, trivial⟩ ?_
    exact tr_reI (z := km_320) rfl ⟨_, rfl, rfl⟩ rfl
def f_320_0_61 (N : Nat) (x2 : Int32) (P : ab_P) : Option (Int32 × ab_P) :=
    if (P.1 1 4) < x2 then
      Option.bind (f_349_0 N P x2) fun v6 =>
      f_320_0_79 x2 v6 P
    else
    f_320_0_79 x2 (-1 : Int32) P
theorem t_320_0_61 {xs : Nat × (Nat → Int32)} {d : Nat} (N : Nat) : ∀ (x2 : Int32) (d3 : Int32) (P : ab_P), ab_tr xs wI (d + 3) 320 61 [] [.inr (9, 0, 0, 1), .inr (30, 0, 0, 2), .inl (.int x2), .inl (.int d3)] [] P (f_320_0_61 N x2 P) := by
  intro x2 d3 P
  unfold f_320_0_61
  refine tr_nil (rows2 := kb_320_61) rfl (List.cons_ne_nil _ _) ?_
  refine tr_blk 3 (pc' := 66) (rows' := kb_320_61.drop 3) (loc' := [.inr (9, 0, 0, 1), .inr (30, 0, 0, 2), .inl (.int x2), .inl (.int d3)]) (st' := [.inl (.int (P.1 1 4)), .inl (.int x2)]) (P1 := P) rfl ⟨trivial, trivial, trivial, trivial⟩ ?_
  refine tr_if (fun h10 => ?_) (fun h10 => ?_)
  · refine tr_icF (cd := .le) (Int32.not_le.mpr h10) ?_
    refine tr_blk 3 (pc' := 72) (rows' := kb_320_61.drop 7) (loc' := [.inr (9, 0, 0, 1), .inr (30, 0, 0, 2), .inl (.int x2), .inl (.int d3)]) (st' := [.inl (.int x2), .inr (30, 0, 0, 2), .inr (9, 0, 0, 1)]) (P1 := P) rfl ⟨trivial, trivial, trivial, trivial⟩ ?_
    refine tr_cRI (z := km_349) (av := [.inr (9, 0, 0, 1), .inr (30, 0, 0, 2), .inl (.int x2)]) (st' := []) rfl rfl rfl (Nat.le_of_ble_eq_true rfl) ⟨rfl, Or.inl (by decide)⟩ rfl (Nat.le_of_ble_eq_true rfl) (t_349_0 N P x2) (fun v6 => ?_)
    refine tr_goto ?_
    exact t_320_0_79 x2 v6 (d3) P
  · refine tr_icT (cd := .le) (Int32.not_lt.mp h10) ?_
    refine tr_nil (rows2 := kb_320_78) rfl (List.cons_ne_nil _ _) ?_
    refine tr_blk 1 (pc' := 79) (rows' := kb_320_78.drop 1) (loc' := [.inr (9, 0, 0, 1), .inr (30, 0, 0, 2), .inl (.int x2), .inl (.int d3)]) (st' := [.inl (.int (-1 : Int32))]) (P1 := P) rfl ⟨trivial, trivial⟩ ?_
    exact t_320_0_79 x2 (-1 : Int32) (d3) P
def f_320_0_32 (N : Nat) : Nat → Int32 → Int32 → ab_P → Option (Int32 × ab_P)
  | 0, _, _, _ => none
  | n + 1, x2, x3, P =>
    if x3 < (P.1 1 2) then
      Option.bind (f_347 P x3) fun v4 =>
      Option.bind (f_348 P v4) fun v5 =>
      if v5 = (0 : Int32) then
        f_320_0_61 N x2 P
      else
      f_320_0_32 N n (x3 + (1 : Int32)) (x3 + 1) P
    else
    f_320_0_61 N x2 P
theorem t_320_0_32 {xs : Nat × (Nat → Int32)} {d : Nat} (N : Nat) : ∀ n : Nat, ∀ (x2 : Int32) (x3 : Int32) (P : ab_P), ab_tr xs wI (d + 3) 320 32 [] [.inr (9, 0, 0, 1), .inr (30, 0, 0, 2), .inl (.int x2), .inl (.int x3)] [] P (f_320_0_32 N n x2 x3 P) := by
  intro n
  induction n with
  | zero => intro x2 x3 P; exact tr_no
  | succ n ih =>
    intro x2 x3 P
    refine tr_nil (rows2 := kb_320_32) rfl (List.cons_ne_nil _ _) ?_
    refine tr_blk 3 (pc' := 37) (rows' := kb_320_32.drop 3) (loc' := [.inr (9, 0, 0, 1), .inr (30, 0, 0, 2), .inl (.int x2), .inl (.int x3)]) (st' := [.inl (.int (P.1 1 2)), .inl (.int x3)]) (P1 := P) rfl ⟨trivial, trivial, trivial, trivial⟩ ?_
    refine tr_if (fun h11 => ?_) (fun h11 => ?_)
    · refine tr_icF (cd := .ge) (Int32.not_le.mpr h11) ?_
      refine tr_blk 2 (pc' := 42) (rows' := kb_320_32.drop 6) (loc' := [.inr (9, 0, 0, 1), .inr (30, 0, 0, 2), .inl (.int x2), .inl (.int x3)]) (st' := [.inl (.int x3), .inr (9, 0, 0, 1)]) (P1 := P) rfl ⟨trivial, trivial, trivial⟩ ?_
      refine tr_cRI (z := km_347) (av := [.inr (9, 0, 0, 1), .inl (.int x3)]) (st' := []) rfl rfl rfl (Nat.le_of_ble_eq_true rfl) ⟨rfl, Or.inl (by decide)⟩ rfl (Nat.le_of_ble_eq_true rfl) (t_347 P x3) (fun v4 => ?_)
      refine tr_cRI (z := km_348) (av := [.inl (.int v4)]) (st' := []) rfl rfl rfl (Nat.le_of_ble_eq_true rfl) trivial rfl (Nat.le_of_ble_eq_true rfl) (t_348 P v4) (fun v5 => ?_)
      refine tr_if (fun h12 => ?_) (fun h12 => ?_)
      · refine tr_ifT (cd := .eq) h12 ?_
        exact t_320_0_61 N x2 (x3) P
      · refine tr_ifF (cd := .eq) h12 ?_
        refine tr_blk 5 (pc' := 58) (rows' := kb_320_32.drop 14) (loc' := [.inr (9, 0, 0, 1), .inr (30, 0, 0, 2), .inl (.int (x3 + (1 : Int32))), .inl (.int (x3 + 1))]) (st' := []) (P1 := P) rfl ⟨trivial, trivial, trivial, trivial, trivial, trivial⟩ ?_
        refine tr_goto ?_
        exact ih (x3 + (1 : Int32)) (x3 + 1) P
    · refine tr_icT (cd := .ge) (Int32.not_lt.mp h11) ?_
      exact t_320_0_61 N x2 (x3) P
def f_320_0 (N : Nat) (P : ab_P) : Option (Int32 × ab_P) :=
    if (P.1 1 5) = (0 : Int32) then
      ab_b2 (f_319 N P) fun v2 P1 =>
      ab_lt (ab_pI P1 1 4 (P1.1 1 3)) fun P3 =>
      f_320_0_32 N N (P3.1 1 3) (P3.1 1 3) P3
    else
    some ((-1 : Int32), P)
theorem t_320_0 {xs : Nat × (Nat → Int32)} {d : Nat} (N : Nat) : ∀ (P : ab_P), ab_tr xs wI (d + 3) 320 0 [] [.inr (9, 0, 0, 1), .inr (30, 0, 0, 2), ab_top, ab_top] [] P (f_320_0 N P) := by
  intro P
  unfold f_320_0
  refine tr_nil (rows2 := kb_320_0) rfl (List.cons_ne_nil _ _) ?_
  refine tr_blk 2 (pc' := 4) (rows' := kb_320_0.drop 2) (loc' := [.inr (9, 0, 0, 1), .inr (30, 0, 0, 2), ab_top, ab_top]) (st' := [.inl (.int (P.1 1 5))]) (P1 := P) rfl ⟨trivial, trivial, trivial⟩ ?_
  refine tr_if (fun h13 => ?_) (fun h13 => ?_)
  · refine tr_ifT (cd := .eq) h13 ?_
    refine tr_nil (rows2 := kb_320_9) rfl (List.cons_ne_nil _ _) ?_
    refine tr_blk 1 (pc' := 10) (rows' := kb_320_9.drop 1) (loc' := [.inr (9, 0, 0, 1), .inr (30, 0, 0, 2), ab_top, ab_top]) (st' := [.inr (9, 0, 0, 1)]) (P1 := P) rfl ⟨trivial, trivial⟩ ?_
    refine tr_cWI (z := km_319) (av := [.inr (9, 0, 0, 1)]) (st' := []) rfl rfl rfl (Nat.le_of_ble_eq_true rfl) ⟨rfl, Or.inl (by decide)⟩ rfl (Nat.le_of_ble_eq_true rfl) (t_319 N P) (fun v2 P1 => ?_)
    refine tr_blk 5 (pc' := 22) (rows' := kb_320_9.drop 7) (loc' := [.inr (9, 0, 0, 1), .inr (30, 0, 0, 2), ab_top, ab_top]) (st' := []) (P1 := (ab_pI P1 1 4 (P1.1 1 3))) rfl ⟨trivial, trivial, trivial, trivial, trivial, trivial⟩ ?_
    refine tr_lt (fun P3 => ?_)
    refine tr_blk 6 (pc' := 32) (rows' := kb_320_9.drop 13) (loc' := [.inr (9, 0, 0, 1), .inr (30, 0, 0, 2), .inl (.int (P3.1 1 3)), .inl (.int (P3.1 1 3))]) (st' := []) (P1 := P3) rfl ⟨trivial, trivial, trivial, trivial, trivial, trivial, trivial⟩ ?_
    exact t_320_0_32 N N (P3.1 1 3) (P3.1 1 3) P3
  · refine tr_ifF (cd := .eq) h13 ?_
    refine tr_blk 1 (pc' := 8) (rows' := kb_320_0.drop 4) (loc' := [.inr (9, 0, 0, 1), .inr (30, 0, 0, 2), ab_top, ab_top]) (st' := [.inl (.int (-1 : Int32))]) (P1 := P) rfl ⟨trivial, trivial⟩ ?_
    exact tr_reI (z := km_320) rfl ⟨_, rfl, rfl⟩ rfl
def f_201 (P : ab_P) : Option Int32 :=
    if (P.1 1 5) = (0 : Int32) then
      some (0 : Int32)
    else
    some (1 : Int32)
theorem t_201 {xs : Nat × (Nat → Int32)} {d : Nat} (P : ab_P) : ab_tr xs (rI P) (d + 0) 201 0 [] [.inr (9, 0, 0, 1)] [] P (f_201 P) := by
  unfold f_201
  refine tr_nil (rows2 := kb_201_0) rfl (List.cons_ne_nil _ _) ?_
  refine tr_blk 2 (pc' := 4) (rows' := kb_201_0.drop 2) (loc' := [.inr (9, 0, 0, 1)]) (st' := [.inl (.int (P.1 1 5))]) (P1 := P) rfl ⟨trivial, trivial, trivial⟩ ?_
  refine tr_if (fun h1 => ?_) (fun h1 => ?_)
  · refine tr_ifT (cd := .eq) h1 ?_
    refine tr_nil (rows2 := kb_201_11) rfl (List.cons_ne_nil _ _) ?_
    refine tr_blk 1 (pc' := 12) (rows' := kb_201_11.drop 1) (loc' := [.inr (9, 0, 0, 1)]) (st' := [.inl (.int (0 : Int32))]) (P1 := P) rfl ⟨trivial, trivial⟩ ?_
    refine tr_nil (rows2 := kb_201_12) rfl (List.cons_ne_nil _ _) ?_
    exact tr_reI (z := km_201) rfl ⟨_, rfl, rfl⟩ rfl
  · refine tr_ifF (cd := .eq) h1 ?_
    refine tr_blk 1 (pc' := 8) (rows' := kb_201_0.drop 4) (loc' := [.inr (9, 0, 0, 1)]) (st' := [.inl (.int (1 : Int32))]) (P1 := P) rfl ⟨trivial, trivial⟩ ?_
    refine tr_goto ?_
    refine tr_nil (rows2 := kb_201_12) rfl (List.cons_ne_nil _ _) ?_
    exact tr_reI (z := km_201) rfl ⟨_, rfl, rfl⟩ rfl
def f_351 (P : ab_P) (a0 : Int32) : Option Int32 :=
    if a0 < (48 : Int32) then
      some (0 : Int32)
    else
    if (57 : Int32) < a0 then
      some (0 : Int32)
    else
    some (1 : Int32)
theorem t_351 {xs : Nat × (Nat → Int32)} {d : Nat} (P : ab_P) : ∀ (a0 : Int32), ab_tr xs (rI P) (d + 0) 351 0 [] [.inl (.int a0)] [] P (f_351 P a0) := by
  intro a0
  unfold f_351
  refine tr_nil (rows2 := kb_351_0) rfl (List.cons_ne_nil _ _) ?_
  refine tr_blk 2 (pc' := 3) (rows' := kb_351_0.drop 2) (loc' := [.inl (.int a0)]) (st' := [.inl (.int (48 : Int32)), .inl (.int a0)]) (P1 := P) rfl ⟨trivial, trivial, trivial⟩ ?_
  refine tr_if (fun h1 => ?_) (fun h1 => ?_)
  · refine tr_icT (cd := .lt) h1 ?_
    refine tr_nil (rows2 := kb_351_16) rfl (List.cons_ne_nil _ _) ?_
    refine tr_blk 1 (pc' := 17) (rows' := kb_351_16.drop 1) (loc' := [.inl (.int a0)]) (st' := [.inl (.int (0 : Int32))]) (P1 := P) rfl ⟨trivial, trivial⟩ ?_
    refine tr_nil (rows2 := kb_351_17) rfl (List.cons_ne_nil _ _) ?_
    exact tr_reI (z := km_351) rfl ⟨_, rfl, rfl⟩ rfl
  · refine tr_icF (cd := .lt) h1 ?_
    refine tr_blk 2 (pc' := 9) (rows' := kb_351_0.drop 5) (loc' := [.inl (.int a0)]) (st' := [.inl (.int (57 : Int32)), .inl (.int a0)]) (P1 := P) rfl ⟨trivial, trivial, trivial⟩ ?_
    refine tr_if (fun h2 => ?_) (fun h2 => ?_)
    · refine tr_icT (cd := .gt) h2 ?_
      refine tr_nil (rows2 := kb_351_16) rfl (List.cons_ne_nil _ _) ?_
      refine tr_blk 1 (pc' := 17) (rows' := kb_351_16.drop 1) (loc' := [.inl (.int a0)]) (st' := [.inl (.int (0 : Int32))]) (P1 := P) rfl ⟨trivial, trivial⟩ ?_
      refine tr_nil (rows2 := kb_351_17) rfl (List.cons_ne_nil _ _) ?_
      exact tr_reI (z := km_351) rfl ⟨_, rfl, rfl⟩ rfl
    · refine tr_icF (cd := .gt) h2 ?_
      refine tr_blk 1 (pc' := 13) (rows' := kb_351_0.drop 7) (loc' := [.inl (.int a0)]) (st' := [.inl (.int (1 : Int32))]) (P1 := P) rfl ⟨trivial, trivial⟩ ?_
      refine tr_goto ?_
      refine tr_nil (rows2 := kb_351_17) rfl (List.cons_ne_nil _ _) ?_
      exact tr_reI (z := km_351) rfl ⟨_, rfl, rfl⟩ rfl
def f_323_109 (x1 : Int32) (x2 : Int32) (x3 : Int32) (x4 : Int32) (P : ab_P) : Option (Int32 × ab_P) :=
    ab_lt (ab_pI P 1 3 x4) fun P8 =>
    if x3 < x1 then
      Option.bind (f_290 (2 : Int32) (P8.1 1 4) P8) fun P9 =>
      some ((-1 : Int32), P9)
    else
    if x2 < x3 then
      Option.bind (f_290 (2 : Int32) (P8.1 1 4) P8) fun P10 =>
      some ((-1 : Int32), P10)
    else
    some (x3, P8)
theorem t_323_109 {xs : Nat × (Nat → Int32)} {d : Nat} : ∀ (x1 : Int32) (x2 : Int32) (x3 : Int32) (x4 : Int32) (d5 : Int32) (P : ab_P), ab_tr xs wI (d + 2) 323 109 [] [.inr (9, 0, 0, 1), .inl (.int x1), .inl (.int x2), .inl (.int x3), .inl (.int x4), .inl (.int d5)] [] P (f_323_109 x1 x2 x3 x4 P) := by
  intro x1 x2 x3 x4 d5 P
  unfold f_323_109
  refine tr_nil (rows2 := kb_323_109) rfl (List.cons_ne_nil _ _) ?_
  refine tr_blk 3 (pc' := 115) (rows' := kb_323_109.drop 3) (loc' := [.inr (9, 0, 0, 1), .inl (.int x1), .inl (.int x2), .inl (.int x3), .inl (.int x4), .inl (.int d5)]) (st' := []) (P1 := (ab_pI P 1 3 x4)) rfl ⟨trivial, trivial, trivial, trivial⟩ ?_
  refine tr_lt (fun P8 => ?_)
  refine tr_blk 2 (pc' := 117) (rows' := kb_323_109.drop 5) (loc' := [.inr (9, 0, 0, 1), .inl (.int x1), .inl (.int x2), .inl (.int x3), .inl (.int x4), .inl (.int d5)]) (st' := [.inl (.int x1), .inl (.int x3)]) (P1 := P8) rfl ⟨trivial, trivial, trivial⟩ ?_
  refine tr_if (fun h11 => ?_) (fun h11 => ?_)
  · refine tr_icT (cd := .lt) h11 ?_
    refine tr_nil (rows2 := kb_323_125) rfl (List.cons_ne_nil _ _) ?_
    refine tr_blk 4 (pc' := 131) (rows' := kb_323_125.drop 4) (loc' := [.inr (9, 0, 0, 1), .inl (.int x1), .inl (.int x2), .inl (.int x3), .inl (.int x4), .inl (.int d5)]) (st' := [.inl (.int (P8.1 1 4)), .inl (.int (2 : Int32)), .inr (9, 0, 0, 1)]) (P1 := P8) rfl ⟨trivial, trivial, trivial, trivial, trivial⟩ ?_
    refine tr_cWV (z := km_290) (av := [.inr (9, 0, 0, 1), .inl (.int (2 : Int32)), .inl (.int (P8.1 1 4))]) (st' := []) rfl rfl rfl (Nat.le_of_ble_eq_true rfl) ⟨rfl, Or.inl (by decide)⟩ rfl (Nat.le_of_ble_eq_true rfl) (t_290 (2 : Int32) (P8.1 1 4) P8) (fun P9 => ?_)
    refine tr_blk 1 (pc' := 135) (rows' := kb_323_125.drop 6) (loc' := [.inr (9, 0, 0, 1), .inl (.int x1), .inl (.int x2), .inl (.int x3), .inl (.int x4), .inl (.int d5)]) (st' := [.inl (.int (-1 : Int32))]) (P1 := P9) rfl ⟨trivial, trivial⟩ ?_
    exact tr_reI (z := km_323) rfl ⟨_, rfl, rfl⟩ rfl
  · refine tr_icF (cd := .lt) h11 ?_
    refine tr_blk 2 (pc' := 122) (rows' := kb_323_109.drop 8) (loc' := [.inr (9, 0, 0, 1), .inl (.int x1), .inl (.int x2), .inl (.int x3), .inl (.int x4), .inl (.int d5)]) (st' := [.inl (.int x2), .inl (.int x3)]) (P1 := P8) rfl ⟨trivial, trivial, trivial⟩ ?_
    refine tr_if (fun h12 => ?_) (fun h12 => ?_)
    · refine tr_icF (cd := .le) (Int32.not_le.mpr h12) ?_
      refine tr_nil (rows2 := kb_323_125) rfl (List.cons_ne_nil _ _) ?_
      refine tr_blk 4 (pc' := 131) (rows' := kb_323_125.drop 4) (loc' := [.inr (9, 0, 0, 1), .inl (.int x1), .inl (.int x2), .inl (.int x3), .inl (.int x4), .inl (.int d5)]) (st' := [.inl (.int (P8.1 1 4)), .inl (.int (2 : Int32)), .inr (9, 0, 0, 1)]) (P1 := P8) rfl ⟨trivial, trivial, trivial, trivial, trivial⟩ ?_
      refine tr_cWV (z := km_290) (av := [.inr (9, 0, 0, 1), .inl (.int (2 : Int32)), .inl (.int (P8.1 1 4))]) (st' := []) rfl rfl rfl (Nat.le_of_ble_eq_true rfl) ⟨rfl, Or.inl (by decide)⟩ rfl (Nat.le_of_ble_eq_true rfl) (t_290 (2 : Int32) (P8.1 1 4) P8) (fun P10 => ?_)
      refine tr_blk 1 (pc' := 135) (rows' := kb_323_125.drop 6) (loc' := [.inr (9, 0, 0, 1), .inl (.int x1), .inl (.int x2), .inl (.int x3), .inl (.int x4), .inl (.int d5)]) (st' := [.inl (.int (-1 : Int32))]) (P1 := P10) rfl ⟨trivial, trivial⟩ ?_
      exact tr_reI (z := km_323) rfl ⟨_, rfl, rfl⟩ rfl
    · refine tr_icT (cd := .le) (Int32.not_lt.mp h12) ?_
      refine tr_nil (rows2 := kb_323_136) rfl (List.cons_ne_nil _ _) ?_
      refine tr_blk 1 (pc' := 137) (rows' := kb_323_136.drop 1) (loc' := [.inr (9, 0, 0, 1), .inl (.int x1), .inl (.int x2), .inl (.int x3), .inl (.int x4), .inl (.int d5)]) (st' := [.inl (.int x3)]) (P1 := P8) rfl ⟨trivial, trivial⟩ ?_
      exact tr_reI (z := km_323) rfl ⟨_, rfl, rfl⟩ rfl
def f_323_89 (x1 : Int32) (x2 : Int32) (x3 : Int32) (x4 : Int32) (P : ab_P) : Option (Int32 × ab_P) :=
    if x4 = (P.1 1 4) then
      Option.bind (f_290 (1 : Int32) (P.1 1 4) P) fun P7 =>
      some ((-1 : Int32), P7)
    else
    f_323_109 x1 x2 x3 x4 P
theorem t_323_89 {xs : Nat × (Nat → Int32)} {d : Nat} : ∀ (x1 : Int32) (x2 : Int32) (x3 : Int32) (x4 : Int32) (d5 : Int32) (P : ab_P), ab_tr xs wI (d + 2) 323 89 [] [.inr (9, 0, 0, 1), .inl (.int x1), .inl (.int x2), .inl (.int x3), .inl (.int x4), .inl (.int d5)] [] P (f_323_89 x1 x2 x3 x4 P) := by
  intro x1 x2 x3 x4 d5 P
  unfold f_323_89
  refine tr_nil (rows2 := kb_323_89) rfl (List.cons_ne_nil _ _) ?_
  refine tr_blk 3 (pc' := 95) (rows' := kb_323_89.drop 3) (loc' := [.inr (9, 0, 0, 1), .inl (.int x1), .inl (.int x2), .inl (.int x3), .inl (.int x4), .inl (.int d5)]) (st' := [.inl (.int (P.1 1 4)), .inl (.int x4)]) (P1 := P) rfl ⟨trivial, trivial, trivial, trivial⟩ ?_
  refine tr_if (fun h13 => ?_) (fun h13 => ?_)
  · refine tr_icF (cd := .ne) (fun q => q h13) ?_
    refine tr_blk 4 (pc' := 104) (rows' := kb_323_89.drop 8) (loc' := [.inr (9, 0, 0, 1), .inl (.int x1), .inl (.int x2), .inl (.int x3), .inl (.int x4), .inl (.int d5)]) (st' := [.inl (.int (P.1 1 4)), .inl (.int (1 : Int32)), .inr (9, 0, 0, 1)]) (P1 := P) rfl ⟨trivial, trivial, trivial, trivial, trivial⟩ ?_
    refine tr_cWV (z := km_290) (av := [.inr (9, 0, 0, 1), .inl (.int (1 : Int32)), .inl (.int (P.1 1 4))]) (st' := []) rfl rfl rfl (Nat.le_of_ble_eq_true rfl) ⟨rfl, Or.inl (by decide)⟩ rfl (Nat.le_of_ble_eq_true rfl) (t_290 (1 : Int32) (P.1 1 4) P) (fun P7 => ?_)
    refine tr_blk 1 (pc' := 108) (rows' := kb_323_89.drop 10) (loc' := [.inr (9, 0, 0, 1), .inl (.int x1), .inl (.int x2), .inl (.int x3), .inl (.int x4), .inl (.int d5)]) (st' := [.inl (.int (-1 : Int32))]) (P1 := P7) rfl ⟨trivial, trivial⟩ ?_
    exact tr_reI (z := km_323) rfl ⟨_, rfl, rfl⟩ rfl
  · refine tr_icT (cd := .ne) h13 ?_
    exact t_323_109 x1 x2 x3 x4 (d5) P
def f_323_36 : Nat → Int32 → Int32 → Int32 → Int32 → Int32 → ab_P → Option (Int32 × ab_P)
  | 0, _, _, _, _, _, _ => none
  | n + 1, x1, x2, x3, x4, x5, P =>
    if x5 < (P.1 1 2) then
      Option.bind (f_347 P x5) fun v4 =>
      Option.bind (f_351 P v4) fun v5 =>
      if v5 = (0 : Int32) then
        f_323_89 x1 x2 x3 x4 P
      else
      Option.bind (f_347 P x5) fun v6 =>
      f_323_36 n x1 x2 (ab_mn (1000000 : Int32) (((x3 * (10 : Int32)) + v6) - (48 : Int32))) (x5 + (1 : Int32)) (x5 + 1) P
    else
    f_323_89 x1 x2 x3 x4 P
theorem t_323_36 {xs : Nat × (Nat → Int32)} {d : Nat} : ∀ n : Nat, ∀ (x1 : Int32) (x2 : Int32) (x3 : Int32) (x4 : Int32) (x5 : Int32) (P : ab_P), ab_tr xs wI (d + 2) 323 36 [] [.inr (9, 0, 0, 1), .inl (.int x1), .inl (.int x2), .inl (.int x3), .inl (.int x4), .inl (.int x5)] [] P (f_323_36 n x1 x2 x3 x4 x5 P) := by
  intro n
  induction n with
  | zero => intro x1 x2 x3 x4 x5 P; exact tr_no
  | succ n ih =>
    intro x1 x2 x3 x4 x5 P
    refine tr_nil (rows2 := kb_323_36) rfl (List.cons_ne_nil _ _) ?_
    refine tr_blk 3 (pc' := 42) (rows' := kb_323_36.drop 3) (loc' := [.inr (9, 0, 0, 1), .inl (.int x1), .inl (.int x2), .inl (.int x3), .inl (.int x4), .inl (.int x5)]) (st' := [.inl (.int (P.1 1 2)), .inl (.int x5)]) (P1 := P) rfl ⟨trivial, trivial, trivial, trivial⟩ ?_
    refine tr_if (fun h14 => ?_) (fun h14 => ?_)
    · refine tr_icF (cd := .ge) (Int32.not_le.mpr h14) ?_
      refine tr_blk 2 (pc' := 48) (rows' := kb_323_36.drop 6) (loc' := [.inr (9, 0, 0, 1), .inl (.int x1), .inl (.int x2), .inl (.int x3), .inl (.int x4), .inl (.int x5)]) (st' := [.inl (.int x5), .inr (9, 0, 0, 1)]) (P1 := P) rfl ⟨trivial, trivial, trivial⟩ ?_
      refine tr_cRI (z := km_347) (av := [.inr (9, 0, 0, 1), .inl (.int x5)]) (st' := []) rfl rfl rfl (Nat.le_of_ble_eq_true rfl) ⟨rfl, Or.inl (by decide)⟩ rfl (Nat.le_of_ble_eq_true rfl) (t_347 P x5) (fun v4 => ?_)
      refine tr_cRI (z := km_351) (av := [.inl (.int v4)]) (st' := []) rfl rfl rfl (Nat.le_of_ble_eq_true rfl) trivial rfl (Nat.le_of_ble_eq_true rfl) (t_351 P v4) (fun v5 => ?_)
      refine tr_if (fun h15 => ?_) (fun h15 => ?_)
      · refine tr_ifT (cd := .eq) h15 ?_
        exact t_323_89 x1 x2 x3 x4 (x5) P
      · refine tr_ifF (cd := .eq) h15 ?_
        refine tr_blk 6 (pc' := 66) (rows' := kb_323_36.drop 15) (loc' := [.inr (9, 0, 0, 1), .inl (.int x1), .inl (.int x2), .inl (.int x3), .inl (.int x4), .inl (.int x5)]) (st' := [.inl (.int x5), .inr (9, 0, 0, 1), .inl (.int (x3 * (10 : Int32))), .inl (.int (1000000 : Int32))]) (P1 := P) rfl ⟨trivial, trivial, trivial, trivial, trivial, trivial, trivial⟩ ?_
        refine tr_cRI (z := km_347) (av := [.inr (9, 0, 0, 1), .inl (.int x5)]) (st' := [.inl (.int (x3 * (10 : Int32))), .inl (.int (1000000 : Int32))]) rfl rfl rfl (Nat.le_of_ble_eq_true rfl) ⟨rfl, Or.inl (by decide)⟩ rfl (Nat.le_of_ble_eq_true rfl) (t_347 P x5) (fun v6 => ?_)
        refine tr_blk 10 (pc' := 86) (rows' := kb_323_36.drop 26) (loc' := [.inr (9, 0, 0, 1), .inl (.int x1), .inl (.int x2), .inl (.int (ab_mn (1000000 : Int32) (((x3 * (10 : Int32)) + v6) - (48 : Int32)))), .inl (.int (x5 + (1 : Int32))), .inl (.int (x5 + 1))]) (st' := []) (P1 := P) rfl ⟨trivial, trivial, trivial, (Nat.le_of_ble_eq_true rfl), trivial, trivial, trivial, trivial, trivial, trivial, trivial⟩ ?_
        refine tr_goto ?_
        exact ih x1 x2 (ab_mn (1000000 : Int32) (((x3 * (10 : Int32)) + v6) - (48 : Int32))) (x5 + (1 : Int32)) (x5 + 1) P
    · refine tr_icT (cd := .ge) (Int32.not_lt.mp h14) ?_
      exact t_323_89 x1 x2 x3 x4 (x5) P
def f_323 (N : Nat) (a1 : Int32) (a2 : Int32) (P : ab_P) : Option (Int32 × ab_P) :=
    if (P.1 1 5) = (0 : Int32) then
      ab_b2 (f_319 N P) fun v2 P1 =>
      ab_lt (ab_pI P1 1 4 (P1.1 1 3)) fun P3 =>
      f_323_36 N a1 a2 (0 : Int32) (P3.1 1 3) (P3.1 1 3) P3
    else
    some ((-1 : Int32), P)
theorem t_323 {xs : Nat × (Nat → Int32)} {d : Nat} (N : Nat) : ∀ (a1 : Int32) (a2 : Int32) (P : ab_P), ab_tr xs wI (d + 2) 323 0 [] [.inr (9, 0, 0, 1), .inl (.int a1), .inl (.int a2), ab_top, ab_top, ab_top] [] P (f_323 N a1 a2 P) := by
  intro a1 a2 P
  unfold f_323
  refine tr_nil (rows2 := kb_323_0) rfl (List.cons_ne_nil _ _) ?_
  refine tr_blk 2 (pc' := 4) (rows' := kb_323_0.drop 2) (loc' := [.inr (9, 0, 0, 1), .inl (.int a1), .inl (.int a2), ab_top, ab_top, ab_top]) (st' := [.inl (.int (P.1 1 5))]) (P1 := P) rfl ⟨trivial, trivial, trivial⟩ ?_
  refine tr_if (fun h16 => ?_) (fun h16 => ?_)
  · refine tr_ifT (cd := .eq) h16 ?_
    refine tr_nil (rows2 := kb_323_9) rfl (List.cons_ne_nil _ _) ?_
    refine tr_blk 1 (pc' := 10) (rows' := kb_323_9.drop 1) (loc' := [.inr (9, 0, 0, 1), .inl (.int a1), .inl (.int a2), ab_top, ab_top, ab_top]) (st' := [.inr (9, 0, 0, 1)]) (P1 := P) rfl ⟨trivial, trivial⟩ ?_
    refine tr_cWI (z := km_319) (av := [.inr (9, 0, 0, 1)]) (st' := []) rfl rfl rfl (Nat.le_of_ble_eq_true rfl) ⟨rfl, Or.inl (by decide)⟩ rfl (Nat.le_of_ble_eq_true rfl) (t_319 N P) (fun v2 P1 => ?_)
    refine tr_blk 5 (pc' := 22) (rows' := kb_323_9.drop 7) (loc' := [.inr (9, 0, 0, 1), .inl (.int a1), .inl (.int a2), ab_top, ab_top, ab_top]) (st' := []) (P1 := (ab_pI P1 1 4 (P1.1 1 3))) rfl ⟨trivial, trivial, trivial, trivial, trivial, trivial⟩ ?_
    refine tr_lt (fun P3 => ?_)
    refine tr_blk 8 (pc' := 36) (rows' := kb_323_9.drop 15) (loc' := [.inr (9, 0, 0, 1), .inl (.int a1), .inl (.int a2), .inl (.int (0 : Int32)), .inl (.int (P3.1 1 3)), .inl (.int (P3.1 1 3))]) (st' := []) (P1 := P3) rfl ⟨trivial, trivial, trivial, trivial, trivial, trivial, trivial, trivial, trivial⟩ ?_
    exact t_323_36 N a1 a2 (0 : Int32) (P3.1 1 3) (P3.1 1 3) P3
  · refine tr_ifF (cd := .eq) h16 ?_
    refine tr_blk 1 (pc' := 8) (rows' := kb_323_0.drop 4) (loc' := [.inr (9, 0, 0, 1), .inl (.int a1), .inl (.int a2), ab_top, ab_top, ab_top]) (st' := [.inl (.int (-1 : Int32))]) (P1 := P) rfl ⟨trivial, trivial⟩ ?_
    exact tr_reI (z := km_323) rfl ⟨_, rfl, rfl⟩ rfl
def f_321 (i0 : Nat) (N : Nat) (P : ab_P) : Option ab_P :=
    ab_b2 (f_323 N (0 : Int32) (9 : Int32) P) fun v2 P1 =>
    if (P1.1 i0 5) < (0 : Int32) then
      some P1
    else
    if (P1.1 i0 5) < (8 : Int32) then
      if ab_gi (P1.1 i0 5) 8 then
      ab_lt (ab_pI P1 (i0 + 1) ((P1.1 i0 5)).toNatClampNeg v2) fun P4 =>
      ab_lt (ab_pI P4 i0 5 ((P4.1 i0 5) + (1 : Int32))) fun P5 =>
      some P5
      else none
    else
    some P1
theorem t_321 {xs : Nat × (Nat → Int32)} {d : Nat} (i0 : Nat) (N : Nat) : ∀ (P : ab_P), ab_tr xs wV (d + 3) 321 0 [] [.inr (10, 0, 0, i0), .inr (9, 0, 0, 1), ab_top] [] P (f_321 i0 N P) := by
  intro P
  unfold f_321
  refine tr_nil (rows2 := kb_321_0) rfl (List.cons_ne_nil _ _) ?_
  refine tr_blk 3 (pc' := 4) (rows' := kb_321_0.drop 3) (loc' := [.inr (10, 0, 0, i0), .inr (9, 0, 0, 1), ab_top]) (st' := [.inl (.int (9 : Int32)), .inl (.int (0 : Int32)), .inr (9, 0, 0, 1)]) (P1 := P) rfl ⟨trivial, trivial, trivial, trivial⟩ ?_
  refine tr_cWI (z := km_323) (av := [.inr (9, 0, 0, 1), .inl (.int (0 : Int32)), .inl (.int (9 : Int32))]) (st' := []) rfl rfl rfl (Nat.le_of_ble_eq_true rfl) ⟨rfl, Or.inl (by decide)⟩ rfl (Nat.le_of_ble_eq_true rfl) (t_323 N (0 : Int32) (9 : Int32) P) (fun v2 P1 => ?_)
  refine tr_blk 3 (pc' := 12) (rows' := kb_321_0.drop 7) (loc' := [.inr (10, 0, 0, i0), .inr (9, 0, 0, 1), .inl (.int v2)]) (st' := [.inl (.int (P1.1 i0 5))]) (P1 := P1) rfl ⟨trivial, trivial, trivial, trivial⟩ ?_
  refine tr_if (fun h6 => ?_) (fun h6 => ?_)
  · refine tr_ifT (cd := .lt) h6 ?_
    refine tr_nil (rows2 := kb_321_47) rfl (List.cons_ne_nil _ _) ?_
    exact tr_reV (z := km_321) rfl rfl rfl
  · refine tr_ifF (cd := .lt) h6 ?_
    refine tr_blk 5 (pc' := 24) (rows' := kb_321_0.drop 13) (loc' := [.inr (10, 0, 0, i0), .inr (9, 0, 0, 1), .inl (.int v2)]) (st' := [.inl (.int (8 : Int32)), .inl (.int (P1.1 i0 5))]) (P1 := P1) rfl ⟨trivial, trivial, trivial, trivial, (Or.inl (by decide)), trivial⟩ ?_
    refine tr_if (fun h7 => ?_) (fun h7 => ?_)
    · refine tr_icF (cd := .ge) (Int32.not_le.mpr h7) ?_
      refine tr_gd (fun h3 => ?_)
      refine tr_blk 6 (pc' := 37) (rows' := kb_321_0.drop 20) (loc' := [.inr (10, 0, 0, i0), .inr (9, 0, 0, 1), .inl (.int v2)]) (st' := []) (P1 := (ab_pI P1 (i0 + 1) ((P1.1 i0 5)).toNatClampNeg v2)) rfl ⟨trivial, trivial, trivial, trivial, trivial, h3, trivial⟩ ?_
      refine tr_lt (fun P4 => ?_)
      refine tr_blk 6 (pc' := 47) (rows' := kb_321_0.drop 26) (loc' := [.inr (10, 0, 0, i0), .inr (9, 0, 0, 1), .inl (.int v2)]) (st' := []) (P1 := (ab_pI P4 i0 5 ((P4.1 i0 5) + (1 : Int32)))) rfl ⟨trivial, trivial, trivial, trivial, trivial, trivial, trivial⟩ ?_
      refine tr_lt (fun P5 => ?_)
      refine tr_nil (rows2 := kb_321_47) rfl (List.cons_ne_nil _ _) ?_
      exact tr_reV (z := km_321) rfl rfl rfl
    · refine tr_icT (cd := .ge) (Int32.not_lt.mp h7) ?_
      refine tr_nil (rows2 := kb_321_47) rfl (List.cons_ne_nil _ _) ?_
      exact tr_reV (z := km_321) rfl rfl rfl
def f_324 (N : Nat) (a1 : Int32) (P : ab_P) : Option ab_P :=
    if (P.1 1 5) = (0 : Int32) then
      ab_b2 (f_319 N P) fun v2 P1 =>
      if v2 = a1 then
        ab_lt (ab_pI P1 1 3 ((P1.1 1 3) + (1 : Int32))) fun P4 =>
        some P4
      else
      Option.bind (f_290 (1 : Int32) (P1.1 1 3) P1) fun P3 =>
      some P3
    else
    some P
theorem t_324 {xs : Nat × (Nat → Int32)} {d : Nat} (N : Nat) : ∀ (a1 : Int32) (P : ab_P), ab_tr xs wV (d + 2) 324 0 [] [.inr (9, 0, 0, 1), .inl (.int a1)] [] P (f_324 N a1 P) := by
  intro a1 P
  unfold f_324
  refine tr_nil (rows2 := kb_324_0) rfl (List.cons_ne_nil _ _) ?_
  refine tr_blk 2 (pc' := 4) (rows' := kb_324_0.drop 2) (loc' := [.inr (9, 0, 0, 1), .inl (.int a1)]) (st' := [.inl (.int (P.1 1 5))]) (P1 := P) rfl ⟨trivial, trivial, trivial⟩ ?_
  refine tr_if (fun h5 => ?_) (fun h5 => ?_)
  · refine tr_ifT (cd := .eq) h5 ?_
    refine tr_nil (rows2 := kb_324_8) rfl (List.cons_ne_nil _ _) ?_
    refine tr_blk 1 (pc' := 9) (rows' := kb_324_8.drop 1) (loc' := [.inr (9, 0, 0, 1), .inl (.int a1)]) (st' := [.inr (9, 0, 0, 1)]) (P1 := P) rfl ⟨trivial, trivial⟩ ?_
    refine tr_cWI (z := km_319) (av := [.inr (9, 0, 0, 1)]) (st' := []) rfl rfl rfl (Nat.le_of_ble_eq_true rfl) ⟨rfl, Or.inl (by decide)⟩ rfl (Nat.le_of_ble_eq_true rfl) (t_319 N P) (fun v2 P1 => ?_)
    refine tr_blk 1 (pc' := 13) (rows' := kb_324_8.drop 3) (loc' := [.inr (9, 0, 0, 1), .inl (.int a1)]) (st' := [.inl (.int a1), .inl (.int v2)]) (P1 := P1) rfl ⟨trivial, trivial⟩ ?_
    refine tr_if (fun h6 => ?_) (fun h6 => ?_)
    · refine tr_icF (cd := .ne) (fun q => q h6) ?_
      refine tr_blk 6 (pc' := 26) (rows' := kb_324_8.drop 10) (loc' := [.inr (9, 0, 0, 1), .inl (.int a1)]) (st' := []) (P1 := (ab_pI P1 1 3 ((P1.1 1 3) + (1 : Int32)))) rfl ⟨trivial, trivial, trivial, trivial, trivial, trivial, trivial⟩ ?_
      refine tr_lt (fun P4 => ?_)
      refine tr_goto ?_
      refine tr_nil (rows2 := kb_324_38) rfl (List.cons_ne_nil _ _) ?_
      exact tr_reV (z := km_324) rfl rfl rfl
    · refine tr_icT (cd := .ne) h6 ?_
      refine tr_nil (rows2 := kb_324_29) rfl (List.cons_ne_nil _ _) ?_
      refine tr_blk 4 (pc' := 35) (rows' := kb_324_29.drop 4) (loc' := [.inr (9, 0, 0, 1), .inl (.int a1)]) (st' := [.inl (.int (P1.1 1 3)), .inl (.int (1 : Int32)), .inr (9, 0, 0, 1)]) (P1 := P1) rfl ⟨trivial, trivial, trivial, trivial, trivial⟩ ?_
      refine tr_cWV (z := km_290) (av := [.inr (9, 0, 0, 1), .inl (.int (1 : Int32)), .inl (.int (P1.1 1 3))]) (st' := []) rfl rfl rfl (Nat.le_of_ble_eq_true rfl) ⟨rfl, Or.inl (by decide)⟩ rfl (Nat.le_of_ble_eq_true rfl) (t_290 (1 : Int32) (P1.1 1 3) P1) (fun P3 => ?_)
      refine tr_nil (rows2 := kb_324_38) rfl (List.cons_ne_nil _ _) ?_
      exact tr_reV (z := km_324) rfl rfl rfl
  · refine tr_ifF (cd := .eq) h5 ?_
    exact tr_reV (z := km_324) rfl rfl rfl
def f_350 (N : Nat) (a1 : Int32) (a2 : Int32) (a3 : Int32) (P : ab_P) : Option (Int32 × ab_P) :=
    ab_b2 (f_323 N a2 a3 P) fun v2 P1 =>
    if v2 = a1 then
      Option.bind (f_290 (2 : Int32) (P1.1 1 4) P1) fun P3 =>
      some (v2, P3)
    else
    some (v2, P1)
theorem t_350 {xs : Nat × (Nat → Int32)} {d : Nat} (N : Nat) : ∀ (a1 : Int32) (a2 : Int32) (a3 : Int32) (P : ab_P), ab_tr xs wI (d + 3) 350 0 [] [.inr (9, 0, 0, 1), .inl (.int a1), .inl (.int a2), .inl (.int a3), ab_top] [] P (f_350 N a1 a2 a3 P) := by
  intro a1 a2 a3 P
  unfold f_350
  refine tr_nil (rows2 := kb_350_0) rfl (List.cons_ne_nil _ _) ?_
  refine tr_blk 3 (pc' := 3) (rows' := kb_350_0.drop 3) (loc' := [.inr (9, 0, 0, 1), .inl (.int a1), .inl (.int a2), .inl (.int a3), ab_top]) (st' := [.inl (.int a3), .inl (.int a2), .inr (9, 0, 0, 1)]) (P1 := P) rfl ⟨trivial, trivial, trivial, trivial⟩ ?_
  refine tr_cWI (z := km_323) (av := [.inr (9, 0, 0, 1), .inl (.int a2), .inl (.int a3)]) (st' := []) rfl rfl rfl (Nat.le_of_ble_eq_true rfl) ⟨rfl, Or.inl (by decide)⟩ rfl (Nat.le_of_ble_eq_true rfl) (t_323 N a2 a3 P) (fun v2 P1 => ?_)
  refine tr_blk 3 (pc' := 11) (rows' := kb_350_0.drop 7) (loc' := [.inr (9, 0, 0, 1), .inl (.int a1), .inl (.int a2), .inl (.int a3), .inl (.int v2)]) (st' := [.inl (.int a1), .inl (.int v2)]) (P1 := P1) rfl ⟨trivial, trivial, trivial, trivial⟩ ?_
  refine tr_if (fun h4 => ?_) (fun h4 => ?_)
  · refine tr_icF (cd := .ne) (fun q => q h4) ?_
    refine tr_blk 4 (pc' := 20) (rows' := kb_350_0.drop 12) (loc' := [.inr (9, 0, 0, 1), .inl (.int a1), .inl (.int a2), .inl (.int a3), .inl (.int v2)]) (st' := [.inl (.int (P1.1 1 4)), .inl (.int (2 : Int32)), .inr (9, 0, 0, 1)]) (P1 := P1) rfl ⟨trivial, trivial, trivial, trivial, trivial⟩ ?_
    refine tr_cWV (z := km_290) (av := [.inr (9, 0, 0, 1), .inl (.int (2 : Int32)), .inl (.int (P1.1 1 4))]) (st' := []) rfl rfl rfl (Nat.le_of_ble_eq_true rfl) ⟨rfl, Or.inl (by decide)⟩ rfl (Nat.le_of_ble_eq_true rfl) (t_290 (2 : Int32) (P1.1 1 4) P1) (fun P3 => ?_)
    refine tr_nil (rows2 := kb_350_23) rfl (List.cons_ne_nil _ _) ?_
    refine tr_blk 1 (pc' := 25) (rows' := kb_350_23.drop 1) (loc' := [.inr (9, 0, 0, 1), .inl (.int a1), .inl (.int a2), .inl (.int a3), .inl (.int v2)]) (st' := [.inl (.int v2)]) (P1 := P3) rfl ⟨trivial, trivial⟩ ?_
    exact tr_reI (z := km_350) rfl ⟨_, rfl, rfl⟩ rfl
  · refine tr_icT (cd := .ne) h4 ?_
    refine tr_nil (rows2 := kb_350_23) rfl (List.cons_ne_nil _ _) ?_
    refine tr_blk 1 (pc' := 25) (rows' := kb_350_23.drop 1) (loc' := [.inr (9, 0, 0, 1), .inl (.int a1), .inl (.int a2), .inl (.int a3), .inl (.int v2)]) (st' := [.inl (.int v2)]) (P1 := P1) rfl ⟨trivial, trivial⟩ ?_
    exact tr_reI (z := km_350) rfl ⟨_, rfl, rfl⟩ rfl
def f_322 (i0 : Nat) (N : Nat) (a2 : Int32) (P : ab_P) : Option ab_P :=
    ab_b2 (f_323 N (0 : Int32) ((P.1 i0 5) - (1 : Int32)) P) fun v2 P1 =>
    ab_b2 (f_350 N v2 (0 : Int32) ((P1.1 i0 5) - (1 : Int32)) P1) fun v4 P3 =>
    ab_b2 (f_323 N (1 : Int32) (999 : Int32) P3) fun v6 P5 =>
    if (P5.1 i0 6) < (0 : Int32) then
      some P5
    else
    if (P5.1 i0 6) < (24 : Int32) then
      if ab_gi (P5.1 i0 6) 24 then
      ab_lt (ab_pI P5 (i0 + 2) ((P5.1 i0 6)).toNatClampNeg v2) fun P8 =>
      if ab_gi (P8.1 i0 6) 24 then
      ab_lt (ab_pI P8 (i0 + 3) ((P8.1 i0 6)).toNatClampNeg v4) fun P10 =>
      if ab_gi (P10.1 i0 6) 24 then
      ab_lt (ab_pI P10 (i0 + 4) ((P10.1 i0 6)).toNatClampNeg v6) fun P12 =>
      if ab_gi (P12.1 i0 6) 24 then
      ab_lt (ab_pI P12 (i0 + 5) ((P12.1 i0 6)).toNatClampNeg a2) fun P14 =>
      ab_lt (ab_pI P14 i0 6 ((P14.1 i0 6) + (1 : Int32))) fun P15 =>
      some P15
      else none
      else none
      else none
      else none
    else
    some P5
theorem t_322 {xs : Nat × (Nat → Int32)} {d : Nat} (i0 : Nat) (N : Nat) : ∀ (a2 : Int32) (P : ab_P), ab_tr xs wV (d + 4) 322 0 [] [.inr (10, 0, 0, i0), .inr (9, 0, 0, 1), .inl (.int a2), ab_top, ab_top, ab_top] [] P (f_322 i0 N a2 P) := by
  intro a2 P
  unfold f_322
  refine tr_nil (rows2 := kb_322_0) rfl (List.cons_ne_nil _ _) ?_
  refine tr_blk 6 (pc' := 8) (rows' := kb_322_0.drop 6) (loc' := [.inr (10, 0, 0, i0), .inr (9, 0, 0, 1), .inl (.int a2), ab_top, ab_top, ab_top]) (st' := [.inl (.int ((P.1 i0 5) - (1 : Int32))), .inl (.int (0 : Int32)), .inr (9, 0, 0, 1)]) (P1 := P) rfl ⟨trivial, trivial, trivial, trivial, trivial, trivial, trivial⟩ ?_
  refine tr_cWI (z := km_323) (av := [.inr (9, 0, 0, 1), .inl (.int (0 : Int32)), .inl (.int ((P.1 i0 5) - (1 : Int32)))]) (st' := []) rfl rfl rfl (Nat.le_of_ble_eq_true rfl) ⟨rfl, Or.inl (by decide)⟩ rfl (Nat.le_of_ble_eq_true rfl) (t_323 N (0 : Int32) ((P.1 i0 5) - (1 : Int32)) P) (fun v2 P1 => ?_)
  refine tr_blk 8 (pc' := 21) (rows' := kb_322_0.drop 15) (loc' := [.inr (10, 0, 0, i0), .inr (9, 0, 0, 1), .inl (.int a2), .inl (.int v2), ab_top, ab_top]) (st' := [.inl (.int ((P1.1 i0 5) - (1 : Int32))), .inl (.int (0 : Int32)), .inl (.int v2), .inr (9, 0, 0, 1)]) (P1 := P1) rfl ⟨trivial, trivial, trivial, trivial, trivial, trivial, trivial, trivial, trivial⟩ ?_
  refine tr_cWI (z := km_350) (av := [.inr (9, 0, 0, 1), .inl (.int v2), .inl (.int (0 : Int32)), .inl (.int ((P1.1 i0 5) - (1 : Int32)))]) (st' := []) rfl rfl rfl (Nat.le_of_ble_eq_true rfl) ⟨rfl, Or.inl (by decide)⟩ rfl (Nat.le_of_ble_eq_true rfl) (t_350 N v2 (0 : Int32) ((P1.1 i0 5) - (1 : Int32)) P1) (fun v4 P3 => ?_)
  refine tr_blk 4 (pc' := 31) (rows' := kb_322_0.drop 20) (loc' := [.inr (10, 0, 0, i0), .inr (9, 0, 0, 1), .inl (.int a2), .inl (.int v2), .inl (.int v4), ab_top]) (st' := [.inl (.int (999 : Int32)), .inl (.int (1 : Int32)), .inr (9, 0, 0, 1)]) (P1 := P3) rfl ⟨trivial, trivial, trivial, trivial, trivial⟩ ?_
  refine tr_cWI (z := km_323) (av := [.inr (9, 0, 0, 1), .inl (.int (1 : Int32)), .inl (.int (999 : Int32))]) (st' := []) rfl rfl rfl (Nat.le_of_ble_eq_true rfl) ⟨rfl, Or.inl (by decide)⟩ rfl (Nat.le_of_ble_eq_true rfl) (t_323 N (1 : Int32) (999 : Int32) P3) (fun v6 P5 => ?_)
  refine tr_blk 3 (pc' := 40) (rows' := kb_322_0.drop 24) (loc' := [.inr (10, 0, 0, i0), .inr (9, 0, 0, 1), .inl (.int a2), .inl (.int v2), .inl (.int v4), .inl (.int v6)]) (st' := [.inl (.int (P5.1 i0 6))]) (P1 := P5) rfl ⟨trivial, trivial, trivial, trivial⟩ ?_
  refine tr_if (fun h16 => ?_) (fun h16 => ?_)
  · refine tr_ifT (cd := .lt) h16 ?_
    refine tr_nil (rows2 := kb_322_104) rfl (List.cons_ne_nil _ _) ?_
    exact tr_reV (z := km_322) rfl rfl rfl
  · refine tr_ifF (cd := .lt) h16 ?_
    refine tr_blk 3 (pc' := 49) (rows' := kb_322_0.drop 28) (loc' := [.inr (10, 0, 0, i0), .inr (9, 0, 0, 1), .inl (.int a2), .inl (.int v2), .inl (.int v4), .inl (.int v6)]) (st' := [.inl (.int (24 : Int32)), .inl (.int (P5.1 i0 6))]) (P1 := P5) rfl ⟨trivial, trivial, trivial, trivial⟩ ?_
    refine tr_if (fun h17 => ?_) (fun h17 => ?_)
    · refine tr_icF (cd := .ge) (Int32.not_le.mpr h17) ?_
      refine tr_gd (fun h7 => ?_)
      refine tr_blk 6 (pc' := 62) (rows' := kb_322_0.drop 35) (loc' := [.inr (10, 0, 0, i0), .inr (9, 0, 0, 1), .inl (.int a2), .inl (.int v2), .inl (.int v4), .inl (.int v6)]) (st' := []) (P1 := (ab_pI P5 (i0 + 2) ((P5.1 i0 6)).toNatClampNeg v2)) rfl ⟨trivial, trivial, trivial, trivial, trivial, h7, trivial⟩ ?_
      refine tr_lt (fun P8 => ?_)
      refine tr_gd (fun h9 => ?_)
      refine tr_blk 6 (pc' := 73) (rows' := kb_322_0.drop 41) (loc' := [.inr (10, 0, 0, i0), .inr (9, 0, 0, 1), .inl (.int a2), .inl (.int v2), .inl (.int v4), .inl (.int v6)]) (st' := []) (P1 := (ab_pI P8 (i0 + 3) ((P8.1 i0 6)).toNatClampNeg v4)) rfl ⟨trivial, trivial, trivial, trivial, trivial, h9, trivial⟩ ?_
      refine tr_lt (fun P10 => ?_)
      refine tr_gd (fun h11 => ?_)
      refine tr_blk 6 (pc' := 84) (rows' := kb_322_0.drop 47) (loc' := [.inr (10, 0, 0, i0), .inr (9, 0, 0, 1), .inl (.int a2), .inl (.int v2), .inl (.int v4), .inl (.int v6)]) (st' := []) (P1 := (ab_pI P10 (i0 + 4) ((P10.1 i0 6)).toNatClampNeg v6)) rfl ⟨trivial, trivial, trivial, trivial, trivial, h11, trivial⟩ ?_
      refine tr_lt (fun P12 => ?_)
      refine tr_gd (fun h13 => ?_)
      refine tr_blk 6 (pc' := 94) (rows' := kb_322_0.drop 53) (loc' := [.inr (10, 0, 0, i0), .inr (9, 0, 0, 1), .inl (.int a2), .inl (.int v2), .inl (.int v4), .inl (.int v6)]) (st' := []) (P1 := (ab_pI P12 (i0 + 5) ((P12.1 i0 6)).toNatClampNeg a2)) rfl ⟨trivial, trivial, trivial, trivial, trivial, h13, trivial⟩ ?_
      refine tr_lt (fun P14 => ?_)
      refine tr_blk 6 (pc' := 104) (rows' := kb_322_0.drop 59) (loc' := [.inr (10, 0, 0, i0), .inr (9, 0, 0, 1), .inl (.int a2), .inl (.int v2), .inl (.int v4), .inl (.int v6)]) (st' := []) (P1 := (ab_pI P14 i0 6 ((P14.1 i0 6) + (1 : Int32)))) rfl ⟨trivial, trivial, trivial, trivial, trivial, trivial, trivial⟩ ?_
      refine tr_lt (fun P15 => ?_)
      refine tr_nil (rows2 := kb_322_104) rfl (List.cons_ne_nil _ _) ?_
      exact tr_reV (z := km_322) rfl rfl rfl
    · refine tr_icT (cd := .ge) (Int32.not_lt.mp h17) ?_
      refine tr_nil (rows2 := kb_322_104) rfl (List.cons_ne_nil _ _) ?_
      exact tr_reV (z := km_322) rfl rfl rfl
def f_283_104 (i0 : Nat) (N : Nat) (P : ab_P) : Option ab_P :=
    Option.bind (f_321 i0 N P) fun P7 =>
    Option.bind (f_324 N (59 : Int32) P7) fun P8 =>
    some P8
theorem t_283_104 {xs : Nat × (Nat → Int32)} {d : Nat} (i0 : Nat) (N : Nat) : ∀ (d2 : Int32) (d3 : Int32) (d4 : Int32) (P : ab_P), ab_tr xs wV (d + 5) 283 104 [] [.inr (10, 0, 0, i0), .inr (9, 0, 0, 1), .inl (.int d2), .inl (.int d3), .inl (.int d4)] [] P (f_283_104 i0 N P) := by
  intro d2 d3 d4 P
  unfold f_283_104
  refine tr_nil (rows2 := kb_283_104) rfl (List.cons_ne_nil _ _) ?_
  refine tr_blk 2 (pc' := 106) (rows' := kb_283_104.drop 2) (loc' := [.inr (10, 0, 0, i0), .inr (9, 0, 0, 1), .inl (.int d2), .inl (.int d3), .inl (.int d4)]) (st' := [.inr (9, 0, 0, 1), .inr (10, 0, 0, i0)]) (P1 := P) rfl ⟨trivial, trivial, trivial⟩ ?_
  refine tr_cWV (z := km_321) (av := [.inr (10, 0, 0, i0), .inr (9, 0, 0, 1)]) (st' := []) rfl rfl rfl (Nat.le_of_ble_eq_true rfl) ⟨rfl, Or.inl (by decide)⟩ rfl (Nat.le_of_ble_eq_true rfl) (t_321 i0 N P) (fun P7 => ?_)
  refine tr_goto ?_
  refine tr_nil (rows2 := kb_283_155) rfl (List.cons_ne_nil _ _) ?_
  refine tr_blk 2 (pc' := 158) (rows' := kb_283_155.drop 2) (loc' := [.inr (10, 0, 0, i0), .inr (9, 0, 0, 1), .inl (.int d2), .inl (.int d3), .inl (.int d4)]) (st' := [.inl (.int (59 : Int32)), .inr (9, 0, 0, 1)]) (P1 := P7) rfl ⟨trivial, trivial, trivial⟩ ?_
  refine tr_cWV (z := km_324) (av := [.inr (9, 0, 0, 1), .inl (.int (59 : Int32))]) (st' := []) rfl rfl rfl (Nat.le_of_ble_eq_true rfl) ⟨rfl, Or.inl (by decide)⟩ rfl (Nat.le_of_ble_eq_true rfl) (t_324 N (59 : Int32) P7) (fun P8 => ?_)
  exact tr_reV (z := km_283) rfl rfl rfl
def f_283_124 (i0 : Nat) (N : Nat) (s0 : Int32) (P : ab_P) : Option ab_P :=
    Option.bind (f_322 i0 N s0 P) fun P9 =>
    Option.bind (f_324 N (59 : Int32) P9) fun P10 =>
    some P10
theorem t_283_124 {xs : Nat × (Nat → Int32)} {d : Nat} (i0 : Nat) (N : Nat) : ∀ (s0 : Int32) (d2 : Int32) (d3 : Int32) (d4 : Int32) (P : ab_P), ab_tr xs wV (d + 5) 283 124 [] [.inr (10, 0, 0, i0), .inr (9, 0, 0, 1), .inl (.int d2), .inl (.int d3), .inl (.int d4)] [.inl (.int s0), .inr (9, 0, 0, 1), .inr (10, 0, 0, i0)] P (f_283_124 i0 N s0 P) := by
  intro s0 d2 d3 d4 P
  unfold f_283_124
  refine tr_nil (rows2 := kb_283_124) rfl (List.cons_ne_nil _ _) ?_
  refine tr_cWV (z := km_322) (av := [.inr (10, 0, 0, i0), .inr (9, 0, 0, 1), .inl (.int s0)]) (st' := []) rfl rfl rfl (Nat.le_of_ble_eq_true rfl) ⟨rfl, Or.inl (by decide)⟩ rfl (Nat.le_of_ble_eq_true rfl) (t_322 i0 N s0 P) (fun P9 => ?_)
  refine tr_goto ?_
  refine tr_nil (rows2 := kb_283_155) rfl (List.cons_ne_nil _ _) ?_
  refine tr_blk 2 (pc' := 158) (rows' := kb_283_155.drop 2) (loc' := [.inr (10, 0, 0, i0), .inr (9, 0, 0, 1), .inl (.int d2), .inl (.int d3), .inl (.int d4)]) (st' := [.inl (.int (59 : Int32)), .inr (9, 0, 0, 1)]) (P1 := P9) rfl ⟨trivial, trivial, trivial⟩ ?_
  refine tr_cWV (z := km_324) (av := [.inr (9, 0, 0, 1), .inl (.int (59 : Int32))]) (st' := []) rfl rfl rfl (Nat.le_of_ble_eq_true rfl) ⟨rfl, Or.inl (by decide)⟩ rfl (Nat.le_of_ble_eq_true rfl) (t_324 N (59 : Int32) P9) (fun P10 => ?_)
  exact tr_reV (z := km_283) rfl rfl rfl
def f_283_130 (i0 : Nat) (N : Nat) (P : ab_P) : Option ab_P :=
    ab_b2 (f_323 N (0 : Int32) (50 : Int32) P) fun v12 P11 =>
    ab_lt (ab_pI P11 i0 7 v12) fun P13 =>
    Option.bind (f_324 N (59 : Int32) P13) fun P14 =>
    some P14
theorem t_283_130 {xs : Nat × (Nat → Int32)} {d : Nat} (i0 : Nat) (N : Nat) : ∀ (d2 : Int32) (d3 : Int32) (d4 : Int32) (P : ab_P), ab_tr xs wV (d + 5) 283 130 [] [.inr (10, 0, 0, i0), .inr (9, 0, 0, 1), .inl (.int d2), .inl (.int d3), .inl (.int d4)] [] P (f_283_130 i0 N P) := by
  intro d2 d3 d4 P
  unfold f_283_130
  refine tr_nil (rows2 := kb_283_130) rfl (List.cons_ne_nil _ _) ?_
  refine tr_blk 4 (pc' := 135) (rows' := kb_283_130.drop 4) (loc' := [.inr (10, 0, 0, i0), .inr (9, 0, 0, 1), .inl (.int d2), .inl (.int d3), .inl (.int d4)]) (st' := [.inl (.int (50 : Int32)), .inl (.int (0 : Int32)), .inr (9, 0, 0, 1), .inr (10, 0, 0, i0)]) (P1 := P) rfl ⟨trivial, trivial, trivial, trivial, trivial⟩ ?_
  refine tr_cWI (z := km_323) (av := [.inr (9, 0, 0, 1), .inl (.int (0 : Int32)), .inl (.int (50 : Int32))]) (st' := [.inr (10, 0, 0, i0)]) rfl rfl rfl (Nat.le_of_ble_eq_true rfl) ⟨rfl, Or.inl (by decide)⟩ rfl (Nat.le_of_ble_eq_true rfl) (t_323 N (0 : Int32) (50 : Int32) P) (fun v12 P11 => ?_)
  refine tr_blk 1 (pc' := 141) (rows' := kb_283_130.drop 6) (loc' := [.inr (10, 0, 0, i0), .inr (9, 0, 0, 1), .inl (.int d2), .inl (.int d3), .inl (.int d4)]) (st' := []) (P1 := (ab_pI P11 i0 7 v12)) rfl ⟨trivial, trivial⟩ ?_
  refine tr_lt (fun P13 => ?_)
  refine tr_goto ?_
  refine tr_nil (rows2 := kb_283_155) rfl (List.cons_ne_nil _ _) ?_
  refine tr_blk 2 (pc' := 158) (rows' := kb_283_155.drop 2) (loc' := [.inr (10, 0, 0, i0), .inr (9, 0, 0, 1), .inl (.int d2), .inl (.int d3), .inl (.int d4)]) (st' := [.inl (.int (59 : Int32)), .inr (9, 0, 0, 1)]) (P1 := P13) rfl ⟨trivial, trivial, trivial⟩ ?_
  refine tr_cWV (z := km_324) (av := [.inr (9, 0, 0, 1), .inl (.int (59 : Int32))]) (st' := []) rfl rfl rfl (Nat.le_of_ble_eq_true rfl) ⟨rfl, Or.inl (by decide)⟩ rfl (Nat.le_of_ble_eq_true rfl) (t_324 N (59 : Int32) P13) (fun P14 => ?_)
  exact tr_reV (z := km_283) rfl rfl rfl
def f_283_144 (i0 : Nat) (N : Nat) (P : ab_P) : Option ab_P :=
    ab_b2 (f_323 N (0 : Int32) (100 : Int32) P) fun v16 P15 =>
    ab_lt (ab_pI P15 i0 8 v16) fun P17 =>
    Option.bind (f_324 N (59 : Int32) P17) fun P18 =>
    some P18
theorem t_283_144 {xs : Nat × (Nat → Int32)} {d : Nat} (i0 : Nat) (N : Nat) : ∀ (d2 : Int32) (d3 : Int32) (d4 : Int32) (P : ab_P), ab_tr xs wV (d + 5) 283 144 [] [.inr (10, 0, 0, i0), .inr (9, 0, 0, 1), .inl (.int d2), .inl (.int d3), .inl (.int d4)] [] P (f_283_144 i0 N P) := by
  intro d2 d3 d4 P
  unfold f_283_144
  refine tr_nil (rows2 := kb_283_144) rfl (List.cons_ne_nil _ _) ?_
  refine tr_blk 4 (pc' := 149) (rows' := kb_283_144.drop 4) (loc' := [.inr (10, 0, 0, i0), .inr (9, 0, 0, 1), .inl (.int d2), .inl (.int d3), .inl (.int d4)]) (st' := [.inl (.int (100 : Int32)), .inl (.int (0 : Int32)), .inr (9, 0, 0, 1), .inr (10, 0, 0, i0)]) (P1 := P) rfl ⟨trivial, trivial, trivial, trivial, trivial⟩ ?_
  refine tr_cWI (z := km_323) (av := [.inr (9, 0, 0, 1), .inl (.int (0 : Int32)), .inl (.int (100 : Int32))]) (st' := [.inr (10, 0, 0, i0)]) rfl rfl rfl (Nat.le_of_ble_eq_true rfl) ⟨rfl, Or.inl (by decide)⟩ rfl (Nat.le_of_ble_eq_true rfl) (t_323 N (0 : Int32) (100 : Int32) P) (fun v16 P15 => ?_)
  refine tr_blk 1 (pc' := 155) (rows' := kb_283_144.drop 6) (loc' := [.inr (10, 0, 0, i0), .inr (9, 0, 0, 1), .inl (.int d2), .inl (.int d3), .inl (.int d4)]) (st' := []) (P1 := (ab_pI P15 i0 8 v16)) rfl ⟨trivial, trivial⟩ ?_
  refine tr_lt (fun P17 => ?_)
  refine tr_nil (rows2 := kb_283_155) rfl (List.cons_ne_nil _ _) ?_
  refine tr_blk 2 (pc' := 158) (rows' := kb_283_155.drop 2) (loc' := [.inr (10, 0, 0, i0), .inr (9, 0, 0, 1), .inl (.int d2), .inl (.int d3), .inl (.int d4)]) (st' := [.inl (.int (59 : Int32)), .inr (9, 0, 0, 1)]) (P1 := P17) rfl ⟨trivial, trivial, trivial⟩ ?_
  refine tr_cWV (z := km_324) (av := [.inr (9, 0, 0, 1), .inl (.int (59 : Int32))]) (st' := []) rfl rfl rfl (Nat.le_of_ble_eq_true rfl) ⟨rfl, Or.inl (by decide)⟩ rfl (Nat.le_of_ble_eq_true rfl) (t_324 N (59 : Int32) P17) (fun P18 => ?_)
  exact tr_reV (z := km_283) rfl rfl rfl
def f_283_74 (i0 : Nat) (N : Nat) (x3 : Int32) (P : ab_P) : Option ab_P :=
    if x3 = 0 then
      f_283_104 i0 N P
    else
    if x3 = 1 then
      if x3 = (1 : Int32) then
        f_283_124 i0 N (1 : Int32) P
      else
      f_283_124 i0 N (0 : Int32) P
    else
    if x3 = 2 then
      if x3 = (1 : Int32) then
        f_283_124 i0 N (1 : Int32) P
      else
      f_283_124 i0 N (0 : Int32) P
    else
    if x3 = 3 then
      f_283_130 i0 N P
    else
    f_283_144 i0 N P
theorem t_283_74 {xs : Nat × (Nat → Int32)} {d : Nat} (i0 : Nat) (N : Nat) : ∀ (x3 : Int32) (d2 : Int32) (d4 : Int32) (P : ab_P), ab_tr xs wV (d + 5) 283 74 [] [.inr (10, 0, 0, i0), .inr (9, 0, 0, 1), .inl (.int d2), .inl (.int x3), .inl (.int d4)] [] P (f_283_74 i0 N x3 P) := by
  intro x3 d2 d4 P
  unfold f_283_74
  refine tr_nil (rows2 := kb_283_74) rfl (List.cons_ne_nil _ _) ?_
  refine tr_blk 1 (pc' := 75) (rows' := kb_283_74.drop 1) (loc' := [.inr (10, 0, 0, i0), .inr (9, 0, 0, 1), .inl (.int d2), .inl (.int x3), .inl (.int d4)]) (st' := [.inl (.int x3)]) (P1 := P) rfl ⟨trivial, trivial⟩ ?_
  refine tr_if (fun h19 => ?_) (fun h19 => ?_)
  · refine tr_sw (t := 104) (by rw [h19]; rfl) ?_
    exact t_283_104 i0 N (d2) (x3) (d4) P
  refine tr_if (fun h20 => ?_) (fun h20 => ?_)
  · refine tr_sw (t := 112) (by rw [h20]; rfl) ?_
    refine tr_nil (rows2 := kb_283_112) rfl (List.cons_ne_nil _ _) ?_
    refine tr_blk 4 (pc' := 116) (rows' := kb_283_112.drop 4) (loc' := [.inr (10, 0, 0, i0), .inr (9, 0, 0, 1), .inl (.int d2), .inl (.int x3), .inl (.int d4)]) (st' := [.inl (.int (1 : Int32)), .inl (.int x3), .inr (9, 0, 0, 1), .inr (10, 0, 0, i0)]) (P1 := P) rfl ⟨trivial, trivial, trivial, trivial, trivial⟩ ?_
    refine tr_if (fun h21 => ?_) (fun h21 => ?_)
    · refine tr_icF (cd := .ne) (fun q => q h21) ?_
      refine tr_blk 1 (pc' := 120) (rows' := kb_283_112.drop 6) (loc' := [.inr (10, 0, 0, i0), .inr (9, 0, 0, 1), .inl (.int d2), .inl (.int x3), .inl (.int d4)]) (st' := [.inl (.int (1 : Int32)), .inr (9, 0, 0, 1), .inr (10, 0, 0, i0)]) (P1 := P) rfl ⟨trivial, trivial⟩ ?_
      refine tr_goto ?_
      exact t_283_124 i0 N (1 : Int32) (d2) (x3) (d4) P
    · refine tr_icT (cd := .ne) h21 ?_
      refine tr_nil (rows2 := kb_283_123) rfl (List.cons_ne_nil _ _) ?_
      refine tr_blk 1 (pc' := 124) (rows' := kb_283_123.drop 1) (loc' := [.inr (10, 0, 0, i0), .inr (9, 0, 0, 1), .inl (.int d2), .inl (.int x3), .inl (.int d4)]) (st' := [.inl (.int (0 : Int32)), .inr (9, 0, 0, 1), .inr (10, 0, 0, i0)]) (P1 := P) rfl ⟨trivial, trivial⟩ ?_
      exact t_283_124 i0 N (0 : Int32) (d2) (x3) (d4) P
  refine tr_if (fun h22 => ?_) (fun h22 => ?_)
  · refine tr_sw (t := 112) (by rw [h22]; rfl) ?_
    refine tr_nil (rows2 := kb_283_112) rfl (List.cons_ne_nil _ _) ?_
    refine tr_blk 4 (pc' := 116) (rows' := kb_283_112.drop 4) (loc' := [.inr (10, 0, 0, i0), .inr (9, 0, 0, 1), .inl (.int d2), .inl (.int x3), .inl (.int d4)]) (st' := [.inl (.int (1 : Int32)), .inl (.int x3), .inr (9, 0, 0, 1), .inr (10, 0, 0, i0)]) (P1 := P) rfl ⟨trivial, trivial, trivial, trivial, trivial⟩ ?_
    refine tr_if (fun h23 => ?_) (fun h23 => ?_)
    · refine tr_icF (cd := .ne) (fun q => q h23) ?_
      refine tr_blk 1 (pc' := 120) (rows' := kb_283_112.drop 6) (loc' := [.inr (10, 0, 0, i0), .inr (9, 0, 0, 1), .inl (.int d2), .inl (.int x3), .inl (.int d4)]) (st' := [.inl (.int (1 : Int32)), .inr (9, 0, 0, 1), .inr (10, 0, 0, i0)]) (P1 := P) rfl ⟨trivial, trivial⟩ ?_
      refine tr_goto ?_
      exact t_283_124 i0 N (1 : Int32) (d2) (x3) (d4) P
    · refine tr_icT (cd := .ne) h23 ?_
      refine tr_nil (rows2 := kb_283_123) rfl (List.cons_ne_nil _ _) ?_
      refine tr_blk 1 (pc' := 124) (rows' := kb_283_123.drop 1) (loc' := [.inr (10, 0, 0, i0), .inr (9, 0, 0, 1), .inl (.int d2), .inl (.int x3), .inl (.int d4)]) (st' := [.inl (.int (0 : Int32)), .inr (9, 0, 0, 1), .inr (10, 0, 0, i0)]) (P1 := P) rfl ⟨trivial, trivial⟩ ?_
      exact t_283_124 i0 N (0 : Int32) (d2) (x3) (d4) P
  refine tr_if (fun h24 => ?_) (fun h24 => ?_)
  · refine tr_sw (t := 130) (by rw [h24]; rfl) ?_
    exact t_283_130 i0 N (d2) (x3) (d4) P
  refine tr_sw (t := 144) (ab_swd (k := 4) (by decide) rfl ⟨ab_nei h19 (by decide), ab_nei h20 (by decide), ab_nei h22 (by decide), ab_nei h24 (by decide), trivial⟩) ?_
  exact t_283_144 i0 N (d2) (x3) (d4) P
def f_283_66 (i0 : Nat) (N : Nat) (x3 : Int32) (P : ab_P) : Option ab_P :=
    Option.bind (f_201 P) fun v5 =>
    if v5 = (0 : Int32) then
      f_283_74 i0 N x3 P
    else
    some P
theorem t_283_66 {xs : Nat × (Nat → Int32)} {d : Nat} (i0 : Nat) (N : Nat) : ∀ (x3 : Int32) (d2 : Int32) (d4 : Int32) (P : ab_P), ab_tr xs wV (d + 5) 283 66 [] [.inr (10, 0, 0, i0), .inr (9, 0, 0, 1), .inl (.int d2), .inl (.int x3), .inl (.int d4)] [] P (f_283_66 i0 N x3 P) := by
  intro x3 d2 d4 P
  unfold f_283_66
  refine tr_nil (rows2 := kb_283_66) rfl (List.cons_ne_nil _ _) ?_
  refine tr_blk 1 (pc' := 67) (rows' := kb_283_66.drop 1) (loc' := [.inr (10, 0, 0, i0), .inr (9, 0, 0, 1), .inl (.int d2), .inl (.int x3), .inl (.int d4)]) (st' := [.inr (9, 0, 0, 1)]) (P1 := P) rfl ⟨trivial, trivial⟩ ?_
  refine tr_cRI (z := km_201) (av := [.inr (9, 0, 0, 1)]) (st' := []) rfl rfl rfl (Nat.le_of_ble_eq_true rfl) ⟨rfl, Or.inl (by decide)⟩ rfl (Nat.le_of_ble_eq_true rfl) (t_201 P) (fun v5 => ?_)
  refine tr_if (fun h25 => ?_) (fun h25 => ?_)
  · refine tr_ifT (cd := .eq) h25 ?_
    exact t_283_74 i0 N x3 (d2) (d4) P
  · refine tr_ifF (cd := .eq) h25 ?_
    exact tr_reV (z := km_283) rfl rfl rfl
def f_283_36 (i0 : Nat) (N : Nat) (x3 : Int32) (P : ab_P) : Option ab_P :=
    if (P.1 i0 6) < (24 : Int32) then
      f_283_66 i0 N x3 P
    else
    Option.bind (f_290 (3 : Int32) (P.1 1 4) P) fun P6 =>
    f_283_66 i0 N x3 P6
theorem t_283_36 {xs : Nat × (Nat → Int32)} {d : Nat} (i0 : Nat) (N : Nat) : ∀ (x3 : Int32) (d2 : Int32) (P : ab_P), ab_tr xs wV (d + 5) 283 36 [] [.inr (10, 0, 0, i0), .inr (9, 0, 0, 1), .inl (.int d2), .inl (.int x3), ab_top] [] P (f_283_36 i0 N x3 P) := by
  intro x3 d2 P
  unfold f_283_36
  refine tr_nil (rows2 := kb_283_36) rfl (List.cons_ne_nil _ _) ?_
  refine tr_blk 3 (pc' := 42) (rows' := kb_283_36.drop 3) (loc' := [.inr (10, 0, 0, i0), .inr (9, 0, 0, 1), .inl (.int d2), .inl (.int x3), ab_top]) (st' := [.inl (.int (24 : Int32)), .inl (.int (P.1 i0 6))]) (P1 := P) rfl ⟨trivial, trivial, trivial, trivial⟩ ?_
  refine tr_if (fun h26 => ?_) (fun h26 => ?_)
  · refine tr_icT (cd := .lt) h26 ?_
    refine tr_nil (rows2 := kb_283_49) rfl (List.cons_ne_nil _ _) ?_
    refine tr_blk 1 (pc' := 50) (rows' := kb_283_49.drop 1) (loc' := [.inr (10, 0, 0, i0), .inr (9, 0, 0, 1), .inl (.int d2), .inl (.int x3), ab_top]) (st' := [.inl (.int (0 : Int32))]) (P1 := P) rfl ⟨trivial, trivial⟩ ?_
    refine tr_nil (rows2 := kb_283_50) rfl (List.cons_ne_nil _ _) ?_
    refine tr_blk 2 (pc' := 54) (rows' := kb_283_50.drop 2) (loc' := [.inr (10, 0, 0, i0), .inr (9, 0, 0, 1), .inl (.int d2), .inl (.int x3), .inl (.int (0 : Int32))]) (st' := [.inl (.int (0 : Int32))]) (P1 := P) rfl ⟨trivial, trivial, trivial⟩ ?_
    refine tr_ifT (cd := .eq) (ab_cdT (by decide)) ?_
    exact t_283_66 i0 N x3 (d2) ((0 : Int32)) P
  · refine tr_icF (cd := .lt) h26 ?_
    refine tr_nil (rows2 := kb_283_45) rfl (List.cons_ne_nil _ _) ?_
    refine tr_blk 1 (pc' := 46) (rows' := kb_283_45.drop 1) (loc' := [.inr (10, 0, 0, i0), .inr (9, 0, 0, 1), .inl (.int d2), .inl (.int x3), ab_top]) (st' := [.inl (.int (1 : Int32))]) (P1 := P) rfl ⟨trivial, trivial⟩ ?_
    refine tr_goto ?_
    refine tr_nil (rows2 := kb_283_50) rfl (List.cons_ne_nil _ _) ?_
    refine tr_blk 2 (pc' := 54) (rows' := kb_283_50.drop 2) (loc' := [.inr (10, 0, 0, i0), .inr (9, 0, 0, 1), .inl (.int d2), .inl (.int x3), .inl (.int (1 : Int32))]) (st' := [.inl (.int (1 : Int32))]) (P1 := P) rfl ⟨trivial, trivial, trivial⟩ ?_
    refine tr_ifF (cd := .eq) (ab_cdF (by decide)) ?_
    refine tr_blk 4 (pc' := 63) (rows' := kb_283_50.drop 7) (loc' := [.inr (10, 0, 0, i0), .inr (9, 0, 0, 1), .inl (.int d2), .inl (.int x3), .inl (.int (1 : Int32))]) (st' := [.inl (.int (P.1 1 4)), .inl (.int (3 : Int32)), .inr (9, 0, 0, 1)]) (P1 := P) rfl ⟨trivial, trivial, trivial, trivial, trivial⟩ ?_
    refine tr_cWV (z := km_290) (av := [.inr (9, 0, 0, 1), .inl (.int (3 : Int32)), .inl (.int (P.1 1 4))]) (st' := []) rfl rfl rfl (Nat.le_of_ble_eq_true rfl) ⟨rfl, Or.inl (by decide)⟩ rfl (Nat.le_of_ble_eq_true rfl) (t_290 (3 : Int32) (P.1 1 4) P) (fun P6 => ?_)
    exact t_283_66 i0 N x3 (d2) ((1 : Int32)) P6
def f_283 (i0 : Nat) (N : Nat) (a2 : Int32) (P : ab_P) : Option ab_P :=
    ab_b2 (f_320_0 N P) fun v2 P1 =>
    if a2 < (60 : Int32) then
      if v2 = (0 : Int32) then
        if (P1.1 i0 5) < (8 : Int32) then
          if v2 = (1 : Int32) then
            f_283_36 i0 N v2 P1
          else
          if v2 = (2 : Int32) then
            f_283_36 i0 N v2 P1
          else
          f_283_66 i0 N v2 P1
        else
        Option.bind (f_290 (3 : Int32) (P1.1 1 4) P1) fun P4 =>
        f_283_66 i0 N v2 P4
      else
      if v2 = (1 : Int32) then
        f_283_36 i0 N v2 P1
      else
      if v2 = (2 : Int32) then
        f_283_36 i0 N v2 P1
      else
      f_283_66 i0 N v2 P1
    else
    Option.bind (f_290 (3 : Int32) (P1.1 1 4) P1) fun P3 =>
    f_283_66 i0 N v2 P3
theorem t_283 {xs : Nat × (Nat → Int32)} {d : Nat} (i0 : Nat) (N : Nat) : ∀ (a2 : Int32) (P : ab_P), ab_tr xs wV (d + 5) 283 0 [] [.inr (10, 0, 0, i0), .inr (9, 0, 0, 1), .inl (.int a2), ab_top, ab_top] [] P (f_283 i0 N a2 P) := by
  intro a2 P
  unfold f_283
  refine tr_nil (rows2 := kb_283_0) rfl (List.cons_ne_nil _ _) ?_
  refine tr_blk 2 (pc' := 3) (rows' := kb_283_0.drop 2) (loc' := [.inr (10, 0, 0, i0), .inr (9, 0, 0, 1), .inl (.int a2), ab_top, ab_top]) (st' := [.inr (30, 0, 0, 2), .inr (9, 0, 0, 1)]) (P1 := P) rfl ⟨trivial, trivial, trivial⟩ ?_
  refine tr_cWI (z := km_320) (av := [.inr (9, 0, 0, 1), .inr (30, 0, 0, 2)]) (st' := []) rfl rfl rfl (Nat.le_of_ble_eq_true rfl) ⟨rfl, Or.inl (by decide)⟩ rfl (Nat.le_of_ble_eq_true rfl) (t_320_0 N P) (fun v2 P1 => ?_)
  refine tr_blk 3 (pc' := 10) (rows' := kb_283_0.drop 6) (loc' := [.inr (10, 0, 0, i0), .inr (9, 0, 0, 1), .inl (.int a2), .inl (.int v2), ab_top]) (st' := [.inl (.int (60 : Int32)), .inl (.int a2)]) (P1 := P1) rfl ⟨trivial, trivial, trivial, trivial⟩ ?_
  refine tr_if (fun h27 => ?_) (fun h27 => ?_)
  · refine tr_icF (cd := .ge) (Int32.not_le.mpr h27) ?_
    refine tr_blk 1 (pc' := 14) (rows' := kb_283_0.drop 8) (loc' := [.inr (10, 0, 0, i0), .inr (9, 0, 0, 1), .inl (.int a2), .inl (.int v2), ab_top]) (st' := [.inl (.int v2)]) (P1 := P1) rfl ⟨trivial, trivial⟩ ?_
    refine tr_if (fun h28 => ?_) (fun h28 => ?_)
    · refine tr_ifF (cd := .ne) (fun q => q h28) ?_
      refine tr_blk 3 (pc' := 23) (rows' := kb_283_0.drop 12) (loc' := [.inr (10, 0, 0, i0), .inr (9, 0, 0, 1), .inl (.int a2), .inl (.int v2), ab_top]) (st' := [.inl (.int (8 : Int32)), .inl (.int (P1.1 i0 5))]) (P1 := P1) rfl ⟨trivial, trivial, trivial, trivial⟩ ?_
      refine tr_if (fun h31 => ?_) (fun h31 => ?_)
      · refine tr_icF (cd := .ge) (Int32.not_le.mpr h31) ?_
        refine tr_nil (rows2 := kb_283_26) rfl (List.cons_ne_nil _ _) ?_
        refine tr_blk 2 (pc' := 28) (rows' := kb_283_26.drop 2) (loc' := [.inr (10, 0, 0, i0), .inr (9, 0, 0, 1), .inl (.int a2), .inl (.int v2), ab_top]) (st' := [.inl (.int (1 : Int32)), .inl (.int v2)]) (P1 := P1) rfl ⟨trivial, trivial, trivial⟩ ?_
        refine tr_if (fun h32 => ?_) (fun h32 => ?_)
        · refine tr_icT (cd := .eq) h32 ?_
          exact t_283_36 i0 N v2 (a2) P1
        · refine tr_icF (cd := .eq) h32 ?_
          refine tr_blk 2 (pc' := 33) (rows' := kb_283_26.drop 5) (loc' := [.inr (10, 0, 0, i0), .inr (9, 0, 0, 1), .inl (.int a2), .inl (.int v2), ab_top]) (st' := [.inl (.int (2 : Int32)), .inl (.int v2)]) (P1 := P1) rfl ⟨trivial, trivial, trivial⟩ ?_
          refine tr_if (fun h33 => ?_) (fun h33 => ?_)
          · refine tr_icF (cd := .ne) (fun q => q h33) ?_
            exact t_283_36 i0 N v2 (a2) P1
          · refine tr_icT (cd := .ne) h33 ?_
            refine tr_nil (rows2 := kb_283_49) rfl (List.cons_ne_nil _ _) ?_
            refine tr_blk 1 (pc' := 50) (rows' := kb_283_49.drop 1) (loc' := [.inr (10, 0, 0, i0), .inr (9, 0, 0, 1), .inl (.int a2), .inl (.int v2), ab_top]) (st' := [.inl (.int (0 : Int32))]) (P1 := P1) rfl ⟨trivial, trivial⟩ ?_
            refine tr_nil (rows2 := kb_283_50) rfl (List.cons_ne_nil _ _) ?_
            refine tr_blk 2 (pc' := 54) (rows' := kb_283_50.drop 2) (loc' := [.inr (10, 0, 0, i0), .inr (9, 0, 0, 1), .inl (.int a2), .inl (.int v2), .inl (.int (0 : Int32))]) (st' := [.inl (.int (0 : Int32))]) (P1 := P1) rfl ⟨trivial, trivial, trivial⟩ ?_
            refine tr_ifT (cd := .eq) (ab_cdT (by decide)) ?_
            exact t_283_66 i0 N v2 (a2) ((0 : Int32)) P1
      · refine tr_icT (cd := .ge) (Int32.not_lt.mp h31) ?_
        refine tr_nil (rows2 := kb_283_45) rfl (List.cons_ne_nil _ _) ?_
        refine tr_blk 1 (pc' := 46) (rows' := kb_283_45.drop 1) (loc' := [.inr (10, 0, 0, i0), .inr (9, 0, 0, 1), .inl (.int a2), .inl (.int v2), ab_top]) (st' := [.inl (.int (1 : Int32))]) (P1 := P1) rfl ⟨trivial, trivial⟩ ?_
        refine tr_goto ?_
        refine tr_nil (rows2 := kb_283_50) rfl (List.cons_ne_nil _ _) ?_
        refine tr_blk 2 (pc' := 54) (rows' := kb_283_50.drop 2) (loc' := [.inr (10, 0, 0, i0), .inr (9, 0, 0, 1), .inl (.int a2), .inl (.int v2), .inl (.int (1 : Int32))]) (st' := [.inl (.int (1 : Int32))]) (P1 := P1) rfl ⟨trivial, trivial, trivial⟩ ?_
        refine tr_ifF (cd := .eq) (ab_cdF (by decide)) ?_
        refine tr_blk 4 (pc' := 63) (rows' := kb_283_50.drop 7) (loc' := [.inr (10, 0, 0, i0), .inr (9, 0, 0, 1), .inl (.int a2), .inl (.int v2), .inl (.int (1 : Int32))]) (st' := [.inl (.int (P1.1 1 4)), .inl (.int (3 : Int32)), .inr (9, 0, 0, 1)]) (P1 := P1) rfl ⟨trivial, trivial, trivial, trivial, trivial⟩ ?_
        refine tr_cWV (z := km_290) (av := [.inr (9, 0, 0, 1), .inl (.int (3 : Int32)), .inl (.int (P1.1 1 4))]) (st' := []) rfl rfl rfl (Nat.le_of_ble_eq_true rfl) ⟨rfl, Or.inl (by decide)⟩ rfl (Nat.le_of_ble_eq_true rfl) (t_290 (3 : Int32) (P1.1 1 4) P1) (fun P4 => ?_)
        exact t_283_66 i0 N v2 (a2) ((1 : Int32)) P4
    · refine tr_ifT (cd := .ne) h28 ?_
      refine tr_nil (rows2 := kb_283_26) rfl (List.cons_ne_nil _ _) ?_
      refine tr_blk 2 (pc' := 28) (rows' := kb_283_26.drop 2) (loc' := [.inr (10, 0, 0, i0), .inr (9, 0, 0, 1), .inl (.int a2), .inl (.int v2), ab_top]) (st' := [.inl (.int (1 : Int32)), .inl (.int v2)]) (P1 := P1) rfl ⟨trivial, trivial, trivial⟩ ?_
      refine tr_if (fun h29 => ?_) (fun h29 => ?_)
      · refine tr_icT (cd := .eq) h29 ?_
        exact t_283_36 i0 N v2 (a2) P1
      · refine tr_icF (cd := .eq) h29 ?_
        refine tr_blk 2 (pc' := 33) (rows' := kb_283_26.drop 5) (loc' := [.inr (10, 0, 0, i0), .inr (9, 0, 0, 1), .inl (.int a2), .inl (.int v2), ab_top]) (st' := [.inl (.int (2 : Int32)), .inl (.int v2)]) (P1 := P1) rfl ⟨trivial, trivial, trivial⟩ ?_
        refine tr_if (fun h30 => ?_) (fun h30 => ?_)
        · refine tr_icF (cd := .ne) (fun q => q h30) ?_
          exact t_283_36 i0 N v2 (a2) P1
        · refine tr_icT (cd := .ne) h30 ?_
          refine tr_nil (rows2 := kb_283_49) rfl (List.cons_ne_nil _ _) ?_
          refine tr_blk 1 (pc' := 50) (rows' := kb_283_49.drop 1) (loc' := [.inr (10, 0, 0, i0), .inr (9, 0, 0, 1), .inl (.int a2), .inl (.int v2), ab_top]) (st' := [.inl (.int (0 : Int32))]) (P1 := P1) rfl ⟨trivial, trivial⟩ ?_
          refine tr_nil (rows2 := kb_283_50) rfl (List.cons_ne_nil _ _) ?_
          refine tr_blk 2 (pc' := 54) (rows' := kb_283_50.drop 2) (loc' := [.inr (10, 0, 0, i0), .inr (9, 0, 0, 1), .inl (.int a2), .inl (.int v2), .inl (.int (0 : Int32))]) (st' := [.inl (.int (0 : Int32))]) (P1 := P1) rfl ⟨trivial, trivial, trivial⟩ ?_
          refine tr_ifT (cd := .eq) (ab_cdT (by decide)) ?_
          exact t_283_66 i0 N v2 (a2) ((0 : Int32)) P1
  · refine tr_icT (cd := .ge) (Int32.not_lt.mp h27) ?_
    refine tr_nil (rows2 := kb_283_45) rfl (List.cons_ne_nil _ _) ?_
    refine tr_blk 1 (pc' := 46) (rows' := kb_283_45.drop 1) (loc' := [.inr (10, 0, 0, i0), .inr (9, 0, 0, 1), .inl (.int a2), .inl (.int v2), ab_top]) (st' := [.inl (.int (1 : Int32))]) (P1 := P1) rfl ⟨trivial, trivial⟩ ?_
    refine tr_goto ?_
    refine tr_nil (rows2 := kb_283_50) rfl (List.cons_ne_nil _ _) ?_
    refine tr_blk 2 (pc' := 54) (rows' := kb_283_50.drop 2) (loc' := [.inr (10, 0, 0, i0), .inr (9, 0, 0, 1), .inl (.int a2), .inl (.int v2), .inl (.int (1 : Int32))]) (st' := [.inl (.int (1 : Int32))]) (P1 := P1) rfl ⟨trivial, trivial, trivial⟩ ?_
    refine tr_ifF (cd := .eq) (ab_cdF (by decide)) ?_
    refine tr_blk 4 (pc' := 63) (rows' := kb_283_50.drop 7) (loc' := [.inr (10, 0, 0, i0), .inr (9, 0, 0, 1), .inl (.int a2), .inl (.int v2), .inl (.int (1 : Int32))]) (st' := [.inl (.int (P1.1 1 4)), .inl (.int (3 : Int32)), .inr (9, 0, 0, 1)]) (P1 := P1) rfl ⟨trivial, trivial, trivial, trivial, trivial⟩ ?_
    refine tr_cWV (z := km_290) (av := [.inr (9, 0, 0, 1), .inl (.int (3 : Int32)), .inl (.int (P1.1 1 4))]) (st' := []) rfl rfl rfl (Nat.le_of_ble_eq_true rfl) ⟨rfl, Or.inl (by decide)⟩ rfl (Nat.le_of_ble_eq_true rfl) (t_290 (3 : Int32) (P1.1 1 4) P1) (fun P3 => ?_)
    exact t_283_66 i0 N v2 (a2) ((1 : Int32)) P3
def f_200_24 (i0 : Nat) (N : Nat) : Nat → Int32 → ab_P → Option ab_P
  | 0, _, _ => none
  | n + 1, x2, P =>
    if (60 : Int32) < x2 then
      some P
    else
    ab_b2 (f_282 N P) fun v6 P5 =>
    if v6 = (0 : Int32) then
      some P5
    else
    Option.bind (f_283 i0 N x2 P5) fun P7 =>
    f_200_24 i0 N n (x2 + 1) P7
theorem t_200_24 {xs : Nat × (Nat → Int32)} {d : Nat} (i0 : Nat) (N : Nat) : ∀ n : Nat, ∀ (x2 : Int32) (P : ab_P), ab_tr xs wV (d + 6) 200 24 [] [.inr (10, 0, 0, i0), .inr (9, 0, 0, 1), .inl (.int x2)] [] P (f_200_24 i0 N n x2 P) := by
  intro n
  induction n with
  | zero => intro x2 P; exact tr_no
  | succ n ih =>
    intro x2 P
    refine tr_nil (rows2 := kb_200_24) rfl (List.cons_ne_nil _ _) ?_
    refine tr_blk 2 (pc' := 27) (rows' := kb_200_24.drop 2) (loc' := [.inr (10, 0, 0, i0), .inr (9, 0, 0, 1), .inl (.int x2)]) (st' := [.inl (.int (60 : Int32)), .inl (.int x2)]) (P1 := P) rfl ⟨trivial, trivial, trivial⟩ ?_
    refine tr_if (fun h8 => ?_) (fun h8 => ?_)
    · refine tr_icT (cd := .gt) h8 ?_
      refine tr_nil (rows2 := kb_200_49) rfl (List.cons_ne_nil _ _) ?_
      exact tr_reV (z := km_200) rfl rfl rfl
    · refine tr_icF (cd := .gt) h8 ?_
      refine tr_blk 1 (pc' := 31) (rows' := kb_200_24.drop 4) (loc' := [.inr (10, 0, 0, i0), .inr (9, 0, 0, 1), .inl (.int x2)]) (st' := [.inr (9, 0, 0, 1)]) (P1 := P) rfl ⟨trivial, trivial⟩ ?_
      refine tr_cWI (z := km_282) (av := [.inr (9, 0, 0, 1)]) (st' := []) rfl rfl rfl (Nat.le_of_ble_eq_true rfl) ⟨rfl, Or.inl (by decide)⟩ rfl (Nat.le_of_ble_eq_true rfl) (t_282 N P) (fun v6 P5 => ?_)
      refine tr_if (fun h9 => ?_) (fun h9 => ?_)
      · refine tr_ifT (cd := .eq) h9 ?_
        refine tr_nil (rows2 := kb_200_49) rfl (List.cons_ne_nil _ _) ?_
        exact tr_reV (z := km_200) rfl rfl rfl
      · refine tr_ifF (cd := .eq) h9 ?_
        refine tr_blk 3 (pc' := 40) (rows' := kb_200_24.drop 9) (loc' := [.inr (10, 0, 0, i0), .inr (9, 0, 0, 1), .inl (.int x2)]) (st' := [.inl (.int x2), .inr (9, 0, 0, 1), .inr (10, 0, 0, i0)]) (P1 := P5) rfl ⟨trivial, trivial, trivial, trivial⟩ ?_
        refine tr_cWV (z := km_283) (av := [.inr (10, 0, 0, i0), .inr (9, 0, 0, 1), .inl (.int x2)]) (st' := []) rfl rfl rfl (Nat.le_of_ble_eq_true rfl) ⟨rfl, Or.inl (by decide)⟩ rfl (Nat.le_of_ble_eq_true rfl) (t_283 i0 N x2 P5) (fun P7 => ?_)
        refine tr_blk 1 (pc' := 46) (rows' := kb_200_24.drop 11) (loc' := [.inr (10, 0, 0, i0), .inr (9, 0, 0, 1), .inl (.int (x2 + 1))]) (st' := []) (P1 := P7) rfl ⟨trivial, trivial⟩ ?_
        refine tr_goto ?_
        exact ih (x2 + 1) P7
def f_200 (i0 : Nat) (N : Nat) (P : ab_P) : Option ab_P :=
    ab_lt (ab_pI P i0 5 (0 : Int32)) fun P1 =>
    ab_lt (ab_pI P1 i0 6 (0 : Int32)) fun P2 =>
    ab_lt (ab_pI P2 i0 7 (10 : Int32)) fun P3 =>
    ab_lt (ab_pI P3 i0 8 (30 : Int32)) fun P4 =>
    f_200_24 i0 N N (0 : Int32) P4
theorem t_200 {xs : Nat × (Nat → Int32)} {d : Nat} (i0 : Nat) (N : Nat) : ∀ (P : ab_P), ab_tr xs wV (d + 6) 200 0 [] [.inr (10, 0, 0, i0), .inr (9, 0, 0, 1), ab_top] [] P (f_200 i0 N P) := by
  intro P
  unfold f_200
  refine tr_nil (rows2 := kb_200_0) rfl (List.cons_ne_nil _ _) ?_
  refine tr_blk 3 (pc' := 5) (rows' := kb_200_0.drop 3) (loc' := [.inr (10, 0, 0, i0), .inr (9, 0, 0, 1), ab_top]) (st' := []) (P1 := (ab_pI P i0 5 (0 : Int32))) rfl ⟨trivial, trivial, trivial, trivial⟩ ?_
  refine tr_lt (fun P1 => ?_)
  refine tr_blk 3 (pc' := 10) (rows' := kb_200_0.drop 6) (loc' := [.inr (10, 0, 0, i0), .inr (9, 0, 0, 1), ab_top]) (st' := []) (P1 := (ab_pI P1 i0 6 (0 : Int32))) rfl ⟨trivial, trivial, trivial, trivial⟩ ?_
  refine tr_lt (fun P2 => ?_)
  refine tr_blk 3 (pc' := 16) (rows' := kb_200_0.drop 9) (loc' := [.inr (10, 0, 0, i0), .inr (9, 0, 0, 1), ab_top]) (st' := []) (P1 := (ab_pI P2 i0 7 (10 : Int32))) rfl ⟨trivial, trivial, trivial, trivial⟩ ?_
  refine tr_lt (fun P3 => ?_)
  refine tr_blk 3 (pc' := 22) (rows' := kb_200_0.drop 12) (loc' := [.inr (10, 0, 0, i0), .inr (9, 0, 0, 1), ab_top]) (st' := []) (P1 := (ab_pI P3 i0 8 (30 : Int32))) rfl ⟨trivial, trivial, trivial, trivial⟩ ?_
  refine tr_lt (fun P4 => ?_)
  refine tr_blk 2 (pc' := 24) (rows' := kb_200_0.drop 14) (loc' := [.inr (10, 0, 0, i0), .inr (9, 0, 0, 1), .inl (.int (0 : Int32))]) (st' := []) (P1 := P4) rfl ⟨trivial, trivial, trivial⟩ ?_
  exact t_200_24 i0 N N (0 : Int32) P4
def f_202 (i0 : Nat) (i1 : Nat) (P : ab_P) : Option ab_P :=
    ab_lt (ab_pC P (i0 + 1) (P.1 (i1 + 1)) 0 0 8) fun P1 =>
    ab_lt (ab_pC P1 (i0 + 2) (P1.1 (i1 + 2)) 0 0 24) fun P2 =>
    ab_lt (ab_pC P2 (i0 + 3) (P2.1 (i1 + 3)) 0 0 24) fun P3 =>
    ab_lt (ab_pC P3 (i0 + 4) (P3.1 (i1 + 4)) 0 0 24) fun P4 =>
    ab_lt (ab_pC P4 (i0 + 5) (P4.1 (i1 + 5)) 0 0 24) fun P5 =>
    ab_lt (ab_pI P5 i0 5 (P5.1 i1 5)) fun P6 =>
    ab_lt (ab_pI P6 i0 6 (P6.1 i1 6)) fun P7 =>
    ab_lt (ab_pI P7 i0 7 (P7.1 i1 7)) fun P8 =>
    ab_lt (ab_pI P8 i0 8 (P8.1 i1 8)) fun P9 =>
    some P9
theorem t_202 {xs : Nat × (Nat → Int32)} {d : Nat} (i0 : Nat) (i1 : Nat) : ∀ (P : ab_P), ab_tr xs wV (d + 0) 202 0 [] [.inr (10, 0, 0, i0), .inr (10, 0, 0, i1)] [] P (f_202 i0 i1 P) := by
  intro P
  unfold f_202
  refine tr_nil (rows2 := kb_202_0) rfl (List.cons_ne_nil _ _) ?_
  refine tr_blk 8 (pc' := 15) (rows' := kb_202_0.drop 8) (loc' := [.inr (10, 0, 0, i0), .inr (10, 0, 0, i1)]) (st' := []) (P1 := (ab_pC P (i0 + 1) (P.1 (i1 + 1)) 0 0 8)) rfl ⟨trivial, trivial, trivial, trivial, trivial, trivial, trivial, (by decide), trivial⟩ ?_
  refine tr_lt (fun P1 => ?_)
  refine tr_blk 8 (pc' := 30) (rows' := kb_202_0.drop 16) (loc' := [.inr (10, 0, 0, i0), .inr (10, 0, 0, i1)]) (st' := []) (P1 := (ab_pC P1 (i0 + 2) (P1.1 (i1 + 2)) 0 0 24)) rfl ⟨trivial, trivial, trivial, trivial, trivial, trivial, trivial, (by decide), trivial⟩ ?_
  refine tr_lt (fun P2 => ?_)
  refine tr_blk 8 (pc' := 45) (rows' := kb_202_0.drop 24) (loc' := [.inr (10, 0, 0, i0), .inr (10, 0, 0, i1)]) (st' := []) (P1 := (ab_pC P2 (i0 + 3) (P2.1 (i1 + 3)) 0 0 24)) rfl ⟨trivial, trivial, trivial, trivial, trivial, trivial, trivial, (by decide), trivial⟩ ?_
  refine tr_lt (fun P3 => ?_)
  refine tr_blk 8 (pc' := 60) (rows' := kb_202_0.drop 32) (loc' := [.inr (10, 0, 0, i0), .inr (10, 0, 0, i1)]) (st' := []) (P1 := (ab_pC P3 (i0 + 4) (P3.1 (i1 + 4)) 0 0 24)) rfl ⟨trivial, trivial, trivial, trivial, trivial, trivial, trivial, (by decide), trivial⟩ ?_
  refine tr_lt (fun P4 => ?_)
  refine tr_blk 8 (pc' := 75) (rows' := kb_202_0.drop 40) (loc' := [.inr (10, 0, 0, i0), .inr (10, 0, 0, i1)]) (st' := []) (P1 := (ab_pC P4 (i0 + 5) (P4.1 (i1 + 5)) 0 0 24)) rfl ⟨trivial, trivial, trivial, trivial, trivial, trivial, trivial, (by decide), trivial⟩ ?_
  refine tr_lt (fun P5 => ?_)
  refine tr_blk 4 (pc' := 83) (rows' := kb_202_0.drop 44) (loc' := [.inr (10, 0, 0, i0), .inr (10, 0, 0, i1)]) (st' := []) (P1 := (ab_pI P5 i0 5 (P5.1 i1 5))) rfl ⟨trivial, trivial, trivial, trivial, trivial⟩ ?_
  refine tr_lt (fun P6 => ?_)
  refine tr_blk 4 (pc' := 91) (rows' := kb_202_0.drop 48) (loc' := [.inr (10, 0, 0, i0), .inr (10, 0, 0, i1)]) (st' := []) (P1 := (ab_pI P6 i0 6 (P6.1 i1 6))) rfl ⟨trivial, trivial, trivial, trivial, trivial⟩ ?_
  refine tr_lt (fun P7 => ?_)
  refine tr_blk 4 (pc' := 99) (rows' := kb_202_0.drop 52) (loc' := [.inr (10, 0, 0, i0), .inr (10, 0, 0, i1)]) (st' := []) (P1 := (ab_pI P7 i0 7 (P7.1 i1 7))) rfl ⟨trivial, trivial, trivial, trivial, trivial⟩ ?_
  refine tr_lt (fun P8 => ?_)
  refine tr_blk 4 (pc' := 107) (rows' := kb_202_0.drop 56) (loc' := [.inr (10, 0, 0, i0), .inr (10, 0, 0, i1)]) (st' := []) (P1 := (ab_pI P8 i0 8 (P8.1 i1 8))) rfl ⟨trivial, trivial, trivial, trivial, trivial⟩ ?_
  refine tr_lt (fun P9 => ?_)
  exact tr_reV (z := km_202) rfl rfl rfl
def f_306_5_5 (i0 : Nat) : Nat → Int32 → Int32 → Int32 → ab_P → Option ab_P
  | 0, _, _, _, _ => none
  | n + 1, x1, x2, x3, P =>
    if x2 < x3 then
      if ab_gi x2 5 then
      ab_lt (ab_pI P i0 x2.toNatClampNeg x1) fun P2 =>
      f_306_5_5 i0 n x1 (x2 + 1) x3 P2
      else none
    else
    some P
theorem t_306_5_5 {xs : Nat × (Nat → Int32)} {d : Nat} (i0 : Nat) : ∀ n : Nat, ∀ (x1 : Int32) (x2 : Int32) (x3 : Int32) (P : ab_P), ab_tr xs wV (d + 0) 306 5 [] [.inr (20, 5, 0, i0), .inl (.int x1), .inl (.int x2), .inl (.int x3)] [] P (f_306_5_5 i0 n x1 x2 x3 P) := by
  intro n
  induction n with
  | zero => intro x1 x2 x3 P; exact tr_no
  | succ n ih =>
    intro x1 x2 x3 P
    refine tr_nil (rows2 := kb_306_5) rfl (List.cons_ne_nil _ _) ?_
    refine tr_blk 2 (pc' := 7) (rows' := kb_306_5.drop 2) (loc' := [.inr (20, 5, 0, i0), .inl (.int x1), .inl (.int x2), .inl (.int x3)]) (st' := [.inl (.int x3), .inl (.int x2)]) (P1 := P) rfl ⟨trivial, trivial, trivial⟩ ?_
    refine tr_if (fun h3 => ?_) (fun h3 => ?_)
    · refine tr_icF (cd := .ge) (Int32.not_le.mpr h3) ?_
      refine tr_gd (fun h1 => ?_)
      refine tr_blk 4 (pc' := 14) (rows' := kb_306_5.drop 7) (loc' := [.inr (20, 5, 0, i0), .inl (.int x1), .inl (.int x2), .inl (.int x3)]) (st' := []) (P1 := (ab_pI P i0 x2.toNatClampNeg x1)) rfl ⟨trivial, trivial, trivial, h1, trivial⟩ ?_
      refine tr_lt (fun P2 => ?_)
      refine tr_blk 1 (pc' := 17) (rows' := kb_306_5.drop 8) (loc' := [.inr (20, 5, 0, i0), .inl (.int x1), .inl (.int (x2 + 1)), .inl (.int x3)]) (st' := []) (P1 := P2) rfl ⟨trivial, trivial⟩ ?_
      refine tr_goto ?_
      exact ih x1 (x2 + 1) x3 P2
    · refine tr_icT (cd := .ge) (Int32.not_lt.mp h3) ?_
      refine tr_nil (rows2 := kb_306_20) rfl (List.cons_ne_nil _ _) ?_
      exact tr_reV (z := km_306) rfl rfl rfl
def f_306_5 (i0 : Nat) (N : Nat) (a1 : Int32) (P : ab_P) : Option ab_P :=
    f_306_5_5 i0 N a1 (0 : Int32) (5 : Int32) P
theorem t_306_5 {xs : Nat × (Nat → Int32)} {d : Nat} (i0 : Nat) (N : Nat) : ∀ (a1 : Int32) (P : ab_P), ab_tr xs wV (d + 0) 306 0 [] [.inr (20, 5, 0, i0), .inl (.int a1), ab_top, ab_top] [] P (f_306_5 i0 N a1 P) := by
  intro a1 P
  unfold f_306_5
  refine tr_nil (rows2 := kb_306_0) rfl (List.cons_ne_nil _ _) ?_
  refine tr_blk 5 (pc' := 5) (rows' := kb_306_0.drop 5) (loc' := [.inr (20, 5, 0, i0), .inl (.int a1), .inl (.int (0 : Int32)), .inl (.int (5 : Int32))]) (st' := []) (P1 := P) rfl ⟨trivial, trivial, trivial, (Or.inl (by decide)), trivial, trivial⟩ ?_
  exact t_306_5_5 i0 N a1 (0 : Int32) (5 : Int32) P
def f_284 (i0 : Nat) (N : Nat) (P : ab_P) : Option ab_P :=
    ab_lt (ab_pI P i0 2 (0 : Int32)) fun P1 =>
    ab_lt (ab_pI P1 i0 3 (0 : Int32)) fun P2 =>
    Option.bind (f_306_5 (i0 + 2) N (0 : Int32) P2) fun P3 =>
    some P3
theorem t_284 {xs : Nat × (Nat → Int32)} {d : Nat} (i0 : Nat) (N : Nat) : ∀ (P : ab_P), ab_tr xs wV (d + 1) 284 0 [] [.inr (6, 0, 0, i0)] [] P (f_284 i0 N P) := by
  intro P
  unfold f_284
  refine tr_nil (rows2 := kb_284_0) rfl (List.cons_ne_nil _ _) ?_
  refine tr_blk 3 (pc' := 5) (rows' := kb_284_0.drop 3) (loc' := [.inr (6, 0, 0, i0)]) (st' := []) (P1 := (ab_pI P i0 2 (0 : Int32))) rfl ⟨trivial, trivial, trivial, trivial⟩ ?_
  refine tr_lt (fun P1 => ?_)
  refine tr_blk 3 (pc' := 10) (rows' := kb_284_0.drop 6) (loc' := [.inr (6, 0, 0, i0)]) (st' := []) (P1 := (ab_pI P1 i0 3 (0 : Int32))) rfl ⟨trivial, trivial, trivial, trivial⟩ ?_
  refine tr_lt (fun P2 => ?_)
  refine tr_blk 3 (pc' := 15) (rows' := kb_284_0.drop 9) (loc' := [.inr (6, 0, 0, i0)]) (st' := [.inl (.int (0 : Int32)), .inr (20, 5, 0, (i0 + 2))]) (P1 := P2) rfl ⟨trivial, trivial, trivial, trivial⟩ ?_
  refine tr_cWV (z := km_306) (av := [.inr (20, 5, 0, (i0 + 2)), .inl (.int (0 : Int32))]) (st' := []) rfl rfl rfl (Nat.le_of_ble_eq_true rfl) trivial rfl (Nat.le_of_ble_eq_true rfl) (t_306_5 (i0 + 2) N (0 : Int32) P2) (fun P3 => ?_)
  exact tr_reV (z := km_284) rfl rfl rfl
def f_325 (i0 : Nat) (a1 : Int32) (a2 : Int32) (a3 : Int32) (P : ab_P) : Option ab_P :=
    if a1 < (0 : Int32) then
      some P
    else
    if a1 < (9 : Int32) then
      if a2 < (0 : Int32) then
        some P
      else
      if a2 < (40 : Int32) then
        if ab_gi ((a1 * (40 : Int32)) + a2) 360 then
        ab_lt (ab_pI P (i0 + 1) (((a1 * (40 : Int32)) + a2)).toNatClampNeg a3) fun P2 =>
        some P2
        else none
      else
      some P
    else
    some P
theorem t_325 {xs : Nat × (Nat → Int32)} {d : Nat} (i0 : Nat) : ∀ (a1 : Int32) (a2 : Int32) (a3 : Int32) (P : ab_P), ab_tr xs wV (d + 0) 325 0 [] [.inr (6, 0, 0, i0), .inl (.int a1), .inl (.int a2), .inl (.int a3)] [] P (f_325 i0 a1 a2 a3 P) := by
  intro a1 a2 a3 P
  unfold f_325
  refine tr_nil (rows2 := kb_325_0) rfl (List.cons_ne_nil _ _) ?_
  refine tr_blk 1 (pc' := 1) (rows' := kb_325_0.drop 1) (loc' := [.inr (6, 0, 0, i0), .inl (.int a1), .inl (.int a2), .inl (.int a3)]) (st' := [.inl (.int a1)]) (P1 := P) rfl ⟨trivial, trivial⟩ ?_
  refine tr_if (fun h3 => ?_) (fun h3 => ?_)
  · refine tr_ifT (cd := .lt) h3 ?_
    refine tr_nil (rows2 := kb_325_32) rfl (List.cons_ne_nil _ _) ?_
    exact tr_reV (z := km_325) rfl rfl rfl
  · refine tr_ifF (cd := .lt) h3 ?_
    refine tr_blk 2 (pc' := 7) (rows' := kb_325_0.drop 4) (loc' := [.inr (6, 0, 0, i0), .inl (.int a1), .inl (.int a2), .inl (.int a3)]) (st' := [.inl (.int (9 : Int32)), .inl (.int a1)]) (P1 := P) rfl ⟨trivial, trivial, trivial⟩ ?_
    refine tr_if (fun h4 => ?_) (fun h4 => ?_)
    · refine tr_icF (cd := .ge) (Int32.not_le.mpr h4) ?_
      refine tr_blk 1 (pc' := 11) (rows' := kb_325_0.drop 6) (loc' := [.inr (6, 0, 0, i0), .inl (.int a1), .inl (.int a2), .inl (.int a3)]) (st' := [.inl (.int a2)]) (P1 := P) rfl ⟨trivial, trivial⟩ ?_
      refine tr_if (fun h5 => ?_) (fun h5 => ?_)
      · refine tr_ifT (cd := .lt) h5 ?_
        refine tr_nil (rows2 := kb_325_32) rfl (List.cons_ne_nil _ _) ?_
        exact tr_reV (z := km_325) rfl rfl rfl
      · refine tr_ifF (cd := .lt) h5 ?_
        refine tr_blk 2 (pc' := 17) (rows' := kb_325_0.drop 9) (loc' := [.inr (6, 0, 0, i0), .inl (.int a1), .inl (.int a2), .inl (.int a3)]) (st' := [.inl (.int (40 : Int32)), .inl (.int a2)]) (P1 := P) rfl ⟨trivial, trivial, trivial⟩ ?_
        refine tr_if (fun h6 => ?_) (fun h6 => ?_)
        · refine tr_icF (cd := .ge) (Int32.not_le.mpr h6) ?_
          refine tr_gd (fun h1 => ?_)
          refine tr_blk 9 (pc' := 32) (rows' := kb_325_0.drop 19) (loc' := [.inr (6, 0, 0, i0), .inl (.int a1), .inl (.int a2), .inl (.int a3)]) (st' := []) (P1 := (ab_pI P (i0 + 1) (((a1 * (40 : Int32)) + a2)).toNatClampNeg a3)) rfl ⟨trivial, trivial, trivial, trivial, trivial, trivial, trivial, trivial, h1, trivial⟩ ?_
          refine tr_lt (fun P2 => ?_)
          refine tr_nil (rows2 := kb_325_32) rfl (List.cons_ne_nil _ _) ?_
          exact tr_reV (z := km_325) rfl rfl rfl
        · refine tr_icT (cd := .ge) (Int32.not_lt.mp h6) ?_
          refine tr_nil (rows2 := kb_325_32) rfl (List.cons_ne_nil _ _) ?_
          exact tr_reV (z := km_325) rfl rfl rfl
    · refine tr_icT (cd := .ge) (Int32.not_lt.mp h4) ?_
      refine tr_nil (rows2 := kb_325_32) rfl (List.cons_ne_nil _ _) ?_
      exact tr_reV (z := km_325) rfl rfl rfl
def f_285 (i0 : Nat) (a1 : Int32) (a2 : Int32) (a3 : Int32) (a4 : Int32) (P : ab_P) : Option (Int32 × ab_P) :=
    if (P.1 i0 2) < (0 : Int32) then
      some ((0 : Int32), P)
    else
    if (P.1 i0 2) < (40 : Int32) then
      Option.bind (f_325 i0 (0 : Int32) (P.1 i0 2) a1 P) fun P1 =>
      Option.bind (f_325 i0 (1 : Int32) (P1.1 i0 2) a2 P1) fun P2 =>
      Option.bind (f_325 i0 (2 : Int32) (P2.1 i0 2) a3 P2) fun P3 =>
      Option.bind (f_325 i0 (3 : Int32) (P3.1 i0 2) (P3.1 i0 3) P3) fun P4 =>
      Option.bind (f_325 i0 (4 : Int32) (P4.1 i0 2) (0 : Int32) P4) fun P5 =>
      Option.bind (f_325 i0 (5 : Int32) (P5.1 i0 2) (0 : Int32) P5) fun P6 =>
      Option.bind (f_325 i0 (6 : Int32) (P6.1 i0 2) a4 P6) fun P7 =>
      Option.bind (f_325 i0 (7 : Int32) (P7.1 i0 2) (0 : Int32) P7) fun P8 =>
      Option.bind (f_325 i0 (8 : Int32) (P8.1 i0 2) (-1 : Int32) P8) fun P9 =>
      ab_lt (ab_pI P9 i0 2 ((P9.1 i0 2) + (1 : Int32))) fun P10 =>
      ab_lt (ab_pI P10 (i0 + 2) 1 ((P10.1 (i0 + 2) 1) + a3)) fun P11 =>
      some ((1 : Int32), P11)
    else
    some ((0 : Int32), P)
theorem t_285 {xs : Nat × (Nat → Int32)} {d : Nat} (i0 : Nat) : ∀ (a1 : Int32) (a2 : Int32) (a3 : Int32) (a4 : Int32) (P : ab_P), ab_tr xs wI (d + 1) 285 0 [] [.inr (6, 0, 0, i0), .inl (.int a1), .inl (.int a2), .inl (.int a3), .inl (.int a4)] [] P (f_285 i0 a1 a2 a3 a4 P) := by
  intro a1 a2 a3 a4 P
  unfold f_285
  refine tr_nil (rows2 := kb_285_0) rfl (List.cons_ne_nil _ _) ?_
  refine tr_blk 2 (pc' := 4) (rows' := kb_285_0.drop 2) (loc' := [.inr (6, 0, 0, i0), .inl (.int a1), .inl (.int a2), .inl (.int a3), .inl (.int a4)]) (st' := [.inl (.int (P.1 i0 2))]) (P1 := P) rfl ⟨trivial, trivial, trivial⟩ ?_
  refine tr_if (fun h12 => ?_) (fun h12 => ?_)
  · refine tr_ifT (cd := .lt) h12 ?_
    refine tr_nil (rows2 := kb_285_16) rfl (List.cons_ne_nil _ _) ?_
    refine tr_blk 1 (pc' := 17) (rows' := kb_285_16.drop 1) (loc' := [.inr (6, 0, 0, i0), .inl (.int a1), .inl (.int a2), .inl (.int a3), .inl (.int a4)]) (st' := [.inl (.int (0 : Int32))]) (P1 := P) rfl ⟨trivial, trivial⟩ ?_
    exact tr_reI (z := km_285) rfl ⟨_, rfl, rfl⟩ rfl
  · refine tr_ifF (cd := .lt) h12 ?_
    refine tr_blk 3 (pc' := 13) (rows' := kb_285_0.drop 6) (loc' := [.inr (6, 0, 0, i0), .inl (.int a1), .inl (.int a2), .inl (.int a3), .inl (.int a4)]) (st' := [.inl (.int (40 : Int32)), .inl (.int (P.1 i0 2))]) (P1 := P) rfl ⟨trivial, trivial, trivial, trivial⟩ ?_
    refine tr_if (fun h13 => ?_) (fun h13 => ?_)
    · refine tr_icT (cd := .lt) h13 ?_
      refine tr_nil (rows2 := kb_285_18) rfl (List.cons_ne_nil _ _) ?_
      refine tr_blk 5 (pc' := 25) (rows' := kb_285_18.drop 5) (loc' := [.inr (6, 0, 0, i0), .inl (.int a1), .inl (.int a2), .inl (.int a3), .inl (.int a4)]) (st' := [.inl (.int a1), .inl (.int (P.1 i0 2)), .inl (.int (0 : Int32)), .inr (6, 0, 0, i0)]) (P1 := P) rfl ⟨trivial, trivial, trivial, trivial, trivial, trivial⟩ ?_
      refine tr_cWV (z := km_325) (av := [.inr (6, 0, 0, i0), .inl (.int (0 : Int32)), .inl (.int (P.1 i0 2)), .inl (.int a1)]) (st' := []) rfl rfl rfl (Nat.le_of_ble_eq_true rfl) ⟨rfl, Or.inl (by decide)⟩ rfl (Nat.le_of_ble_eq_true rfl) (t_325 i0 (0 : Int32) (P.1 i0 2) a1 P) (fun P1 => ?_)
      refine tr_blk 5 (pc' := 35) (rows' := kb_285_18.drop 11) (loc' := [.inr (6, 0, 0, i0), .inl (.int a1), .inl (.int a2), .inl (.int a3), .inl (.int a4)]) (st' := [.inl (.int a2), .inl (.int (P1.1 i0 2)), .inl (.int (1 : Int32)), .inr (6, 0, 0, i0)]) (P1 := P1) rfl ⟨trivial, trivial, trivial, trivial, trivial, trivial⟩ ?_
      refine tr_cWV (z := km_325) (av := [.inr (6, 0, 0, i0), .inl (.int (1 : Int32)), .inl (.int (P1.1 i0 2)), .inl (.int a2)]) (st' := []) rfl rfl rfl (Nat.le_of_ble_eq_true rfl) ⟨rfl, Or.inl (by decide)⟩ rfl (Nat.le_of_ble_eq_true rfl) (t_325 i0 (1 : Int32) (P1.1 i0 2) a2 P1) (fun P2 => ?_)
      refine tr_blk 5 (pc' := 45) (rows' := kb_285_18.drop 17) (loc' := [.inr (6, 0, 0, i0), .inl (.int a1), .inl (.int a2), .inl (.int a3), .inl (.int a4)]) (st' := [.inl (.int a3), .inl (.int (P2.1 i0 2)), .inl (.int (2 : Int32)), .inr (6, 0, 0, i0)]) (P1 := P2) rfl ⟨trivial, trivial, trivial, trivial, trivial, trivial⟩ ?_
      refine tr_cWV (z := km_325) (av := [.inr (6, 0, 0, i0), .inl (.int (2 : Int32)), .inl (.int (P2.1 i0 2)), .inl (.int a3)]) (st' := []) rfl rfl rfl (Nat.le_of_ble_eq_true rfl) ⟨rfl, Or.inl (by decide)⟩ rfl (Nat.le_of_ble_eq_true rfl) (t_325 i0 (2 : Int32) (P2.1 i0 2) a3 P2) (fun P3 => ?_)
      refine tr_blk 6 (pc' := 58) (rows' := kb_285_18.drop 24) (loc' := [.inr (6, 0, 0, i0), .inl (.int a1), .inl (.int a2), .inl (.int a3), .inl (.int a4)]) (st' := [.inl (.int (P3.1 i0 3)), .inl (.int (P3.1 i0 2)), .inl (.int (3 : Int32)), .inr (6, 0, 0, i0)]) (P1 := P3) rfl ⟨trivial, trivial, trivial, trivial, trivial, trivial, trivial⟩ ?_
      refine tr_cWV (z := km_325) (av := [.inr (6, 0, 0, i0), .inl (.int (3 : Int32)), .inl (.int (P3.1 i0 2)), .inl (.int (P3.1 i0 3))]) (st' := []) rfl rfl rfl (Nat.le_of_ble_eq_true rfl) ⟨rfl, Or.inl (by decide)⟩ rfl (Nat.le_of_ble_eq_true rfl) (t_325 i0 (3 : Int32) (P3.1 i0 2) (P3.1 i0 3) P3) (fun P4 => ?_)
      refine tr_blk 5 (pc' := 68) (rows' := kb_285_18.drop 30) (loc' := [.inr (6, 0, 0, i0), .inl (.int a1), .inl (.int a2), .inl (.int a3), .inl (.int a4)]) (st' := [.inl (.int (0 : Int32)), .inl (.int (P4.1 i0 2)), .inl (.int (4 : Int32)), .inr (6, 0, 0, i0)]) (P1 := P4) rfl ⟨trivial, trivial, trivial, trivial, trivial, trivial⟩ ?_
      refine tr_cWV (z := km_325) (av := [.inr (6, 0, 0, i0), .inl (.int (4 : Int32)), .inl (.int (P4.1 i0 2)), .inl (.int (0 : Int32))]) (st' := []) rfl rfl rfl (Nat.le_of_ble_eq_true rfl) ⟨rfl, Or.inl (by decide)⟩ rfl (Nat.le_of_ble_eq_true rfl) (t_325 i0 (4 : Int32) (P4.1 i0 2) (0 : Int32) P4) (fun P5 => ?_)
      refine tr_blk 5 (pc' := 78) (rows' := kb_285_18.drop 36) (loc' := [.inr (6, 0, 0, i0), .inl (.int a1), .inl (.int a2), .inl (.int a3), .inl (.int a4)]) (st' := [.inl (.int (0 : Int32)), .inl (.int (P5.1 i0 2)), .inl (.int (5 : Int32)), .inr (6, 0, 0, i0)]) (P1 := P5) rfl ⟨trivial, trivial, trivial, trivial, trivial, trivial⟩ ?_
      refine tr_cWV (z := km_325) (av := [.inr (6, 0, 0, i0), .inl (.int (5 : Int32)), .inl (.int (P5.1 i0 2)), .inl (.int (0 : Int32))]) (st' := []) rfl rfl rfl (Nat.le_of_ble_eq_true rfl) ⟨rfl, Or.inl (by decide)⟩ rfl (Nat.le_of_ble_eq_true rfl) (t_325 i0 (5 : Int32) (P5.1 i0 2) (0 : Int32) P5) (fun P6 => ?_)
      refine tr_blk 5 (pc' := 90) (rows' := kb_285_18.drop 42) (loc' := [.inr (6, 0, 0, i0), .inl (.int a1), .inl (.int a2), .inl (.int a3), .inl (.int a4)]) (st' := [.inl (.int a4), .inl (.int (P6.1 i0 2)), .inl (.int (6 : Int32)), .inr (6, 0, 0, i0)]) (P1 := P6) rfl ⟨trivial, trivial, trivial, trivial, trivial, trivial⟩ ?_
      refine tr_cWV (z := km_325) (av := [.inr (6, 0, 0, i0), .inl (.int (6 : Int32)), .inl (.int (P6.1 i0 2)), .inl (.int a4)]) (st' := []) rfl rfl rfl (Nat.le_of_ble_eq_true rfl) ⟨rfl, Or.inl (by decide)⟩ rfl (Nat.le_of_ble_eq_true rfl) (t_325 i0 (6 : Int32) (P6.1 i0 2) a4 P6) (fun P7 => ?_)
      refine tr_blk 5 (pc' := 101) (rows' := kb_285_18.drop 48) (loc' := [.inr (6, 0, 0, i0), .inl (.int a1), .inl (.int a2), .inl (.int a3), .inl (.int a4)]) (st' := [.inl (.int (0 : Int32)), .inl (.int (P7.1 i0 2)), .inl (.int (7 : Int32)), .inr (6, 0, 0, i0)]) (P1 := P7) rfl ⟨trivial, trivial, trivial, trivial, trivial, trivial⟩ ?_
      refine tr_cWV (z := km_325) (av := [.inr (6, 0, 0, i0), .inl (.int (7 : Int32)), .inl (.int (P7.1 i0 2)), .inl (.int (0 : Int32))]) (st' := []) rfl rfl rfl (Nat.le_of_ble_eq_true rfl) ⟨rfl, Or.inl (by decide)⟩ rfl (Nat.le_of_ble_eq_true rfl) (t_325 i0 (7 : Int32) (P7.1 i0 2) (0 : Int32) P7) (fun P8 => ?_)
      refine tr_blk 5 (pc' := 112) (rows' := kb_285_18.drop 54) (loc' := [.inr (6, 0, 0, i0), .inl (.int a1), .inl (.int a2), .inl (.int a3), .inl (.int a4)]) (st' := [.inl (.int (-1 : Int32)), .inl (.int (P8.1 i0 2)), .inl (.int (8 : Int32)), .inr (6, 0, 0, i0)]) (P1 := P8) rfl ⟨trivial, trivial, trivial, trivial, trivial, trivial⟩ ?_
      refine tr_cWV (z := km_325) (av := [.inr (6, 0, 0, i0), .inl (.int (8 : Int32)), .inl (.int (P8.1 i0 2)), .inl (.int (-1 : Int32))]) (st' := []) rfl rfl rfl (Nat.le_of_ble_eq_true rfl) ⟨rfl, Or.inl (by decide)⟩ rfl (Nat.le_of_ble_eq_true rfl) (t_325 i0 (8 : Int32) (P8.1 i0 2) (-1 : Int32) P8) (fun P9 => ?_)
      refine tr_blk 6 (pc' := 125) (rows' := kb_285_18.drop 61) (loc' := [.inr (6, 0, 0, i0), .inl (.int a1), .inl (.int a2), .inl (.int a3), .inl (.int a4)]) (st' := []) (P1 := (ab_pI P9 i0 2 ((P9.1 i0 2) + (1 : Int32)))) rfl ⟨trivial, trivial, trivial, trivial, trivial, trivial, trivial⟩ ?_
      refine tr_lt (fun P10 => ?_)
      refine tr_blk 8 (pc' := 135) (rows' := kb_285_18.drop 69) (loc' := [.inr (6, 0, 0, i0), .inl (.int a1), .inl (.int a2), .inl (.int a3), .inl (.int a4)]) (st' := []) (P1 := (ab_pI P10 (i0 + 2) 1 ((P10.1 (i0 + 2) 1) + a3))) rfl ⟨trivial, trivial, trivial, trivial, (ab_vi (by decide)), trivial, trivial, (ab_vi (by decide)), trivial⟩ ?_
      refine tr_lt (fun P11 => ?_)
      refine tr_blk 1 (pc' := 136) (rows' := kb_285_18.drop 70) (loc' := [.inr (6, 0, 0, i0), .inl (.int a1), .inl (.int a2), .inl (.int a3), .inl (.int a4)]) (st' := [.inl (.int (1 : Int32))]) (P1 := P11) rfl ⟨trivial, trivial⟩ ?_
      exact tr_reI (z := km_285) rfl ⟨_, rfl, rfl⟩ rfl
    · refine tr_icF (cd := .lt) h13 ?_
      refine tr_nil (rows2 := kb_285_16) rfl (List.cons_ne_nil _ _) ?_
      refine tr_blk 1 (pc' := 17) (rows' := kb_285_16.drop 1) (loc' := [.inr (6, 0, 0, i0), .inl (.int a1), .inl (.int a2), .inl (.int a3), .inl (.int a4)]) (st' := [.inl (.int (0 : Int32))]) (P1 := P) rfl ⟨trivial, trivial⟩ ?_
      exact tr_reI (z := km_285) rfl ⟨_, rfl, rfl⟩ rfl
def f_203_6 (i0 : Nat) (i1 : Nat) : Nat → Int32 → ab_P → Option ab_P
  | 0, _, _ => none
  | n + 1, x2, P =>
    if x2 < (P.1 i0 6) then
      if x2 < (24 : Int32) then
        if ab_gi x2 24 then
        if ab_gi x2 24 then
        if ab_gi x2 24 then
        if ab_gi x2 24 then
        ab_b2 (f_285 i1 (P.1 (i0 + 2) x2.toNatClampNeg) (P.1 (i0 + 3) x2.toNatClampNeg) (P.1 (i0 + 4) x2.toNatClampNeg) (P.1 (i0 + 5) x2.toNatClampNeg) P) fun v7 P6 =>
        f_203_6 i0 i1 n (x2 + 1) P6
        else none
        else none
        else none
        else none
      else
      some P
    else
    some P
theorem t_203_6 {xs : Nat × (Nat → Int32)} {d : Nat} (i0 : Nat) (i1 : Nat) : ∀ n : Nat, ∀ (x2 : Int32) (P : ab_P), ab_tr xs wV (d + 2) 203 6 [] [.inr (10, 0, 0, i0), .inr (6, 0, 0, i1), .inl (.int x2)] [] P (f_203_6 i0 i1 n x2 P) := by
  intro n
  induction n with
  | zero => intro x2 P; exact tr_no
  | succ n ih =>
    intro x2 P
    refine tr_nil (rows2 := kb_203_6) rfl (List.cons_ne_nil _ _) ?_
    refine tr_blk 3 (pc' := 11) (rows' := kb_203_6.drop 3) (loc' := [.inr (10, 0, 0, i0), .inr (6, 0, 0, i1), .inl (.int x2)]) (st' := [.inl (.int (P.1 i0 6)), .inl (.int x2)]) (P1 := P) rfl ⟨trivial, trivial, trivial, trivial⟩ ?_
    refine tr_if (fun h8 => ?_) (fun h8 => ?_)
    · refine tr_icF (cd := .ge) (Int32.not_le.mpr h8) ?_
      refine tr_blk 2 (pc' := 17) (rows' := kb_203_6.drop 6) (loc' := [.inr (10, 0, 0, i0), .inr (6, 0, 0, i1), .inl (.int x2)]) (st' := [.inl (.int (24 : Int32)), .inl (.int x2)]) (P1 := P) rfl ⟨trivial, trivial, trivial⟩ ?_
      refine tr_if (fun h9 => ?_) (fun h9 => ?_)
      · refine tr_icF (cd := .ge) (Int32.not_le.mpr h9) ?_
        refine tr_gd (fun h2 => ?_)
        refine tr_gd (fun h3 => ?_)
        refine tr_gd (fun h4 => ?_)
        refine tr_gd (fun h5 => ?_)
        refine tr_blk 17 (pc' := 45) (rows' := kb_203_6.drop 24) (loc' := [.inr (10, 0, 0, i0), .inr (6, 0, 0, i1), .inl (.int x2)]) (st' := [.inl (.int (P.1 (i0 + 5) x2.toNatClampNeg)), .inl (.int (P.1 (i0 + 4) x2.toNatClampNeg)), .inl (.int (P.1 (i0 + 3) x2.toNatClampNeg)), .inl (.int (P.1 (i0 + 2) x2.toNatClampNeg)), .inr (6, 0, 0, i1)]) (P1 := P) rfl ⟨trivial, trivial, trivial, trivial, h2, trivial, trivial, trivial, h3, trivial, trivial, trivial, h4, trivial, trivial, trivial, h5, trivial⟩ ?_
        refine tr_cWI (z := km_285) (av := [.inr (6, 0, 0, i1), .inl (.int (P.1 (i0 + 2) x2.toNatClampNeg)), .inl (.int (P.1 (i0 + 3) x2.toNatClampNeg)), .inl (.int (P.1 (i0 + 4) x2.toNatClampNeg)), .inl (.int (P.1 (i0 + 5) x2.toNatClampNeg))]) (st' := []) rfl rfl rfl (Nat.le_of_ble_eq_true rfl) ⟨rfl, Or.inl (by decide)⟩ rfl (Nat.le_of_ble_eq_true rfl) (t_285 i1 (P.1 (i0 + 2) x2.toNatClampNeg) (P.1 (i0 + 3) x2.toNatClampNeg) (P.1 (i0 + 4) x2.toNatClampNeg) (P.1 (i0 + 5) x2.toNatClampNeg) P) (fun v7 P6 => ?_)
        refine tr_blk 2 (pc' := 52) (rows' := kb_203_6.drop 27) (loc' := [.inr (10, 0, 0, i0), .inr (6, 0, 0, i1), .inl (.int (x2 + 1))]) (st' := []) (P1 := P6) rfl ⟨trivial, trivial, trivial⟩ ?_
        refine tr_goto ?_
        exact ih (x2 + 1) P6
      · refine tr_icT (cd := .ge) (Int32.not_lt.mp h9) ?_
        refine tr_nil (rows2 := kb_203_55) rfl (List.cons_ne_nil _ _) ?_
        exact tr_reV (z := km_203) rfl rfl rfl
    · refine tr_icT (cd := .ge) (Int32.not_lt.mp h8) ?_
      refine tr_nil (rows2 := kb_203_55) rfl (List.cons_ne_nil _ _) ?_
      exact tr_reV (z := km_203) rfl rfl rfl
def f_203 (i0 : Nat) (i1 : Nat) (N : Nat) (P : ab_P) : Option ab_P :=
    Option.bind (f_284 i1 N P) fun P1 =>
    f_203_6 i0 i1 N (0 : Int32) P1
theorem t_203 {xs : Nat × (Nat → Int32)} {d : Nat} (i0 : Nat) (i1 : Nat) (N : Nat) : ∀ (P : ab_P), ab_tr xs wV (d + 2) 203 0 [] [.inr (10, 0, 0, i0), .inr (6, 0, 0, i1), ab_top] [] P (f_203 i0 i1 N P) := by
  intro P
  unfold f_203
  refine tr_nil (rows2 := kb_203_0) rfl (List.cons_ne_nil _ _) ?_
  refine tr_blk 1 (pc' := 1) (rows' := kb_203_0.drop 1) (loc' := [.inr (10, 0, 0, i0), .inr (6, 0, 0, i1), ab_top]) (st' := [.inr (6, 0, 0, i1)]) (P1 := P) rfl ⟨trivial, trivial⟩ ?_
  refine tr_cWV (z := km_284) (av := [.inr (6, 0, 0, i1)]) (st' := []) rfl rfl rfl (Nat.le_of_ble_eq_true rfl) ⟨rfl, Or.inl (by decide)⟩ rfl (Nat.le_of_ble_eq_true rfl) (t_284 i1 N P) (fun P1 => ?_)
  refine tr_blk 2 (pc' := 6) (rows' := kb_203_0.drop 4) (loc' := [.inr (10, 0, 0, i0), .inr (6, 0, 0, i1), .inl (.int (0 : Int32))]) (st' := []) (P1 := P1) rfl ⟨trivial, trivial, trivial⟩ ?_
  exact t_203_6 i0 i1 N (0 : Int32) P1
def f_204 (i0 : Nat) (P : ab_P) : Option ab_P :=
    ab_lt (ab_pC P (i0 + 1) ab_wo 0 0 7) fun P1 =>
    ab_lt (ab_pI P1 i0 1 (7 : Int32)) fun P2 =>
    some P2
theorem t_204 {xs : Nat × (Nat → Int32)} {d : Nat} (i0 : Nat) : ∀ (P : ab_P), ab_tr xs wV (d + 0) 204 0 [] [.inr (5, 0, 0, i0)] [] P (f_204 i0 P) := by
  intro P
  unfold f_204
  refine tr_nil (rows2 := kb_204_0) rfl (List.cons_ne_nil _ _) ?_
  refine tr_blk 8 (pc' := 16) (rows' := kb_204_0.drop 8) (loc' := [.inr (5, 0, 0, i0)]) (st' := []) (P1 := (ab_pC P (i0 + 1) ab_wo 0 0 7)) rfl ⟨trivial, trivial, trivial, trivial, trivial, trivial, (Or.inr (Or.inr (Or.inl (by decide)))), (by decide), trivial⟩ ?_
  refine tr_lt (fun P1 => ?_)
  refine tr_blk 4 (pc' := 24) (rows' := kb_204_0.drop 12) (loc' := [.inr (5, 0, 0, i0)]) (st' := []) (P1 := (ab_pI P1 i0 1 (7 : Int32))) rfl ⟨trivial, trivial, (Or.inr (Or.inr (Or.inl (by decide)))), trivial, trivial⟩ ?_
  refine tr_lt (fun P2 => ?_)
  exact tr_reV (z := km_204) rfl rfl rfl
def f_205 (P : ab_P) : Option ab_P :=
    ab_lt (ab_pI P 65 1 (0 : Int32)) fun P1 =>
    ab_lt (ab_pI P1 65 6 (0 : Int32)) fun P2 =>
    some P2
theorem t_205 {xs : Nat × (Nat → Int32)} {d : Nat} : ∀ (P : ab_P), ab_tr xs wV (d + 0) 205 0 [] [.inr (3, 0, 0, 65)] [] P (f_205 P) := by
  intro P
  unfold f_205
  refine tr_nil (rows2 := kb_205_0) rfl (List.cons_ne_nil _ _) ?_
  refine tr_blk 3 (pc' := 5) (rows' := kb_205_0.drop 3) (loc' := [.inr (3, 0, 0, 65)]) (st' := []) (P1 := (ab_pI P 65 1 (0 : Int32))) rfl ⟨trivial, trivial, trivial, trivial⟩ ?_
  refine tr_lt (fun P1 => ?_)
  refine tr_blk 3 (pc' := 10) (rows' := kb_205_0.drop 6) (loc' := [.inr (3, 0, 0, 65)]) (st' := []) (P1 := (ab_pI P1 65 6 (0 : Int32))) rfl ⟨trivial, trivial, trivial, trivial⟩ ?_
  refine tr_lt (fun P2 => ?_)
  exact tr_reV (z := km_205) rfl rfl rfl
def f_111 (N : Nat) (a1 : Int32) (P : ab_P) : Option ((Int32 ⊕ Fin 3) × ab_P) :=
    ab_x2 (f_198 a1 (600 : Int32) P) (fun _ P1 =>
    Option.bind (f_199 a1 P1) fun P2 =>
    Option.bind (f_200 9 N P2) fun P3 =>
    Option.bind (f_201 P3) fun v4 =>
    if v4 = (0 : Int32) then
      Option.bind (f_202 3 9 P3) fun P5 =>
      Option.bind (f_203 3 43 N P5) fun P6 =>
      ab_lt (ab_pI P6 46 5 (P6.1 3 8)) fun P7 =>
      Option.bind (f_204 15 P7) fun P8 =>
      ab_lt (ab_pI P8 21 2 (0 : Int32)) fun P9 =>
      Option.bind (f_205 P9) fun P10 =>
      ab_lt (ab_pI P10 52 6 (0 : Int32)) fun P11 =>
      some (.inl (P11.1 43 2), P11)
    else
    some (.inl ((P3.1 1 5) - (10 : Int32)), P3)) (fun q => q)
theorem t_111 {xs : Nat × (Nat → Int32)} {d : Nat} (N : Nat) : ∀ (a1 : Int32) (P : ab_P), ab_tr xs xI (d + 7) 111 0 [] [.inr (11, 0, 0, 0), .inl (.int a1)] [] P (f_111 N a1 P) := by
  intro a1 P
  unfold f_111
  refine tr_nil (rows2 := kb_111_0) rfl (List.cons_ne_nil _ _) ?_
  refine tr_blk 3 (pc' := 5) (rows' := kb_111_0.drop 3) (loc' := [.inr (11, 0, 0, 0), .inl (.int a1)]) (st' := [.inl (.int (600 : Int32)), .inl (.int a1), .inr (11, 0, 0, 0)]) (P1 := P) rfl ⟨trivial, trivial, trivial, trivial⟩ ?_
  refine tr_cax (fun _ => none) (zi := km_111) (fun _ => rfl) (fun _ _ => rfl) rfl rfl (z := km_198) (av := [.inr (11, 0, 0, 0), .inl (.int a1), .inl (.int (600 : Int32))]) (st' := []) rfl rfl rfl (Nat.le_of_ble_eq_true rfl) ⟨rfl, Or.inl (by decide)⟩ rfl (Nat.le_of_ble_eq_true rfl) (t_198 a1 (600 : Int32) P) (fun _ P1 => ?_)
  refine tr_blk 3 (pc' := 13) (rows' := kb_111_0.drop 7) (loc' := [.inr (11, 0, 0, 0), .inl (.int a1)]) (st' := [.inl (.int a1), .inr (9, 0, 0, 1)]) (P1 := P1) rfl ⟨trivial, trivial, trivial, trivial⟩ ?_
  refine tr_cWV (z := km_199) (av := [.inr (9, 0, 0, 1), .inl (.int a1)]) (st' := []) rfl rfl rfl (Nat.le_of_ble_eq_true rfl) ⟨rfl, Or.inl (by decide)⟩ rfl (Nat.le_of_ble_eq_true rfl) (t_199 a1 P1) (fun P2 => ?_)
  refine tr_blk 4 (pc' := 24) (rows' := kb_111_0.drop 12) (loc' := [.inr (11, 0, 0, 0), .inl (.int a1)]) (st' := [.inr (9, 0, 0, 1), .inr (10, 0, 0, 9)]) (P1 := P2) rfl ⟨trivial, trivial, trivial, trivial, trivial⟩ ?_
  refine tr_cWV (z := km_200) (av := [.inr (10, 0, 0, 9), .inr (9, 0, 0, 1)]) (st' := []) rfl rfl rfl (Nat.le_of_ble_eq_true rfl) ⟨rfl, Or.inl (by decide)⟩ rfl (Nat.le_of_ble_eq_true rfl) (t_200 9 N P2) (fun P3 => ?_)
  refine tr_blk 2 (pc' := 31) (rows' := kb_111_0.drop 15) (loc' := [.inr (11, 0, 0, 0), .inl (.int a1)]) (st' := [.inr (9, 0, 0, 1)]) (P1 := P3) rfl ⟨trivial, trivial, trivial⟩ ?_
  refine tr_cRI (z := km_201) (av := [.inr (9, 0, 0, 1)]) (st' := []) rfl rfl rfl (Nat.le_of_ble_eq_true rfl) ⟨rfl, Or.inl (by decide)⟩ rfl (Nat.le_of_ble_eq_true rfl) (t_201 P3) (fun v4 => ?_)
  refine tr_if (fun h12 => ?_) (fun h12 => ?_)
  · refine tr_ifT (cd := .eq) h12 ?_
    refine tr_nil (rows2 := kb_111_48) rfl (List.cons_ne_nil _ _) ?_
    refine tr_blk 4 (pc' := 56) (rows' := kb_111_48.drop 4) (loc' := [.inr (11, 0, 0, 0), .inl (.int a1)]) (st' := [.inr (10, 0, 0, 9), .inr (10, 0, 0, 3)]) (P1 := P3) rfl ⟨trivial, trivial, trivial, trivial, trivial⟩ ?_
    refine tr_cWV (z := km_202) (av := [.inr (10, 0, 0, 3), .inr (10, 0, 0, 9)]) (st' := []) rfl rfl rfl (Nat.le_of_ble_eq_true rfl) ⟨rfl, Or.inl (by decide)⟩ rfl (Nat.le_of_ble_eq_true rfl) (t_202 3 9 P3) (fun P5 => ?_)
    refine tr_blk 4 (pc' := 67) (rows' := kb_111_48.drop 9) (loc' := [.inr (11, 0, 0, 0), .inl (.int a1)]) (st' := [.inr (6, 0, 0, 43), .inr (10, 0, 0, 3)]) (P1 := P5) rfl ⟨trivial, trivial, trivial, trivial, trivial⟩ ?_
    refine tr_cWV (z := km_203) (av := [.inr (10, 0, 0, 3), .inr (6, 0, 0, 43)]) (st' := []) rfl rfl rfl (Nat.le_of_ble_eq_true rfl) ⟨rfl, Or.inl (by decide)⟩ rfl (Nat.le_of_ble_eq_true rfl) (t_203 3 43 N P5) (fun P6 => ?_)
    refine tr_blk 6 (pc' := 84) (rows' := kb_111_48.drop 16) (loc' := [.inr (11, 0, 0, 0), .inl (.int a1)]) (st' := []) (P1 := (ab_pI P6 46 5 (P6.1 3 8))) rfl ⟨trivial, trivial, trivial, trivial, trivial, trivial, trivial⟩ ?_
    refine tr_lt (fun P7 => ?_)
    refine tr_blk 2 (pc' := 88) (rows' := kb_111_48.drop 18) (loc' := [.inr (11, 0, 0, 0), .inl (.int a1)]) (st' := [.inr (5, 0, 0, 15)]) (P1 := P7) rfl ⟨trivial, trivial, trivial⟩ ?_
    refine tr_cWV (z := km_204) (av := [.inr (5, 0, 0, 15)]) (st' := []) rfl rfl rfl (Nat.le_of_ble_eq_true rfl) ⟨rfl, Or.inl (by decide)⟩ rfl (Nat.le_of_ble_eq_true rfl) (t_204 15 P7) (fun P8 => ?_)
    refine tr_blk 4 (pc' := 99) (rows' := kb_111_48.drop 23) (loc' := [.inr (11, 0, 0, 0), .inl (.int a1)]) (st' := []) (P1 := (ab_pI P8 21 2 (0 : Int32))) rfl ⟨trivial, trivial, trivial, trivial, trivial⟩ ?_
    refine tr_lt (fun P9 => ?_)
    refine tr_blk 2 (pc' := 103) (rows' := kb_111_48.drop 25) (loc' := [.inr (11, 0, 0, 0), .inl (.int a1)]) (st' := [.inr (3, 0, 0, 65)]) (P1 := P9) rfl ⟨trivial, trivial, trivial⟩ ?_
    refine tr_cWV (z := km_205) (av := [.inr (3, 0, 0, 65)]) (st' := []) rfl rfl rfl (Nat.le_of_ble_eq_true rfl) ⟨rfl, Or.inl (by decide)⟩ rfl (Nat.le_of_ble_eq_true rfl) (t_205 P9) (fun P10 => ?_)
    refine tr_blk 4 (pc' := 114) (rows' := kb_111_48.drop 30) (loc' := [.inr (11, 0, 0, 0), .inl (.int a1)]) (st' := []) (P1 := (ab_pI P10 52 6 (0 : Int32))) rfl ⟨trivial, trivial, trivial, trivial, trivial⟩ ?_
    refine tr_lt (fun P11 => ?_)
    refine tr_blk 3 (pc' := 121) (rows' := kb_111_48.drop 33) (loc' := [.inr (11, 0, 0, 0), .inl (.int a1)]) (st' := [.inl (.int (P11.1 43 2))]) (P1 := P11) rfl ⟨trivial, trivial, trivial, trivial⟩ ?_
    exact tr_reI (z := km_111) rfl ⟨_, rfl, rfl⟩ rfl
  · refine tr_ifF (cd := .eq) h12 ?_
    refine tr_blk 5 (pc' := 47) (rows' := kb_111_0.drop 22) (loc' := [.inr (11, 0, 0, 0), .inl (.int a1)]) (st' := [.inl (.int ((P3.1 1 5) - (10 : Int32)))]) (P1 := P3) rfl ⟨trivial, trivial, trivial, trivial, trivial, trivial⟩ ?_
    exact tr_reI (z := km_111) rfl ⟨_, rfl, rfl⟩ rfl
def f_5_1 (N : Nat) (a1 : Int32) (P : ab_P) : Option (Int32 × ab_P) :=
    ab_h2 (f_111 N a1 P) (fun v2 P1 =>
    ab_lt (ab_pL P1 570 0 (v2).toInt64) fun P3 =>
    some ((0 : Int32), P3))
    (fun _ => none) (fun P9 => some ((1 : Int32), P9)) (fun _ => none)
theorem t_5_1 {xs : Nat × (Nat → Int32)} {d : Nat} (N : Nat) : ∀ (a1 : Int32) (P : ab_P), ab_tr xs wI (d + 8) 5 0 [] [.inr (11, 0, 0, 0), .inl (.int a1), .inr (22, 1, 0, 570), ab_top] [] P (f_5_1 N a1 P) := by
  intro a1 P
  unfold f_5_1
  refine tr_nil (rows2 := kb_5_0) rfl (List.cons_ne_nil _ _) ?_
  refine tr_blk 4 (pc' := 4) (rows' := kb_5_0.drop 4) (loc' := [.inr (11, 0, 0, 0), .inl (.int a1), .inr (22, 1, 0, 570), ab_top]) (st' := [.inl (.int a1), .inr (11, 0, 0, 0), .inl (.int (0 : Int32)), .inr (22, 1, 0, 570)]) (P1 := P) rfl ⟨trivial, trivial, trivial, trivial, trivial⟩ ?_
  refine tr_cah (fun b => some (.inl (.int b))) (zi := km_5) (fun _ => rfl) rfl (z := km_111) (av := [.inr (11, 0, 0, 0), .inl (.int a1)]) (st' := [.inl (.int (0 : Int32)), .inr (22, 1, 0, 570)]) rfl rfl rfl (Nat.le_of_ble_eq_true rfl) ⟨rfl, Or.inl (by decide)⟩ rfl (Nat.le_of_ble_eq_true rfl) (t_111 N a1 P) (fun v2 P1 => ?_) ?_ ?_ ?_
  · refine tr_blk 2 (pc' := 9) (rows' := kb_5_0.drop 7) (loc' := [.inr (11, 0, 0, 0), .inl (.int a1), .inr (22, 1, 0, 570), ab_top]) (st' := []) (P1 := (ab_pL P1 570 0 (v2).toInt64)) rfl ⟨trivial, (ab_vi (by decide)), trivial⟩ ?_
    refine tr_lt (fun P3 => ?_)
    refine tr_goto ?_
    refine tr_nil (rows2 := kb_5_15) rfl (List.cons_ne_nil _ _) ?_
    refine tr_blk 1 (pc' := 16) (rows' := kb_5_15.drop 1) (loc' := [.inr (11, 0, 0, 0), .inl (.int a1), .inr (22, 1, 0, 570), ab_top]) (st' := [.inl (.int (0 : Int32))]) (P1 := P3) rfl ⟨trivial, trivial⟩ ?_
    exact tr_reI (z := km_5) rfl ⟨_, rfl, rfl⟩ rfl
  · exact fun _ => rfl
  · exact fun _ => tr_han (rows2 := kb_5_12) (z := km_5) _ (fun q => [.inr (11, 0, 0, 0), .inl (.int a1), .inr (22, 1, 0, 570), .inr (40, 1, 0, q)]) rfl (List.cons_ne_nil _ _) (fun q => rfl) ⟨trivial, trivial, trivial⟩ rfl ⟨_, rfl, rfl⟩ rfl
  · exact fun _ => rfl
def f_112 (P : ab_P) (a0 : Int32) (a1 : Int32) (a2 : Int32) : Option Int32 :=
    if a0 < a1 then
      some (0 : Int32)
    else
    if a2 < a0 then
      some (0 : Int32)
    else
    some (1 : Int32)
theorem t_112 {xs : Nat × (Nat → Int32)} {d : Nat} (P : ab_P) : ∀ (a0 : Int32) (a1 : Int32) (a2 : Int32), ab_tr xs (rI P) (d + 0) 112 0 [] [.inl (.int a0), .inl (.int a1), .inl (.int a2)] [] P (f_112 P a0 a1 a2) := by
  intro a0 a1 a2
  unfold f_112
  refine tr_nil (rows2 := kb_112_0) rfl (List.cons_ne_nil _ _) ?_
  refine tr_blk 2 (pc' := 2) (rows' := kb_112_0.drop 2) (loc' := [.inl (.int a0), .inl (.int a1), .inl (.int a2)]) (st' := [.inl (.int a1), .inl (.int a0)]) (P1 := P) rfl ⟨trivial, trivial, trivial⟩ ?_
  refine tr_if (fun h1 => ?_) (fun h1 => ?_)
  · refine tr_icT (cd := .lt) h1 ?_
    refine tr_nil (rows2 := kb_112_14) rfl (List.cons_ne_nil _ _) ?_
    refine tr_blk 1 (pc' := 15) (rows' := kb_112_14.drop 1) (loc' := [.inl (.int a0), .inl (.int a1), .inl (.int a2)]) (st' := [.inl (.int (0 : Int32))]) (P1 := P) rfl ⟨trivial, trivial⟩ ?_
    refine tr_nil (rows2 := kb_112_15) rfl (List.cons_ne_nil _ _) ?_
    exact tr_reI (z := km_112) rfl ⟨_, rfl, rfl⟩ rfl
  · refine tr_icF (cd := .lt) h1 ?_
    refine tr_blk 2 (pc' := 7) (rows' := kb_112_0.drop 5) (loc' := [.inl (.int a0), .inl (.int a1), .inl (.int a2)]) (st' := [.inl (.int a2), .inl (.int a0)]) (P1 := P) rfl ⟨trivial, trivial, trivial⟩ ?_
    refine tr_if (fun h2 => ?_) (fun h2 => ?_)
    · refine tr_icT (cd := .gt) h2 ?_
      refine tr_nil (rows2 := kb_112_14) rfl (List.cons_ne_nil _ _) ?_
      refine tr_blk 1 (pc' := 15) (rows' := kb_112_14.drop 1) (loc' := [.inl (.int a0), .inl (.int a1), .inl (.int a2)]) (st' := [.inl (.int (0 : Int32))]) (P1 := P) rfl ⟨trivial, trivial⟩ ?_
      refine tr_nil (rows2 := kb_112_15) rfl (List.cons_ne_nil _ _) ?_
      exact tr_reI (z := km_112) rfl ⟨_, rfl, rfl⟩ rfl
    · refine tr_icF (cd := .gt) h2 ?_
      refine tr_blk 1 (pc' := 11) (rows' := kb_112_0.drop 7) (loc' := [.inl (.int a0), .inl (.int a1), .inl (.int a2)]) (st' := [.inl (.int (1 : Int32))]) (P1 := P) rfl ⟨trivial, trivial⟩ ?_
      refine tr_goto ?_
      refine tr_nil (rows2 := kb_112_15) rfl (List.cons_ne_nil _ _) ?_
      exact tr_reI (z := km_112) rfl ⟨_, rfl, rfl⟩ rfl
def f_113 (a1 : Int32) (a2 : Int32) (a3 : Int32) (P : ab_P) : Option (Int32 × ab_P) :=
    if a1 = (0 : Int32) then
      if (P.1 72 0) = (0 : Int32) then
        some ((0 : Int32), P)
      else
      some ((1 : Int32), P)
    else
    if (P.1 72 0) = (0 : Int32) then
      ab_lt (ab_pI P 72 0 a2) fun P1 =>
      if ab_gi a3 3 then
      if ab_gi a3 3 then
      ab_lt (ab_pI P1 74 a3.toNatClampNeg ((P1.1 74 a3.toNatClampNeg) + (1 : Int32))) fun P4 =>
      if (P4.1 72 0) = (0 : Int32) then
        some ((0 : Int32), P4)
      else
      some ((1 : Int32), P4)
      else none
      else none
    else
    if (P.1 72 0) = (0 : Int32) then
      some ((0 : Int32), P)
    else
    some ((1 : Int32), P)
theorem t_113 {xs : Nat × (Nat → Int32)} {d : Nat} : ∀ (a1 : Int32) (a2 : Int32) (a3 : Int32) (P : ab_P), ab_tr xs wI (d + 0) 113 0 [] [.inr (12, 0, 0, 72), .inl (.int a1), .inl (.int a2), .inl (.int a3)] [] P (f_113 a1 a2 a3 P) := by
  intro a1 a2 a3 P
  unfold f_113
  refine tr_nil (rows2 := kb_113_0) rfl (List.cons_ne_nil _ _) ?_
  refine tr_blk 1 (pc' := 1) (rows' := kb_113_0.drop 1) (loc' := [.inr (12, 0, 0, 72), .inl (.int a1), .inl (.int a2), .inl (.int a3)]) (st' := [.inl (.int a1)]) (P1 := P) rfl ⟨trivial, trivial⟩ ?_
  refine tr_if (fun h5 => ?_) (fun h5 => ?_)
  · refine tr_ifT (cd := .eq) h5 ?_
    refine tr_nil (rows2 := kb_113_26) rfl (List.cons_ne_nil _ _) ?_
    refine tr_blk 2 (pc' := 30) (rows' := kb_113_26.drop 2) (loc' := [.inr (12, 0, 0, 72), .inl (.int a1), .inl (.int a2), .inl (.int a3)]) (st' := [.inl (.int (P.1 72 0))]) (P1 := P) rfl ⟨trivial, trivial, trivial⟩ ?_
    refine tr_if (fun h6 => ?_) (fun h6 => ?_)
    · refine tr_ifT (cd := .eq) h6 ?_
      refine tr_nil (rows2 := kb_113_37) rfl (List.cons_ne_nil _ _) ?_
      refine tr_blk 1 (pc' := 38) (rows' := kb_113_37.drop 1) (loc' := [.inr (12, 0, 0, 72), .inl (.int a1), .inl (.int a2), .inl (.int a3)]) (st' := [.inl (.int (0 : Int32))]) (P1 := P) rfl ⟨trivial, trivial⟩ ?_
      refine tr_nil (rows2 := kb_113_38) rfl (List.cons_ne_nil _ _) ?_
      exact tr_reI (z := km_113) rfl ⟨_, rfl, rfl⟩ rfl
    · refine tr_ifF (cd := .eq) h6 ?_
      refine tr_blk 1 (pc' := 34) (rows' := kb_113_26.drop 4) (loc' := [.inr (12, 0, 0, 72), .inl (.int a1), .inl (.int a2), .inl (.int a3)]) (st' := [.inl (.int (1 : Int32))]) (P1 := P) rfl ⟨trivial, trivial⟩ ?_
      refine tr_goto ?_
      refine tr_nil (rows2 := kb_113_38) rfl (List.cons_ne_nil _ _) ?_
      exact tr_reI (z := km_113) rfl ⟨_, rfl, rfl⟩ rfl
  · refine tr_ifF (cd := .eq) h5 ?_
    refine tr_blk 2 (pc' := 8) (rows' := kb_113_0.drop 4) (loc' := [.inr (12, 0, 0, 72), .inl (.int a1), .inl (.int a2), .inl (.int a3)]) (st' := [.inl (.int (P.1 72 0))]) (P1 := P) rfl ⟨trivial, trivial, trivial⟩ ?_
    refine tr_if (fun h7 => ?_) (fun h7 => ?_)
    · refine tr_ifF (cd := .ne) (fun q => q h7) ?_
      refine tr_blk 3 (pc' := 16) (rows' := kb_113_0.drop 8) (loc' := [.inr (12, 0, 0, 72), .inl (.int a1), .inl (.int a2), .inl (.int a3)]) (st' := []) (P1 := (ab_pI P 72 0 a2)) rfl ⟨trivial, trivial, trivial, trivial⟩ ?_
      refine tr_lt (fun P1 => ?_)
      refine tr_gd (fun h2 => ?_)
      refine tr_gd (fun h3 => ?_)
      refine tr_blk 8 (pc' := 26) (rows' := kb_113_0.drop 16) (loc' := [.inr (12, 0, 0, 72), .inl (.int a1), .inl (.int a2), .inl (.int a3)]) (st' := []) (P1 := (ab_pI P1 74 a3.toNatClampNeg ((P1.1 74 a3.toNatClampNeg) + (1 : Int32)))) rfl ⟨trivial, trivial, trivial, trivial, h2, trivial, trivial, h3, trivial⟩ ?_
      refine tr_lt (fun P4 => ?_)
      refine tr_nil (rows2 := kb_113_26) rfl (List.cons_ne_nil _ _) ?_
      refine tr_blk 2 (pc' := 30) (rows' := kb_113_26.drop 2) (loc' := [.inr (12, 0, 0, 72), .inl (.int a1), .inl (.int a2), .inl (.int a3)]) (st' := [.inl (.int (P4.1 72 0))]) (P1 := P4) rfl ⟨trivial, trivial, trivial⟩ ?_
      refine tr_if (fun h9 => ?_) (fun h9 => ?_)
      · refine tr_ifT (cd := .eq) h9 ?_
        refine tr_nil (rows2 := kb_113_37) rfl (List.cons_ne_nil _ _) ?_
        refine tr_blk 1 (pc' := 38) (rows' := kb_113_37.drop 1) (loc' := [.inr (12, 0, 0, 72), .inl (.int a1), .inl (.int a2), .inl (.int a3)]) (st' := [.inl (.int (0 : Int32))]) (P1 := P4) rfl ⟨trivial, trivial⟩ ?_
        refine tr_nil (rows2 := kb_113_38) rfl (List.cons_ne_nil _ _) ?_
        exact tr_reI (z := km_113) rfl ⟨_, rfl, rfl⟩ rfl
      · refine tr_ifF (cd := .eq) h9 ?_
        refine tr_blk 1 (pc' := 34) (rows' := kb_113_26.drop 4) (loc' := [.inr (12, 0, 0, 72), .inl (.int a1), .inl (.int a2), .inl (.int a3)]) (st' := [.inl (.int (1 : Int32))]) (P1 := P4) rfl ⟨trivial, trivial⟩ ?_
        refine tr_goto ?_
        refine tr_nil (rows2 := kb_113_38) rfl (List.cons_ne_nil _ _) ?_
        exact tr_reI (z := km_113) rfl ⟨_, rfl, rfl⟩ rfl
    · refine tr_ifT (cd := .ne) h7 ?_
      refine tr_nil (rows2 := kb_113_26) rfl (List.cons_ne_nil _ _) ?_
      refine tr_blk 2 (pc' := 30) (rows' := kb_113_26.drop 2) (loc' := [.inr (12, 0, 0, 72), .inl (.int a1), .inl (.int a2), .inl (.int a3)]) (st' := [.inl (.int (P.1 72 0))]) (P1 := P) rfl ⟨trivial, trivial, trivial⟩ ?_
      refine tr_if (fun h8 => ?_) (fun h8 => ?_)
      · refine tr_ifT (cd := .eq) h8 ?_
        refine tr_nil (rows2 := kb_113_37) rfl (List.cons_ne_nil _ _) ?_
        refine tr_blk 1 (pc' := 38) (rows' := kb_113_37.drop 1) (loc' := [.inr (12, 0, 0, 72), .inl (.int a1), .inl (.int a2), .inl (.int a3)]) (st' := [.inl (.int (0 : Int32))]) (P1 := P) rfl ⟨trivial, trivial⟩ ?_
        refine tr_nil (rows2 := kb_113_38) rfl (List.cons_ne_nil _ _) ?_
        exact tr_reI (z := km_113) rfl ⟨_, rfl, rfl⟩ rfl
      · refine tr_ifF (cd := .eq) h8 ?_
        refine tr_blk 1 (pc' := 34) (rows' := kb_113_26.drop 4) (loc' := [.inr (12, 0, 0, 72), .inl (.int a1), .inl (.int a2), .inl (.int a3)]) (st' := [.inl (.int (1 : Int32))]) (P1 := P) rfl ⟨trivial, trivial⟩ ?_
        refine tr_goto ?_
        refine tr_nil (rows2 := kb_113_38) rfl (List.cons_ne_nil _ _) ?_
        exact tr_reI (z := km_113) rfl ⟨_, rfl, rfl⟩ rfl
def f_209 (P : ab_P) (a1 : Int32) : Option Int32 :=
    if a1 < (P.1 72 2) then
      if ab_gi a1 600 then
      some (P.1 73 a1.toNatClampNeg)
      else none
    else
    some (-1 : Int32)
theorem t_209 {xs : Nat × (Nat → Int32)} {d : Nat} (P : ab_P) : ∀ (a1 : Int32), ab_tr xs (rI P) (d + 0) 209 0 [] [.inr (12, 0, 0, 72), .inl (.int a1)] [] P (f_209 P a1) := by
  intro a1
  unfold f_209
  refine tr_nil (rows2 := kb_209_0) rfl (List.cons_ne_nil _ _) ?_
  refine tr_blk 3 (pc' := 5) (rows' := kb_209_0.drop 3) (loc' := [.inr (12, 0, 0, 72), .inl (.int a1)]) (st' := [.inl (.int (P.1 72 2)), .inl (.int a1)]) (P1 := P) rfl ⟨trivial, trivial, trivial, trivial⟩ ?_
  refine tr_if (fun h2 => ?_) (fun h2 => ?_)
  · refine tr_icT (cd := .lt) h2 ?_
    refine tr_nil (rows2 := kb_209_12) rfl (List.cons_ne_nil _ _) ?_
    refine tr_gd (fun h1 => ?_)
    refine tr_blk 4 (pc' := 18) (rows' := kb_209_12.drop 4) (loc' := [.inr (12, 0, 0, 72), .inl (.int a1)]) (st' := [.inl (.int (P.1 73 a1.toNatClampNeg))]) (P1 := P) rfl ⟨trivial, trivial, trivial, h1, trivial⟩ ?_
    refine tr_nil (rows2 := kb_209_18) rfl (List.cons_ne_nil _ _) ?_
    exact tr_reI (z := km_209) rfl ⟨_, rfl, rfl⟩ rfl
  · refine tr_icF (cd := .lt) h2 ?_
    refine tr_blk 1 (pc' := 9) (rows' := kb_209_0.drop 5) (loc' := [.inr (12, 0, 0, 72), .inl (.int a1)]) (st' := [.inl (.int (-1 : Int32))]) (P1 := P) rfl ⟨trivial, trivial⟩ ?_
    refine tr_goto ?_
    refine tr_nil (rows2 := kb_209_18) rfl (List.cons_ne_nil _ _) ?_
    exact tr_reI (z := km_209) rfl ⟨_, rfl, rfl⟩ rfl
def f_116 : Nat → ab_P → Option ab_P
  | 0, _ => none
  | n + 1, P =>
    Option.bind (f_209 P (P.1 72 4)) fun v1 =>
    if v1 = (32 : Int32) then
      ab_lt (ab_pI P 72 4 ((P.1 72 4) + (1 : Int32))) fun P2 =>
      f_116 n P2
    else
    some P
theorem t_116 {xs : Nat × (Nat → Int32)} {d : Nat} : ∀ n : Nat, ∀ (P : ab_P), ab_tr xs wV (d + 1) 116 0 [] [.inr (12, 0, 0, 72)] [] P (f_116 n P) := by
  intro n
  induction n with
  | zero => intro P; exact tr_no
  | succ n ih =>
    intro P
    refine tr_nil (rows2 := kb_116_0) rfl (List.cons_ne_nil _ _) ?_
    refine tr_blk 3 (pc' := 5) (rows' := kb_116_0.drop 3) (loc' := [.inr (12, 0, 0, 72)]) (st' := [.inl (.int (P.1 72 4)), .inr (12, 0, 0, 72)]) (P1 := P) rfl ⟨trivial, trivial, trivial, trivial⟩ ?_
    refine tr_cRI (z := km_209) (av := [.inr (12, 0, 0, 72), .inl (.int (P.1 72 4))]) (st' := []) rfl rfl rfl (Nat.le_of_ble_eq_true rfl) ⟨rfl, Or.inl (by decide)⟩ rfl (Nat.le_of_ble_eq_true rfl) (t_209 P (P.1 72 4)) (fun v1 => ?_)
    refine tr_blk 1 (pc' := 10) (rows' := kb_116_0.drop 5) (loc' := [.inr (12, 0, 0, 72)]) (st' := [.inl (.int (32 : Int32)), .inl (.int v1)]) (P1 := P) rfl ⟨trivial, trivial⟩ ?_
    refine tr_if (fun h3 => ?_) (fun h3 => ?_)
    · refine tr_icF (cd := .ne) (fun q => q h3) ?_
      refine tr_blk 6 (pc' := 23) (rows' := kb_116_0.drop 12) (loc' := [.inr (12, 0, 0, 72)]) (st' := []) (P1 := (ab_pI P 72 4 ((P.1 72 4) + (1 : Int32)))) rfl ⟨trivial, trivial, trivial, trivial, trivial, trivial, trivial⟩ ?_
      refine tr_lt (fun P2 => ?_)
      refine tr_goto ?_
      exact ih P2
    · refine tr_icT (cd := .ne) h3 ?_
      refine tr_nil (rows2 := kb_116_26) rfl (List.cons_ne_nil _ _) ?_
      exact tr_reV (z := km_116) rfl rfl rfl
def f_114 (N : Nat) (a1 : Int32) (P : ab_P) : Option ab_P :=
    ab_lt (ab_pI P 72 1 (0 : Int32)) fun P1 =>
    ab_lt (ab_pI P1 72 2 a1) fun P2 =>
    ab_lt (ab_pI P2 72 4 (0 : Int32)) fun P3 =>
    ab_lt (ab_pI P3 72 5 (0 : Int32)) fun P4 =>
    ab_lt (ab_pI P4 72 6 (-1 : Int32)) fun P5 =>
    ab_lt (ab_pI P5 72 7 (0 : Int32)) fun P6 =>
    ab_lt (ab_pI P6 72 8 (0 : Int32)) fun P7 =>
    Option.bind (f_116 N P7) fun P8 =>
    some P8
theorem t_114 {xs : Nat × (Nat → Int32)} {d : Nat} (N : Nat) : ∀ (a1 : Int32) (P : ab_P), ab_tr xs wV (d + 2) 114 0 [] [.inr (12, 0, 0, 72), .inl (.int a1)] [] P (f_114 N a1 P) := by
  intro a1 P
  unfold f_114
  refine tr_nil (rows2 := kb_114_0) rfl (List.cons_ne_nil _ _) ?_
  refine tr_blk 3 (pc' := 5) (rows' := kb_114_0.drop 3) (loc' := [.inr (12, 0, 0, 72), .inl (.int a1)]) (st' := []) (P1 := (ab_pI P 72 1 (0 : Int32))) rfl ⟨trivial, trivial, trivial, trivial⟩ ?_
  refine tr_lt (fun P1 => ?_)
  refine tr_blk 3 (pc' := 10) (rows' := kb_114_0.drop 6) (loc' := [.inr (12, 0, 0, 72), .inl (.int a1)]) (st' := []) (P1 := (ab_pI P1 72 2 a1)) rfl ⟨trivial, trivial, trivial, trivial⟩ ?_
  refine tr_lt (fun P2 => ?_)
  refine tr_blk 3 (pc' := 15) (rows' := kb_114_0.drop 9) (loc' := [.inr (12, 0, 0, 72), .inl (.int a1)]) (st' := []) (P1 := (ab_pI P2 72 4 (0 : Int32))) rfl ⟨trivial, trivial, trivial, trivial⟩ ?_
  refine tr_lt (fun P3 => ?_)
  refine tr_blk 3 (pc' := 20) (rows' := kb_114_0.drop 12) (loc' := [.inr (12, 0, 0, 72), .inl (.int a1)]) (st' := []) (P1 := (ab_pI P3 72 5 (0 : Int32))) rfl ⟨trivial, trivial, trivial, trivial⟩ ?_
  refine tr_lt (fun P4 => ?_)
  refine tr_blk 3 (pc' := 25) (rows' := kb_114_0.drop 15) (loc' := [.inr (12, 0, 0, 72), .inl (.int a1)]) (st' := []) (P1 := (ab_pI P4 72 6 (-1 : Int32))) rfl ⟨trivial, trivial, trivial, trivial⟩ ?_
  refine tr_lt (fun P5 => ?_)
  refine tr_blk 3 (pc' := 30) (rows' := kb_114_0.drop 18) (loc' := [.inr (12, 0, 0, 72), .inl (.int a1)]) (st' := []) (P1 := (ab_pI P5 72 7 (0 : Int32))) rfl ⟨trivial, trivial, trivial, trivial⟩ ?_
  refine tr_lt (fun P6 => ?_)
  refine tr_blk 3 (pc' := 35) (rows' := kb_114_0.drop 21) (loc' := [.inr (12, 0, 0, 72), .inl (.int a1)]) (st' := []) (P1 := (ab_pI P6 72 8 (0 : Int32))) rfl ⟨trivial, trivial, trivial, trivial⟩ ?_
  refine tr_lt (fun P7 => ?_)
  refine tr_blk 1 (pc' := 36) (rows' := kb_114_0.drop 22) (loc' := [.inr (12, 0, 0, 72), .inl (.int a1)]) (st' := [.inr (12, 0, 0, 72)]) (P1 := P7) rfl ⟨trivial, trivial⟩ ?_
  refine tr_cWV (z := km_116) (av := [.inr (12, 0, 0, 72)]) (st' := []) rfl rfl rfl (Nat.le_of_ble_eq_true rfl) ⟨rfl, Or.inl (by decide)⟩ rfl (Nat.le_of_ble_eq_true rfl) (t_116 N P7) (fun P8 => ?_)
  exact tr_reV (z := km_114) rfl rfl rfl
def f_107 (P : ab_P) : Option ab_P :=
    ab_lt (ab_pI P 75 0 (0 : Int32)) fun P1 =>
    ab_lt (ab_pI P1 75 1 (0 : Int32)) fun P2 =>
    ab_lt (ab_pI P2 75 2 (10 : Int32)) fun P3 =>
    ab_lt (ab_pI P3 75 3 (30 : Int32)) fun P4 =>
    some P4
theorem t_107 {xs : Nat × (Nat → Int32)} {d : Nat} : ∀ (P : ab_P), ab_tr xs wV (d + 0) 107 0 [] [.inr (12, 0, 0, 72)] [] P (f_107 P) := by
  intro P
  unfold f_107
  refine tr_nil (rows2 := kb_107_0) rfl (List.cons_ne_nil _ _) ?_
  refine tr_blk 5 (pc' := 7) (rows' := kb_107_0.drop 5) (loc' := [.inr (12, 0, 0, 72)]) (st' := []) (P1 := (ab_pI P 75 0 (0 : Int32))) rfl ⟨trivial, trivial, trivial, trivial, (ab_vi (by decide)), trivial⟩ ?_
  refine tr_lt (fun P1 => ?_)
  refine tr_blk 5 (pc' := 14) (rows' := kb_107_0.drop 10) (loc' := [.inr (12, 0, 0, 72)]) (st' := []) (P1 := (ab_pI P1 75 1 (0 : Int32))) rfl ⟨trivial, trivial, trivial, trivial, (ab_vi (by decide)), trivial⟩ ?_
  refine tr_lt (fun P2 => ?_)
  refine tr_blk 5 (pc' := 22) (rows' := kb_107_0.drop 15) (loc' := [.inr (12, 0, 0, 72)]) (st' := []) (P1 := (ab_pI P2 75 2 (10 : Int32))) rfl ⟨trivial, trivial, trivial, trivial, (ab_vi (by decide)), trivial⟩ ?_
  refine tr_lt (fun P3 => ?_)
  refine tr_blk 5 (pc' := 30) (rows' := kb_107_0.drop 20) (loc' := [.inr (12, 0, 0, 72)]) (st' := []) (P1 := (ab_pI P3 75 3 (30 : Int32))) rfl ⟨trivial, trivial, trivial, trivial, (ab_vi (by decide)), trivial⟩ ?_
  refine tr_lt (fun P4 => ?_)
  exact tr_reV (z := km_107) rfl rfl rfl
def f_281_366 (i0 : Nat) (a1 : Int32) (a2 : Int32) (a3 : Int32) (P : ab_P) : Option ab_P :=
    if ab_gi (((9 : Int32) * a1) + a2) 366 then
    ab_lt (ab_pI P i0 ((((9 : Int32) * a1) + a2)).toNatClampNeg a3) fun P2 =>
    some P2
    else none
theorem t_281_366 {xs : Nat × (Nat → Int32)} {d : Nat} (i0 : Nat) : ∀ (a1 : Int32) (a2 : Int32) (a3 : Int32) (P : ab_P), ab_tr xs wV (d + 0) 281 0 [] [.inr (20, 366, 0, i0), .inl (.int a1), .inl (.int a2), .inl (.int a3)] [] P (f_281_366 i0 a1 a2 a3 P) := by
  intro a1 a2 a3 P
  unfold f_281_366
  refine tr_nil (rows2 := kb_281_0) rfl (List.cons_ne_nil _ _) ?_
  refine tr_gd (fun h1 => ?_)
  refine tr_blk 8 (pc' := 9) (rows' := kb_281_0.drop 8) (loc' := [.inr (20, 366, 0, i0), .inl (.int a1), .inl (.int a2), .inl (.int a3)]) (st' := []) (P1 := (ab_pI P i0 ((((9 : Int32) * a1) + a2)).toNatClampNeg a3)) rfl ⟨trivial, trivial, trivial, trivial, trivial, trivial, trivial, h1, trivial⟩ ?_
  refine tr_lt (fun P2 => ?_)
  exact tr_reV (z := km_281) rfl rfl rfl
def f_197_366 (i0 : Nat) (a1 : Int32) (a2 : Int32) (a3 : Int32) (a4 : Int32) (P : ab_P) : Option (Int32 × ab_P) :=
    if (P.1 i0 360) = (40 : Int32) then
      some ((-1 : Int32), P)
    else
    ab_lt (ab_pI P i0 360 ((P.1 i0 360) + (1 : Int32))) fun P1 =>
    Option.bind (f_281_366 i0 (P.1 i0 360) (0 : Int32) a1 P1) fun P2 =>
    Option.bind (f_281_366 i0 (P.1 i0 360) (1 : Int32) a2 P2) fun P3 =>
    Option.bind (f_281_366 i0 (P.1 i0 360) (2 : Int32) a3 P3) fun P4 =>
    Option.bind (f_281_366 i0 (P.1 i0 360) (3 : Int32) (P4.1 i0 361) P4) fun P5 =>
    Option.bind (f_281_366 i0 (P.1 i0 360) (4 : Int32) (0 : Int32) P5) fun P6 =>
    Option.bind (f_281_366 i0 (P.1 i0 360) (5 : Int32) (0 : Int32) P6) fun P7 =>
    Option.bind (f_281_366 i0 (P.1 i0 360) (6 : Int32) a4 P7) fun P8 =>
    Option.bind (f_281_366 i0 (P.1 i0 360) (7 : Int32) (0 : Int32) P8) fun P9 =>
    Option.bind (f_281_366 i0 (P.1 i0 360) (8 : Int32) (-1 : Int32) P9) fun P10 =>
    ab_lt (ab_pI P10 i0 362 ((P10.1 i0 362) + a3)) fun P11 =>
    some ((P.1 i0 360), P11)
theorem t_197_366 {xs : Nat × (Nat → Int32)} {d : Nat} (i0 : Nat) : ∀ (a1 : Int32) (a2 : Int32) (a3 : Int32) (a4 : Int32) (P : ab_P), ab_tr xs wI (d + 1) 197 0 [] [.inr (20, 366, 0, i0), .inl (.int a1), .inl (.int a2), .inl (.int a3), .inl (.int a4), ab_top] [] P (f_197_366 i0 a1 a2 a3 a4 P) := by
  intro a1 a2 a3 a4 P
  unfold f_197_366
  refine tr_nil (rows2 := kb_197_0) rfl (List.cons_ne_nil _ _) ?_
  refine tr_blk 6 (pc' := 11) (rows' := kb_197_0.drop 6) (loc' := [.inr (20, 366, 0, i0), .inl (.int a1), .inl (.int a2), .inl (.int a3), .inl (.int a4), .inl (.int (P.1 i0 360))]) (st' := [.inl (.int (40 : Int32)), .inl (.int (P.1 i0 360))]) (P1 := P) rfl ⟨trivial, trivial, (ab_vi (by decide)), trivial, trivial, trivial, trivial⟩ ?_
  refine tr_if (fun h12 => ?_) (fun h12 => ?_)
  · refine tr_icF (cd := .ne) (fun q => q h12) ?_
    refine tr_blk 1 (pc' := 15) (rows' := kb_197_0.drop 8) (loc' := [.inr (20, 366, 0, i0), .inl (.int a1), .inl (.int a2), .inl (.int a3), .inl (.int a4), .inl (.int (P.1 i0 360))]) (st' := [.inl (.int (-1 : Int32))]) (P1 := P) rfl ⟨trivial, trivial⟩ ?_
    exact tr_reI (z := km_197) rfl ⟨_, rfl, rfl⟩ rfl
  · refine tr_icT (cd := .ne) h12 ?_
    refine tr_nil (rows2 := kb_197_16) rfl (List.cons_ne_nil _ _) ?_
    refine tr_blk 7 (pc' := 25) (rows' := kb_197_16.drop 7) (loc' := [.inr (20, 366, 0, i0), .inl (.int a1), .inl (.int a2), .inl (.int a3), .inl (.int a4), .inl (.int (P.1 i0 360))]) (st' := []) (P1 := (ab_pI P i0 360 ((P.1 i0 360) + (1 : Int32)))) rfl ⟨trivial, trivial, trivial, (ab_vi (by decide)), trivial, trivial, (ab_vi (by decide)), trivial⟩ ?_
    refine tr_lt (fun P1 => ?_)
    refine tr_blk 4 (pc' := 30) (rows' := kb_197_16.drop 11) (loc' := [.inr (20, 366, 0, i0), .inl (.int a1), .inl (.int a2), .inl (.int a3), .inl (.int a4), .inl (.int (P.1 i0 360))]) (st' := [.inl (.int a1), .inl (.int (0 : Int32)), .inl (.int (P.1 i0 360)), .inr (20, 366, 0, i0)]) (P1 := P1) rfl ⟨trivial, trivial, trivial, trivial, trivial⟩ ?_
    refine tr_cWV (z := km_281) (av := [.inr (20, 366, 0, i0), .inl (.int (P.1 i0 360)), .inl (.int (0 : Int32)), .inl (.int a1)]) (st' := []) rfl rfl rfl (Nat.le_of_ble_eq_true rfl) trivial rfl (Nat.le_of_ble_eq_true rfl) (t_281_366 i0 (P.1 i0 360) (0 : Int32) a1 P1) (fun P2 => ?_)
    refine tr_blk 4 (pc' := 38) (rows' := kb_197_16.drop 16) (loc' := [.inr (20, 366, 0, i0), .inl (.int a1), .inl (.int a2), .inl (.int a3), .inl (.int a4), .inl (.int (P.1 i0 360))]) (st' := [.inl (.int a2), .inl (.int (1 : Int32)), .inl (.int (P.1 i0 360)), .inr (20, 366, 0, i0)]) (P1 := P2) rfl ⟨trivial, trivial, trivial, trivial, trivial⟩ ?_
    refine tr_cWV (z := km_281) (av := [.inr (20, 366, 0, i0), .inl (.int (P.1 i0 360)), .inl (.int (1 : Int32)), .inl (.int a2)]) (st' := []) rfl rfl rfl (Nat.le_of_ble_eq_true rfl) trivial rfl (Nat.le_of_ble_eq_true rfl) (t_281_366 i0 (P.1 i0 360) (1 : Int32) a2 P2) (fun P3 => ?_)
    refine tr_blk 4 (pc' := 46) (rows' := kb_197_16.drop 21) (loc' := [.inr (20, 366, 0, i0), .inl (.int a1), .inl (.int a2), .inl (.int a3), .inl (.int a4), .inl (.int (P.1 i0 360))]) (st' := [.inl (.int a3), .inl (.int (2 : Int32)), .inl (.int (P.1 i0 360)), .inr (20, 366, 0, i0)]) (P1 := P3) rfl ⟨trivial, trivial, trivial, trivial, trivial⟩ ?_
    refine tr_cWV (z := km_281) (av := [.inr (20, 366, 0, i0), .inl (.int (P.1 i0 360)), .inl (.int (2 : Int32)), .inl (.int a3)]) (st' := []) rfl rfl rfl (Nat.le_of_ble_eq_true rfl) trivial rfl (Nat.le_of_ble_eq_true rfl) (t_281_366 i0 (P.1 i0 360) (2 : Int32) a3 P3) (fun P4 => ?_)
    refine tr_blk 6 (pc' := 58) (rows' := kb_197_16.drop 28) (loc' := [.inr (20, 366, 0, i0), .inl (.int a1), .inl (.int a2), .inl (.int a3), .inl (.int a4), .inl (.int (P.1 i0 360))]) (st' := [.inl (.int (P4.1 i0 361)), .inl (.int (3 : Int32)), .inl (.int (P.1 i0 360)), .inr (20, 366, 0, i0)]) (P1 := P4) rfl ⟨trivial, trivial, trivial, trivial, trivial, (ab_vi (by decide)), trivial⟩ ?_
    refine tr_cWV (z := km_281) (av := [.inr (20, 366, 0, i0), .inl (.int (P.1 i0 360)), .inl (.int (3 : Int32)), .inl (.int (P4.1 i0 361))]) (st' := []) rfl rfl rfl (Nat.le_of_ble_eq_true rfl) trivial rfl (Nat.le_of_ble_eq_true rfl) (t_281_366 i0 (P.1 i0 360) (3 : Int32) (P4.1 i0 361) P4) (fun P5 => ?_)
    refine tr_blk 4 (pc' := 66) (rows' := kb_197_16.drop 33) (loc' := [.inr (20, 366, 0, i0), .inl (.int a1), .inl (.int a2), .inl (.int a3), .inl (.int a4), .inl (.int (P.1 i0 360))]) (st' := [.inl (.int (0 : Int32)), .inl (.int (4 : Int32)), .inl (.int (P.1 i0 360)), .inr (20, 366, 0, i0)]) (P1 := P5) rfl ⟨trivial, trivial, trivial, trivial, trivial⟩ ?_
    refine tr_cWV (z := km_281) (av := [.inr (20, 366, 0, i0), .inl (.int (P.1 i0 360)), .inl (.int (4 : Int32)), .inl (.int (0 : Int32))]) (st' := []) rfl rfl rfl (Nat.le_of_ble_eq_true rfl) trivial rfl (Nat.le_of_ble_eq_true rfl) (t_281_366 i0 (P.1 i0 360) (4 : Int32) (0 : Int32) P5) (fun P6 => ?_)
    refine tr_blk 4 (pc' := 74) (rows' := kb_197_16.drop 38) (loc' := [.inr (20, 366, 0, i0), .inl (.int a1), .inl (.int a2), .inl (.int a3), .inl (.int a4), .inl (.int (P.1 i0 360))]) (st' := [.inl (.int (0 : Int32)), .inl (.int (5 : Int32)), .inl (.int (P.1 i0 360)), .inr (20, 366, 0, i0)]) (P1 := P6) rfl ⟨trivial, trivial, trivial, trivial, trivial⟩ ?_
    refine tr_cWV (z := km_281) (av := [.inr (20, 366, 0, i0), .inl (.int (P.1 i0 360)), .inl (.int (5 : Int32)), .inl (.int (0 : Int32))]) (st' := []) rfl rfl rfl (Nat.le_of_ble_eq_true rfl) trivial rfl (Nat.le_of_ble_eq_true rfl) (t_281_366 i0 (P.1 i0 360) (5 : Int32) (0 : Int32) P6) (fun P7 => ?_)
    refine tr_blk 4 (pc' := 84) (rows' := kb_197_16.drop 43) (loc' := [.inr (20, 366, 0, i0), .inl (.int a1), .inl (.int a2), .inl (.int a3), .inl (.int a4), .inl (.int (P.1 i0 360))]) (st' := [.inl (.int a4), .inl (.int (6 : Int32)), .inl (.int (P.1 i0 360)), .inr (20, 366, 0, i0)]) (P1 := P7) rfl ⟨trivial, trivial, trivial, trivial, trivial⟩ ?_
    refine tr_cWV (z := km_281) (av := [.inr (20, 366, 0, i0), .inl (.int (P.1 i0 360)), .inl (.int (6 : Int32)), .inl (.int a4)]) (st' := []) rfl rfl rfl (Nat.le_of_ble_eq_true rfl) trivial rfl (Nat.le_of_ble_eq_true rfl) (t_281_366 i0 (P.1 i0 360) (6 : Int32) a4 P7) (fun P8 => ?_)
    refine tr_blk 4 (pc' := 93) (rows' := kb_197_16.drop 48) (loc' := [.inr (20, 366, 0, i0), .inl (.int a1), .inl (.int a2), .inl (.int a3), .inl (.int a4), .inl (.int (P.1 i0 360))]) (st' := [.inl (.int (0 : Int32)), .inl (.int (7 : Int32)), .inl (.int (P.1 i0 360)), .inr (20, 366, 0, i0)]) (P1 := P8) rfl ⟨trivial, trivial, trivial, trivial, trivial⟩ ?_
    refine tr_cWV (z := km_281) (av := [.inr (20, 366, 0, i0), .inl (.int (P.1 i0 360)), .inl (.int (7 : Int32)), .inl (.int (0 : Int32))]) (st' := []) rfl rfl rfl (Nat.le_of_ble_eq_true rfl) trivial rfl (Nat.le_of_ble_eq_true rfl) (t_281_366 i0 (P.1 i0 360) (7 : Int32) (0 : Int32) P8) (fun P9 => ?_)
    refine tr_blk 4 (pc' := 102) (rows' := kb_197_16.drop 53) (loc' := [.inr (20, 366, 0, i0), .inl (.int a1), .inl (.int a2), .inl (.int a3), .inl (.int a4), .inl (.int (P.1 i0 360))]) (st' := [.inl (.int (-1 : Int32)), .inl (.int (8 : Int32)), .inl (.int (P.1 i0 360)), .inr (20, 366, 0, i0)]) (P1 := P9) rfl ⟨trivial, trivial, trivial, trivial, trivial⟩ ?_
    refine tr_cWV (z := km_281) (av := [.inr (20, 366, 0, i0), .inl (.int (P.1 i0 360)), .inl (.int (8 : Int32)), .inl (.int (-1 : Int32))]) (st' := []) rfl rfl rfl (Nat.le_of_ble_eq_true rfl) trivial rfl (Nat.le_of_ble_eq_true rfl) (t_281_366 i0 (P.1 i0 360) (8 : Int32) (-1 : Int32) P9) (fun P10 => ?_)
    refine tr_blk 7 (pc' := 114) (rows' := kb_197_16.drop 61) (loc' := [.inr (20, 366, 0, i0), .inl (.int a1), .inl (.int a2), .inl (.int a3), .inl (.int a4), .inl (.int (P.1 i0 360))]) (st' := []) (P1 := (ab_pI P10 i0 362 ((P10.1 i0 362) + a3))) rfl ⟨trivial, trivial, trivial, (ab_vi (by decide)), trivial, trivial, (ab_vi (by decide)), trivial⟩ ?_
    refine tr_lt (fun P11 => ?_)
    refine tr_blk 1 (pc' := 116) (rows' := kb_197_16.drop 62) (loc' := [.inr (20, 366, 0, i0), .inl (.int a1), .inl (.int a2), .inl (.int a3), .inl (.int a4), .inl (.int (P.1 i0 360))]) (st' := [.inl (.int (P.1 i0 360))]) (P1 := P11) rfl ⟨trivial, trivial⟩ ?_
    exact tr_reI (z := km_197) rfl ⟨_, rfl, rfl⟩ rfl
def f_108_79 : Nat → Int32 → ab_P → Option ab_P
  | 0, _, _ => none
  | n + 1, x1, P =>
    if x1 < (P.1 76 1) then
      if ab_gi x1 24 then
      if ab_gi x1 24 then
      if ab_gi x1 24 then
      if ab_gi x1 24 then
      ab_b2 (f_197_366 477 (P.1 (79 + 1 + x1.toNatClampNeg) 0) (P.1 (79 + 1 + x1.toNatClampNeg) 1) (P.1 (79 + 1 + x1.toNatClampNeg) 2) (P.1 (79 + 1 + x1.toNatClampNeg) 3) P) fun v19 P18 =>
      f_108_79 n (x1 + 1) P18
      else none
      else none
      else none
      else none
    else
    ab_lt (ab_pI P 72 16 (0 : Int32)) fun P9 =>
    ab_lt (ab_pI P9 72 29 (0 : Int32)) fun P10 =>
    ab_lt (ab_pI P10 72 30 (0 : Int32)) fun P11 =>
    ab_lt (ab_pI P11 72 31 (0 : Int32)) fun P12 =>
    ab_lt (ab_pI P12 72 32 (0 : Int32)) fun P13 =>
    some P13
theorem t_108_79 {xs : Nat × (Nat → Int32)} {d : Nat} : ∀ n : Nat, ∀ (x1 : Int32) (P : ab_P), ab_tr xs wV (d + 2) 108 79 [] [.inr (12, 0, 0, 72), .inl (.int x1)] [] P (f_108_79 n x1 P) := by
  intro n
  induction n with
  | zero => intro x1 P; exact tr_no
  | succ n ih =>
    intro x1 P
    refine tr_nil (rows2 := kb_108_79) rfl (List.cons_ne_nil _ _) ?_
    refine tr_blk 5 (pc' := 86) (rows' := kb_108_79.drop 5) (loc' := [.inr (12, 0, 0, 72), .inl (.int x1)]) (st' := [.inl (.int (P.1 76 1)), .inl (.int x1)]) (P1 := P) rfl ⟨trivial, trivial, trivial, trivial, (ab_vi (by decide)), trivial⟩ ?_
    refine tr_if (fun h20 => ?_) (fun h20 => ?_)
    · refine tr_icF (cd := .ge) (Int32.not_le.mpr h20) ?_
      refine tr_gd (fun h14 => ?_)
      refine tr_gd (fun h15 => ?_)
      refine tr_gd (fun h16 => ?_)
      refine tr_gd (fun h17 => ?_)
      refine tr_blk 26 (pc' := 125) (rows' := kb_108_79.drop 32) (loc' := [.inr (12, 0, 0, 72), .inl (.int x1)]) (st' := [.inl (.int (P.1 (79 + 1 + x1.toNatClampNeg) 3)), .inl (.int (P.1 (79 + 1 + x1.toNatClampNeg) 2)), .inl (.int (P.1 (79 + 1 + x1.toNatClampNeg) 1)), .inl (.int (P.1 (79 + 1 + x1.toNatClampNeg) 0)), .inr (20, 366, 0, 477)]) (P1 := P) rfl ⟨trivial, trivial, trivial, trivial, trivial, ⟨h14, ab_grl h14⟩, trivial, (ab_vi (by decide)), trivial, trivial, trivial, ⟨h15, ab_grl h15⟩, trivial, (ab_vi (by decide)), trivial, trivial, trivial, ⟨h16, ab_grl h16⟩, trivial, (ab_vi (by decide)), trivial, trivial, trivial, ⟨h17, ab_grl h17⟩, trivial, (ab_vi (by decide)), trivial⟩ ?_
      refine tr_cWI (z := km_197) (av := [.inr (20, 366, 0, 477), .inl (.int (P.1 (79 + 1 + x1.toNatClampNeg) 0)), .inl (.int (P.1 (79 + 1 + x1.toNatClampNeg) 1)), .inl (.int (P.1 (79 + 1 + x1.toNatClampNeg) 2)), .inl (.int (P.1 (79 + 1 + x1.toNatClampNeg) 3))]) (st' := []) rfl rfl rfl (Nat.le_of_ble_eq_true rfl) trivial rfl (Nat.le_of_ble_eq_true rfl) (t_197_366 477 (P.1 (79 + 1 + x1.toNatClampNeg) 0) (P.1 (79 + 1 + x1.toNatClampNeg) 1) (P.1 (79 + 1 + x1.toNatClampNeg) 2) (P.1 (79 + 1 + x1.toNatClampNeg) 3) P) (fun v19 P18 => ?_)
      refine tr_blk 2 (pc' := 132) (rows' := kb_108_79.drop 35) (loc' := [.inr (12, 0, 0, 72), .inl (.int (x1 + 1))]) (st' := []) (P1 := P18) rfl ⟨trivial, trivial, trivial⟩ ?_
      refine tr_goto ?_
      exact ih (x1 + 1) P18
    · refine tr_icT (cd := .ge) (Int32.not_lt.mp h20) ?_
      refine tr_nil (rows2 := kb_108_135) rfl (List.cons_ne_nil _ _) ?_
      refine tr_blk 3 (pc' := 140) (rows' := kb_108_135.drop 3) (loc' := [.inr (12, 0, 0, 72), .inl (.int x1)]) (st' := []) (P1 := (ab_pI P 72 16 (0 : Int32))) rfl ⟨trivial, trivial, trivial, trivial⟩ ?_
      refine tr_lt (fun P9 => ?_)
      refine tr_blk 3 (pc' := 145) (rows' := kb_108_135.drop 6) (loc' := [.inr (12, 0, 0, 72), .inl (.int x1)]) (st' := []) (P1 := (ab_pI P9 72 29 (0 : Int32))) rfl ⟨trivial, trivial, trivial, trivial⟩ ?_
      refine tr_lt (fun P10 => ?_)
      refine tr_blk 3 (pc' := 150) (rows' := kb_108_135.drop 9) (loc' := [.inr (12, 0, 0, 72), .inl (.int x1)]) (st' := []) (P1 := (ab_pI P10 72 30 (0 : Int32))) rfl ⟨trivial, trivial, trivial, trivial⟩ ?_
      refine tr_lt (fun P11 => ?_)
      refine tr_blk 3 (pc' := 155) (rows' := kb_108_135.drop 12) (loc' := [.inr (12, 0, 0, 72), .inl (.int x1)]) (st' := []) (P1 := (ab_pI P11 72 31 (0 : Int32))) rfl ⟨trivial, trivial, trivial, trivial⟩ ?_
      refine tr_lt (fun P12 => ?_)
      refine tr_blk 3 (pc' := 160) (rows' := kb_108_135.drop 15) (loc' := [.inr (12, 0, 0, 72), .inl (.int x1)]) (st' := []) (P1 := (ab_pI P12 72 32 (0 : Int32))) rfl ⟨trivial, trivial, trivial, trivial⟩ ?_
      refine tr_lt (fun P13 => ?_)
      exact tr_reV (z := km_108) rfl rfl rfl
def f_108_57 (N : Nat) : Nat → Int32 → ab_P → Option ab_P
  | 0, _, _ => none
  | n + 1, x1, P =>
    if x1 < (366 : Int32) then
      if ab_gi x1 366 then
      ab_lt (ab_pI P 477 x1.toNatClampNeg (0 : Int32)) fun P8 =>
      f_108_57 N n (x1 + 1) P8
      else none
    else
    f_108_79 N (0 : Int32) P
theorem t_108_57 {xs : Nat × (Nat → Int32)} {d : Nat} (N : Nat) : ∀ n : Nat, ∀ (x1 : Int32) (P : ab_P), ab_tr xs wV (d + 2) 108 57 [] [.inr (12, 0, 0, 72), .inl (.int x1)] [] P (f_108_57 N n x1 P) := by
  intro n
  induction n with
  | zero => intro x1 P; exact tr_no
  | succ n ih =>
    intro x1 P
    refine tr_nil (rows2 := kb_108_57) rfl (List.cons_ne_nil _ _) ?_
    refine tr_blk 2 (pc' := 61) (rows' := kb_108_57.drop 2) (loc' := [.inr (12, 0, 0, 72), .inl (.int x1)]) (st' := [.inl (.int (366 : Int32)), .inl (.int x1)]) (P1 := P) rfl ⟨trivial, trivial, trivial⟩ ?_
    refine tr_if (fun h21 => ?_) (fun h21 => ?_)
    · refine tr_icF (cd := .ge) (Int32.not_le.mpr h21) ?_
      refine tr_gd (fun h7 => ?_)
      refine tr_blk 5 (pc' := 71) (rows' := kb_108_57.drop 8) (loc' := [.inr (12, 0, 0, 72), .inl (.int x1)]) (st' := []) (P1 := (ab_pI P 477 x1.toNatClampNeg (0 : Int32))) rfl ⟨trivial, trivial, trivial, trivial, h7, trivial⟩ ?_
      refine tr_lt (fun P8 => ?_)
      refine tr_blk 1 (pc' := 74) (rows' := kb_108_57.drop 9) (loc' := [.inr (12, 0, 0, 72), .inl (.int (x1 + 1))]) (st' := []) (P1 := P8) rfl ⟨trivial, trivial⟩ ?_
      refine tr_goto ?_
      exact ih (x1 + 1) P8
    · refine tr_icT (cd := .ge) (Int32.not_lt.mp h21) ?_
      refine tr_nil (rows2 := kb_108_77) rfl (List.cons_ne_nil _ _) ?_
      refine tr_blk 2 (pc' := 79) (rows' := kb_108_77.drop 2) (loc' := [.inr (12, 0, 0, 72), .inl (.int (0 : Int32))]) (st' := []) (P1 := P) rfl ⟨trivial, trivial, trivial⟩ ?_
      exact t_108_79 N (0 : Int32) P
def f_108_27 (N : Nat) : Nat → Int32 → ab_P → Option ab_P
  | 0, _, _ => none
  | n + 1, x1, P =>
    if x1 < (P.1 76 0) then
      if ab_gi x1 8 then
      if ab_gi x1 8 then
      ab_lt (ab_pI P 78 x1.toNatClampNeg (P.1 77 x1.toNatClampNeg)) fun P6 =>
      f_108_27 N n (x1 + 1) P6
      else none
      else none
    else
    f_108_57 N N (0 : Int32) P
theorem t_108_27 {xs : Nat × (Nat → Int32)} {d : Nat} (N : Nat) : ∀ n : Nat, ∀ (x1 : Int32) (P : ab_P), ab_tr xs wV (d + 2) 108 27 [] [.inr (12, 0, 0, 72), .inl (.int x1)] [] P (f_108_27 N n x1 P) := by
  intro n
  induction n with
  | zero => intro x1 P; exact tr_no
  | succ n ih =>
    intro x1 P
    refine tr_nil (rows2 := kb_108_27) rfl (List.cons_ne_nil _ _) ?_
    refine tr_blk 5 (pc' := 34) (rows' := kb_108_27.drop 5) (loc' := [.inr (12, 0, 0, 72), .inl (.int x1)]) (st' := [.inl (.int (P.1 76 0)), .inl (.int x1)]) (P1 := P) rfl ⟨trivial, trivial, trivial, trivial, (ab_vi (by decide)), trivial⟩ ?_
    refine tr_if (fun h22 => ?_) (fun h22 => ?_)
    · refine tr_icF (cd := .ge) (Int32.not_le.mpr h22) ?_
      refine tr_gd (fun h4 => ?_)
      refine tr_gd (fun h5 => ?_)
      refine tr_blk 8 (pc' := 49) (rows' := kb_108_27.drop 14) (loc' := [.inr (12, 0, 0, 72), .inl (.int x1)]) (st' := []) (P1 := (ab_pI P 78 x1.toNatClampNeg (P.1 77 x1.toNatClampNeg))) rfl ⟨trivial, trivial, trivial, trivial, trivial, trivial, h4, h5, trivial⟩ ?_
      refine tr_lt (fun P6 => ?_)
      refine tr_blk 1 (pc' := 52) (rows' := kb_108_27.drop 15) (loc' := [.inr (12, 0, 0, 72), .inl (.int (x1 + 1))]) (st' := []) (P1 := P6) rfl ⟨trivial, trivial⟩ ?_
      refine tr_goto ?_
      exact ih (x1 + 1) P6
    · refine tr_icT (cd := .ge) (Int32.not_lt.mp h22) ?_
      refine tr_nil (rows2 := kb_108_55) rfl (List.cons_ne_nil _ _) ?_
      refine tr_blk 2 (pc' := 57) (rows' := kb_108_55.drop 2) (loc' := [.inr (12, 0, 0, 72), .inl (.int (0 : Int32))]) (st' := []) (P1 := P) rfl ⟨trivial, trivial, trivial⟩ ?_
      exact t_108_57 N N (0 : Int32) P
def f_108_2 (N : Nat) : Nat → Int32 → ab_P → Option ab_P
  | 0, _, _ => none
  | n + 1, x1, P =>
    if x1 < (4 : Int32) then
      if ab_gi x1 4 then
      if ab_gi x1 4 then
      ab_lt (ab_pI P 76 x1.toNatClampNeg (P.1 75 x1.toNatClampNeg)) fun P3 =>
      f_108_2 N n (x1 + 1) P3
      else none
      else none
    else
    f_108_27 N N (0 : Int32) P
theorem t_108_2 {xs : Nat × (Nat → Int32)} {d : Nat} (N : Nat) : ∀ n : Nat, ∀ (x1 : Int32) (P : ab_P), ab_tr xs wV (d + 2) 108 2 [] [.inr (12, 0, 0, 72), .inl (.int x1)] [] P (f_108_2 N n x1 P) := by
  intro n
  induction n with
  | zero => intro x1 P; exact tr_no
  | succ n ih =>
    intro x1 P
    refine tr_nil (rows2 := kb_108_2) rfl (List.cons_ne_nil _ _) ?_
    refine tr_blk 2 (pc' := 4) (rows' := kb_108_2.drop 2) (loc' := [.inr (12, 0, 0, 72), .inl (.int x1)]) (st' := [.inl (.int (4 : Int32)), .inl (.int x1)]) (P1 := P) rfl ⟨trivial, trivial, trivial⟩ ?_
    refine tr_if (fun h23 => ?_) (fun h23 => ?_)
    · refine tr_icF (cd := .ge) (Int32.not_le.mpr h23) ?_
      refine tr_gd (fun h1 => ?_)
      refine tr_gd (fun h2 => ?_)
      refine tr_blk 8 (pc' := 19) (rows' := kb_108_2.drop 11) (loc' := [.inr (12, 0, 0, 72), .inl (.int x1)]) (st' := []) (P1 := (ab_pI P 76 x1.toNatClampNeg (P.1 75 x1.toNatClampNeg))) rfl ⟨trivial, trivial, trivial, trivial, trivial, trivial, h1, h2, trivial⟩ ?_
      refine tr_lt (fun P3 => ?_)
      refine tr_blk 1 (pc' := 22) (rows' := kb_108_2.drop 12) (loc' := [.inr (12, 0, 0, 72), .inl (.int (x1 + 1))]) (st' := []) (P1 := P3) rfl ⟨trivial, trivial⟩ ?_
      refine tr_goto ?_
      exact ih (x1 + 1) P3
    · refine tr_icT (cd := .ge) (Int32.not_lt.mp h23) ?_
      refine tr_nil (rows2 := kb_108_25) rfl (List.cons_ne_nil _ _) ?_
      refine tr_blk 2 (pc' := 27) (rows' := kb_108_25.drop 2) (loc' := [.inr (12, 0, 0, 72), .inl (.int (0 : Int32))]) (st' := []) (P1 := P) rfl ⟨trivial, trivial, trivial⟩ ?_
      exact t_108_27 N N (0 : Int32) P
def f_108 (N : Nat) (P : ab_P) : Option ab_P :=
    f_108_2 N N (0 : Int32) P
theorem t_108 {xs : Nat × (Nat → Int32)} {d : Nat} (N : Nat) : ∀ (P : ab_P), ab_tr xs wV (d + 2) 108 0 [] [.inr (12, 0, 0, 72), ab_top] [] P (f_108 N P) := by
  intro P
  unfold f_108
  refine tr_nil (rows2 := kb_108_0) rfl (List.cons_ne_nil _ _) ?_
  refine tr_blk 2 (pc' := 2) (rows' := kb_108_0.drop 2) (loc' := [.inr (12, 0, 0, 72), .inl (.int (0 : Int32))]) (st' := []) (P1 := P) rfl ⟨trivial, trivial, trivial⟩ ?_
  exact t_108_2 N N (0 : Int32) P
def f_117 (P : ab_P) : Option (Int32 × ab_P) :=
    ab_lt (ab_pI P 72 3 (P.1 72 6)) fun P1 =>
    some (((P1.1 72 5) - (10 : Int32)), P1)
theorem t_117 {xs : Nat × (Nat → Int32)} {d : Nat} : ∀ (P : ab_P), ab_tr xs wI (d + 0) 117 0 [] [.inr (12, 0, 0, 72)] [] P (f_117 P) := by
  intro P
  unfold f_117
  refine tr_nil (rows2 := kb_117_0) rfl (List.cons_ne_nil _ _) ?_
  refine tr_blk 4 (pc' := 8) (rows' := kb_117_0.drop 4) (loc' := [.inr (12, 0, 0, 72)]) (st' := []) (P1 := (ab_pI P 72 3 (P.1 72 6))) rfl ⟨trivial, trivial, trivial, trivial, trivial⟩ ?_
  refine tr_lt (fun P1 => ?_)
  refine tr_blk 4 (pc' := 15) (rows' := kb_117_0.drop 8) (loc' := [.inr (12, 0, 0, 72)]) (st' := [.inl (.int ((P1.1 72 5) - (10 : Int32)))]) (P1 := P1) rfl ⟨trivial, trivial, trivial, trivial, trivial⟩ ?_
  exact tr_reI (z := km_117) rfl ⟨_, rfl, rfl⟩ rfl
def f_288 (P : ab_P) (a0 : Int32) : Option Int32 :=
    if a0 < (97 : Int32) then
      some (0 : Int32)
    else
    if (122 : Int32) < a0 then
      some (0 : Int32)
    else
    some (1 : Int32)
theorem t_288 {xs : Nat × (Nat → Int32)} {d : Nat} (P : ab_P) : ∀ (a0 : Int32), ab_tr xs (rI P) (d + 0) 288 0 [] [.inl (.int a0)] [] P (f_288 P a0) := by
  intro a0
  unfold f_288
  refine tr_nil (rows2 := kb_288_0) rfl (List.cons_ne_nil _ _) ?_
  refine tr_blk 2 (pc' := 3) (rows' := kb_288_0.drop 2) (loc' := [.inl (.int a0)]) (st' := [.inl (.int (97 : Int32)), .inl (.int a0)]) (P1 := P) rfl ⟨trivial, trivial, trivial⟩ ?_
  refine tr_if (fun h1 => ?_) (fun h1 => ?_)
  · refine tr_icT (cd := .lt) h1 ?_
    refine tr_nil (rows2 := kb_288_16) rfl (List.cons_ne_nil _ _) ?_
    refine tr_blk 1 (pc' := 17) (rows' := kb_288_16.drop 1) (loc' := [.inl (.int a0)]) (st' := [.inl (.int (0 : Int32))]) (P1 := P) rfl ⟨trivial, trivial⟩ ?_
    refine tr_nil (rows2 := kb_288_17) rfl (List.cons_ne_nil _ _) ?_
    exact tr_reI (z := km_288) rfl ⟨_, rfl, rfl⟩ rfl
  · refine tr_icF (cd := .lt) h1 ?_
    refine tr_blk 2 (pc' := 9) (rows' := kb_288_0.drop 5) (loc' := [.inl (.int a0)]) (st' := [.inl (.int (122 : Int32)), .inl (.int a0)]) (P1 := P) rfl ⟨trivial, trivial, trivial⟩ ?_
    refine tr_if (fun h2 => ?_) (fun h2 => ?_)
    · refine tr_icT (cd := .gt) h2 ?_
      refine tr_nil (rows2 := kb_288_16) rfl (List.cons_ne_nil _ _) ?_
      refine tr_blk 1 (pc' := 17) (rows' := kb_288_16.drop 1) (loc' := [.inl (.int a0)]) (st' := [.inl (.int (0 : Int32))]) (P1 := P) rfl ⟨trivial, trivial⟩ ?_
      refine tr_nil (rows2 := kb_288_17) rfl (List.cons_ne_nil _ _) ?_
      exact tr_reI (z := km_288) rfl ⟨_, rfl, rfl⟩ rfl
    · refine tr_icF (cd := .gt) h2 ?_
      refine tr_blk 1 (pc' := 13) (rows' := kb_288_0.drop 7) (loc' := [.inl (.int a0)]) (st' := [.inl (.int (1 : Int32))]) (P1 := P) rfl ⟨trivial, trivial⟩ ?_
      refine tr_goto ?_
      refine tr_nil (rows2 := kb_288_17) rfl (List.cons_ne_nil _ _) ?_
      exact tr_reI (z := km_288) rfl ⟨_, rfl, rfl⟩ rfl
def f_286_8 : Nat → Int64 → Int32 → ab_P → Option (Int64 × ab_P)
  | 0, _, _, _ => none
  | n + 1, x1, x3, P =>
    Option.bind (f_209 P ((P.1 72 4) + x3)) fun v2 =>
    Option.bind (f_288 P v2) fun v3 =>
    if v3 = (0 : Int32) then
      if (8 : Int32) < x3 then
        some ((-1 : Int64), P)
      else
      some (x1, P)
    else
    if x3 < (9 : Int32) then
      Option.bind (f_209 P ((P.1 72 4) + x3)) fun v4 =>
      f_286_8 n (((((27 : Int64) * x1) + (v4).toInt64) - (97 : Int64)) + (1 : Int64)) (x3 + 1) P
    else
    f_286_8 n x1 (x3 + 1) P
theorem t_286_8 {xs : Nat × (Nat → Int32)} {d : Nat} : ∀ n : Nat, ∀ (x1 : Int64) (x3 : Int32) (P : ab_P), ab_tr xs wL (d + 2) 286 8 [] [.inr (12, 0, 0, 72), .inl (.long x1), ab_top, .inl (.int x3)] [] P (f_286_8 n x1 x3 P) := by
  intro n
  induction n with
  | zero => intro x1 x3 P; exact tr_no
  | succ n ih =>
    intro x1 x3 P
    refine tr_nil (rows2 := kb_286_8) rfl (List.cons_ne_nil _ _) ?_
    refine tr_blk 5 (pc' := 15) (rows' := kb_286_8.drop 5) (loc' := [.inr (12, 0, 0, 72), .inl (.long x1), ab_top, .inl (.int x3)]) (st' := [.inl (.int ((P.1 72 4) + x3)), .inr (12, 0, 0, 72)]) (P1 := P) rfl ⟨trivial, trivial, trivial, trivial, trivial, trivial⟩ ?_
    refine tr_cRI (z := km_209) (av := [.inr (12, 0, 0, 72), .inl (.int ((P.1 72 4) + x3))]) (st' := []) rfl rfl rfl (Nat.le_of_ble_eq_true rfl) ⟨rfl, Or.inl (by decide)⟩ rfl (Nat.le_of_ble_eq_true rfl) (t_209 P ((P.1 72 4) + x3)) (fun v2 => ?_)
    refine tr_cRI (z := km_288) (av := [.inl (.int v2)]) (st' := []) rfl rfl rfl (Nat.le_of_ble_eq_true rfl) trivial rfl (Nat.le_of_ble_eq_true rfl) (t_288 P v2) (fun v3 => ?_)
    refine tr_if (fun h5 => ?_) (fun h5 => ?_)
    · refine tr_ifT (cd := .eq) h5 ?_
      refine tr_nil (rows2 := kb_286_64) rfl (List.cons_ne_nil _ _) ?_
      refine tr_blk 2 (pc' := 67) (rows' := kb_286_64.drop 2) (loc' := [.inr (12, 0, 0, 72), .inl (.long x1), ab_top, .inl (.int x3)]) (st' := [.inl (.int (8 : Int32)), .inl (.int x3)]) (P1 := P) rfl ⟨trivial, trivial, trivial⟩ ?_
      refine tr_if (fun h6 => ?_) (fun h6 => ?_)
      · refine tr_icF (cd := .le) (Int32.not_le.mpr h6) ?_
        refine tr_blk 1 (pc' := 73) (rows' := kb_286_64.drop 4) (loc' := [.inr (12, 0, 0, 72), .inl (.long x1), ab_top, .inl (.int x3)]) (st' := [.inl (.long (-1 : Int64))]) (P1 := P) rfl ⟨trivial, trivial⟩ ?_
        refine tr_goto ?_
        refine tr_nil (rows2 := kb_286_77) rfl (List.cons_ne_nil _ _) ?_
        exact tr_reL (z := km_286) rfl rfl rfl
      · refine tr_icT (cd := .le) (Int32.not_lt.mp h6) ?_
        refine tr_nil (rows2 := kb_286_76) rfl (List.cons_ne_nil _ _) ?_
        refine tr_blk 1 (pc' := 77) (rows' := kb_286_76.drop 1) (loc' := [.inr (12, 0, 0, 72), .inl (.long x1), ab_top, .inl (.int x3)]) (st' := [.inl (.long x1)]) (P1 := P) rfl ⟨trivial, trivial⟩ ?_
        refine tr_nil (rows2 := kb_286_77) rfl (List.cons_ne_nil _ _) ?_
        exact tr_reL (z := km_286) rfl rfl rfl
    · refine tr_ifF (cd := .eq) h5 ?_
      refine tr_blk 2 (pc' := 27) (rows' := kb_286_8.drop 10) (loc' := [.inr (12, 0, 0, 72), .inl (.long x1), ab_top, .inl (.int x3)]) (st' := [.inl (.int (9 : Int32)), .inl (.int x3)]) (P1 := P) rfl ⟨trivial, trivial, trivial⟩ ?_
      refine tr_if (fun h7 => ?_) (fun h7 => ?_)
      · refine tr_icF (cd := .ge) (Int32.not_le.mpr h7) ?_
        refine tr_blk 8 (pc' := 42) (rows' := kb_286_8.drop 19) (loc' := [.inr (12, 0, 0, 72), .inl (.long x1), ab_top, .inl (.int x3)]) (st' := [.inl (.int ((P.1 72 4) + x3)), .inr (12, 0, 0, 72), .inl (.long ((27 : Int64) * x1))]) (P1 := P) rfl ⟨trivial, trivial, trivial, trivial, trivial, trivial, trivial, trivial, trivial⟩ ?_
        refine tr_cRI (z := km_209) (av := [.inr (12, 0, 0, 72), .inl (.int ((P.1 72 4) + x3))]) (st' := [.inl (.long ((27 : Int64) * x1))]) rfl rfl rfl (Nat.le_of_ble_eq_true rfl) ⟨rfl, Or.inl (by decide)⟩ rfl (Nat.le_of_ble_eq_true rfl) (t_209 P ((P.1 72 4) + x3)) (fun v4 => ?_)
        refine tr_blk 6 (pc' := 53) (rows' := kb_286_8.drop 26) (loc' := [.inr (12, 0, 0, 72), .inl (.long x1), ab_top, .inl (.int x3)]) (st' := [.inl (.long (((((27 : Int64) * x1) + (v4).toInt64) - (97 : Int64)) + (1 : Int64)))]) (P1 := P) rfl ⟨trivial, trivial, trivial, trivial, trivial, trivial, trivial⟩ ?_
        refine tr_goto ?_
        refine tr_nil (rows2 := kb_286_57) rfl (List.cons_ne_nil _ _) ?_
        refine tr_blk 2 (pc' := 61) (rows' := kb_286_57.drop 2) (loc' := [.inr (12, 0, 0, 72), .inl (.long (((((27 : Int64) * x1) + (v4).toInt64) - (97 : Int64)) + (1 : Int64))), ab_top, .inl (.int (x3 + 1))]) (st' := []) (P1 := P) rfl ⟨trivial, trivial, trivial⟩ ?_
        refine tr_goto ?_
        exact ih (((((27 : Int64) * x1) + (v4).toInt64) - (97 : Int64)) + (1 : Int64)) (x3 + 1) P
      · refine tr_icT (cd := .ge) (Int32.not_lt.mp h7) ?_
        refine tr_nil (rows2 := kb_286_56) rfl (List.cons_ne_nil _ _) ?_
        refine tr_blk 1 (pc' := 57) (rows' := kb_286_56.drop 1) (loc' := [.inr (12, 0, 0, 72), .inl (.long x1), ab_top, .inl (.int x3)]) (st' := [.inl (.long x1)]) (P1 := P) rfl ⟨trivial, trivial⟩ ?_
        refine tr_nil (rows2 := kb_286_57) rfl (List.cons_ne_nil _ _) ?_
        refine tr_blk 2 (pc' := 61) (rows' := kb_286_57.drop 2) (loc' := [.inr (12, 0, 0, 72), .inl (.long x1), ab_top, .inl (.int (x3 + 1))]) (st' := []) (P1 := P) rfl ⟨trivial, trivial, trivial⟩ ?_
        refine tr_goto ?_
        exact ih x1 (x3 + 1) P
def f_286 (N : Nat) (P : ab_P) : Option (Int64 × ab_P) :=
    Option.bind (f_116 N P) fun P1 =>
    f_286_8 N (0 : Int64) (0 : Int32) P1
theorem t_286 {xs : Nat × (Nat → Int32)} {d : Nat} (N : Nat) : ∀ (P : ab_P), ab_tr xs wL (d + 2) 286 0 [] [.inr (12, 0, 0, 72), ab_top, ab_top, ab_top] [] P (f_286 N P) := by
  intro P
  unfold f_286
  refine tr_nil (rows2 := kb_286_0) rfl (List.cons_ne_nil _ _) ?_
  refine tr_blk 1 (pc' := 1) (rows' := kb_286_0.drop 1) (loc' := [.inr (12, 0, 0, 72), ab_top, ab_top, ab_top]) (st' := [.inr (12, 0, 0, 72)]) (P1 := P) rfl ⟨trivial, trivial⟩ ?_
  refine tr_cWV (z := km_116) (av := [.inr (12, 0, 0, 72)]) (st' := []) rfl rfl rfl (Nat.le_of_ble_eq_true rfl) ⟨rfl, Or.inl (by decide)⟩ rfl (Nat.le_of_ble_eq_true rfl) (t_116 N P) (fun P1 => ?_)
  refine tr_blk 4 (pc' := 8) (rows' := kb_286_0.drop 6) (loc' := [.inr (12, 0, 0, 72), .inl (.long (0 : Int64)), ab_top, .inl (.int (0 : Int32))]) (st' := []) (P1 := P1) rfl ⟨trivial, trivial, trivial, trivial, trivial⟩ ?_
  exact t_286_8 N (0 : Int64) (0 : Int32) P1
def f_287_80 (P : ab_P) (x6 : Int32) (x7 : Int32) (s0 : Int64) : Option Int64 :=
    if x6 = (0 : Int32) then
      if x7 = (0 : Int32) then
        some s0
      else
      some (((27 : Int64) * s0) + (x7).toInt64)
    else
    if x7 = (0 : Int32) then
      some (((27 : Int64) * s0) + (x6).toInt64)
    else
    some (((27 : Int64) * (((27 : Int64) * s0) + (x6).toInt64)) + (x7).toInt64)
theorem t_287_80 {xs : Nat × (Nat → Int32)} {d : Nat} (P : ab_P) : ∀ (x6 : Int32) (x7 : Int32) (s0 : Int64) (d0 : Int32) (d1 : Int32) (d2 : Int32) (d3 : Int32) (d4 : Int32) (d5 : Int32) (d8 : Int64), ab_tr xs (rL P) (d + 0) 287 80 [] [.inl (.int d0), .inl (.int d1), .inl (.int d2), .inl (.int d3), .inl (.int d4), .inl (.int d5), .inl (.int x6), .inl (.int x7), .inl (.long d8), ab_top] [.inl (.long s0)] P (f_287_80 P x6 x7 s0) := by
  intro x6 x7 s0 d0 d1 d2 d3 d4 d5 d8
  unfold f_287_80
  refine tr_nil (rows2 := kb_287_80) rfl (List.cons_ne_nil _ _) ?_
  refine tr_blk 2 (pc' := 84) (rows' := kb_287_80.drop 2) (loc' := [.inl (.int d0), .inl (.int d1), .inl (.int d2), .inl (.int d3), .inl (.int d4), .inl (.int d5), .inl (.int x6), .inl (.int x7), .inl (.long s0), ab_top]) (st' := [.inl (.int x6)]) (P1 := P) rfl ⟨trivial, trivial, trivial⟩ ?_
  refine tr_if (fun h1 => ?_) (fun h1 => ?_)
  · refine tr_ifF (cd := .ne) (fun q => q h1) ?_
    refine tr_blk 1 (pc' := 89) (rows' := kb_287_80.drop 4) (loc' := [.inl (.int d0), .inl (.int d1), .inl (.int d2), .inl (.int d3), .inl (.int d4), .inl (.int d5), .inl (.int x6), .inl (.int x7), .inl (.long s0), ab_top]) (st' := [.inl (.long s0)]) (P1 := P) rfl ⟨trivial, trivial⟩ ?_
    refine tr_goto ?_
    refine tr_nil (rows2 := kb_287_102) rfl (List.cons_ne_nil _ _) ?_
    refine tr_blk 2 (pc' := 106) (rows' := kb_287_102.drop 2) (loc' := [.inl (.int d0), .inl (.int d1), .inl (.int d2), .inl (.int d3), .inl (.int d4), .inl (.int d5), .inl (.int x6), .inl (.int x7), .inl (.long s0), ab_top]) (st' := [.inl (.int x7)]) (P1 := P) rfl ⟨trivial, trivial, trivial⟩ ?_
    refine tr_if (fun h3 => ?_) (fun h3 => ?_)
    · refine tr_ifF (cd := .ne) (fun q => q h3) ?_
      refine tr_blk 1 (pc' := 111) (rows' := kb_287_102.drop 4) (loc' := [.inl (.int d0), .inl (.int d1), .inl (.int d2), .inl (.int d3), .inl (.int d4), .inl (.int d5), .inl (.int x6), .inl (.int x7), .inl (.long s0), ab_top]) (st' := [.inl (.long s0)]) (P1 := P) rfl ⟨trivial, trivial⟩ ?_
      refine tr_goto ?_
      refine tr_nil (rows2 := kb_287_124) rfl (List.cons_ne_nil _ _) ?_
      exact tr_reL (z := km_287) rfl rfl rfl
    · refine tr_ifT (cd := .ne) h3 ?_
      refine tr_nil (rows2 := kb_287_114) rfl (List.cons_ne_nil _ _) ?_
      refine tr_blk 6 (pc' := 124) (rows' := kb_287_114.drop 6) (loc' := [.inl (.int d0), .inl (.int d1), .inl (.int d2), .inl (.int d3), .inl (.int d4), .inl (.int d5), .inl (.int x6), .inl (.int x7), .inl (.long s0), ab_top]) (st' := [.inl (.long (((27 : Int64) * s0) + (x7).toInt64))]) (P1 := P) rfl ⟨trivial, trivial, trivial, trivial, trivial, trivial, trivial⟩ ?_
      refine tr_nil (rows2 := kb_287_124) rfl (List.cons_ne_nil _ _) ?_
      exact tr_reL (z := km_287) rfl rfl rfl
  · refine tr_ifT (cd := .ne) h1 ?_
    refine tr_nil (rows2 := kb_287_92) rfl (List.cons_ne_nil _ _) ?_
    refine tr_blk 6 (pc' := 102) (rows' := kb_287_92.drop 6) (loc' := [.inl (.int d0), .inl (.int d1), .inl (.int d2), .inl (.int d3), .inl (.int d4), .inl (.int d5), .inl (.int x6), .inl (.int x7), .inl (.long s0), ab_top]) (st' := [.inl (.long (((27 : Int64) * s0) + (x6).toInt64))]) (P1 := P) rfl ⟨trivial, trivial, trivial, trivial, trivial, trivial, trivial⟩ ?_
    refine tr_nil (rows2 := kb_287_102) rfl (List.cons_ne_nil _ _) ?_
    refine tr_blk 2 (pc' := 106) (rows' := kb_287_102.drop 2) (loc' := [.inl (.int d0), .inl (.int d1), .inl (.int d2), .inl (.int d3), .inl (.int d4), .inl (.int d5), .inl (.int x6), .inl (.int x7), .inl (.long (((27 : Int64) * s0) + (x6).toInt64)), ab_top]) (st' := [.inl (.int x7)]) (P1 := P) rfl ⟨trivial, trivial, trivial⟩ ?_
    refine tr_if (fun h2 => ?_) (fun h2 => ?_)
    · refine tr_ifF (cd := .ne) (fun q => q h2) ?_
      refine tr_blk 1 (pc' := 111) (rows' := kb_287_102.drop 4) (loc' := [.inl (.int d0), .inl (.int d1), .inl (.int d2), .inl (.int d3), .inl (.int d4), .inl (.int d5), .inl (.int x6), .inl (.int x7), .inl (.long (((27 : Int64) * s0) + (x6).toInt64)), ab_top]) (st' := [.inl (.long (((27 : Int64) * s0) + (x6).toInt64))]) (P1 := P) rfl ⟨trivial, trivial⟩ ?_
      refine tr_goto ?_
      refine tr_nil (rows2 := kb_287_124) rfl (List.cons_ne_nil _ _) ?_
      exact tr_reL (z := km_287) rfl rfl rfl
    · refine tr_ifT (cd := .ne) h2 ?_
      refine tr_nil (rows2 := kb_287_114) rfl (List.cons_ne_nil _ _) ?_
      refine tr_blk 6 (pc' := 124) (rows' := kb_287_114.drop 6) (loc' := [.inl (.int d0), .inl (.int d1), .inl (.int d2), .inl (.int d3), .inl (.int d4), .inl (.int d5), .inl (.int x6), .inl (.int x7), .inl (.long (((27 : Int64) * s0) + (x6).toInt64)), ab_top]) (st' := [.inl (.long (((27 : Int64) * (((27 : Int64) * s0) + (x6).toInt64)) + (x7).toInt64))]) (P1 := P) rfl ⟨trivial, trivial, trivial, trivial, trivial, trivial, trivial⟩ ?_
      refine tr_nil (rows2 := kb_287_124) rfl (List.cons_ne_nil _ _) ?_
      exact tr_reL (z := km_287) rfl rfl rfl
def f_287_36 (P : ab_P) (x4 : Int32) (x5 : Int32) (x6 : Int32) (x7 : Int32) (s0 : Int64) : Option Int64 :=
    if x4 = (0 : Int32) then
      if x5 = (0 : Int32) then
        f_287_80 P x6 x7 s0
      else
      f_287_80 P x6 x7 (((27 : Int64) * s0) + (x5).toInt64)
    else
    if x5 = (0 : Int32) then
      f_287_80 P x6 x7 (((27 : Int64) * s0) + (x4).toInt64)
    else
    f_287_80 P x6 x7 (((27 : Int64) * (((27 : Int64) * s0) + (x4).toInt64)) + (x5).toInt64)
theorem t_287_36 {xs : Nat × (Nat → Int32)} {d : Nat} (P : ab_P) : ∀ (x4 : Int32) (x5 : Int32) (x6 : Int32) (x7 : Int32) (s0 : Int64) (d0 : Int32) (d1 : Int32) (d2 : Int32) (d3 : Int32) (d8 : Int64), ab_tr xs (rL P) (d + 0) 287 36 [] [.inl (.int d0), .inl (.int d1), .inl (.int d2), .inl (.int d3), .inl (.int x4), .inl (.int x5), .inl (.int x6), .inl (.int x7), .inl (.long d8), ab_top] [.inl (.long s0)] P (f_287_36 P x4 x5 x6 x7 s0) := by
  intro x4 x5 x6 x7 s0 d0 d1 d2 d3 d8
  unfold f_287_36
  refine tr_nil (rows2 := kb_287_36) rfl (List.cons_ne_nil _ _) ?_
  refine tr_blk 2 (pc' := 40) (rows' := kb_287_36.drop 2) (loc' := [.inl (.int d0), .inl (.int d1), .inl (.int d2), .inl (.int d3), .inl (.int x4), .inl (.int x5), .inl (.int x6), .inl (.int x7), .inl (.long s0), ab_top]) (st' := [.inl (.int x4)]) (P1 := P) rfl ⟨trivial, trivial, trivial⟩ ?_
  refine tr_if (fun h4 => ?_) (fun h4 => ?_)
  · refine tr_ifF (cd := .ne) (fun q => q h4) ?_
    refine tr_blk 1 (pc' := 45) (rows' := kb_287_36.drop 4) (loc' := [.inl (.int d0), .inl (.int d1), .inl (.int d2), .inl (.int d3), .inl (.int x4), .inl (.int x5), .inl (.int x6), .inl (.int x7), .inl (.long s0), ab_top]) (st' := [.inl (.long s0)]) (P1 := P) rfl ⟨trivial, trivial⟩ ?_
    refine tr_goto ?_
    refine tr_nil (rows2 := kb_287_58) rfl (List.cons_ne_nil _ _) ?_
    refine tr_blk 2 (pc' := 62) (rows' := kb_287_58.drop 2) (loc' := [.inl (.int d0), .inl (.int d1), .inl (.int d2), .inl (.int d3), .inl (.int x4), .inl (.int x5), .inl (.int x6), .inl (.int x7), .inl (.long s0), ab_top]) (st' := [.inl (.int x5)]) (P1 := P) rfl ⟨trivial, trivial, trivial⟩ ?_
    refine tr_if (fun h6 => ?_) (fun h6 => ?_)
    · refine tr_ifF (cd := .ne) (fun q => q h6) ?_
      refine tr_blk 1 (pc' := 67) (rows' := kb_287_58.drop 4) (loc' := [.inl (.int d0), .inl (.int d1), .inl (.int d2), .inl (.int d3), .inl (.int x4), .inl (.int x5), .inl (.int x6), .inl (.int x7), .inl (.long s0), ab_top]) (st' := [.inl (.long s0)]) (P1 := P) rfl ⟨trivial, trivial⟩ ?_
      refine tr_goto ?_
      exact t_287_80 P x6 x7 s0 (d0) (d1) (d2) (d3) (x4) (x5) (s0)
    · refine tr_ifT (cd := .ne) h6 ?_
      refine tr_nil (rows2 := kb_287_70) rfl (List.cons_ne_nil _ _) ?_
      refine tr_blk 6 (pc' := 80) (rows' := kb_287_70.drop 6) (loc' := [.inl (.int d0), .inl (.int d1), .inl (.int d2), .inl (.int d3), .inl (.int x4), .inl (.int x5), .inl (.int x6), .inl (.int x7), .inl (.long s0), ab_top]) (st' := [.inl (.long (((27 : Int64) * s0) + (x5).toInt64))]) (P1 := P) rfl ⟨trivial, trivial, trivial, trivial, trivial, trivial, trivial⟩ ?_
      exact t_287_80 P x6 x7 (((27 : Int64) * s0) + (x5).toInt64) (d0) (d1) (d2) (d3) (x4) (x5) (s0)
  · refine tr_ifT (cd := .ne) h4 ?_
    refine tr_nil (rows2 := kb_287_48) rfl (List.cons_ne_nil _ _) ?_
    refine tr_blk 6 (pc' := 58) (rows' := kb_287_48.drop 6) (loc' := [.inl (.int d0), .inl (.int d1), .inl (.int d2), .inl (.int d3), .inl (.int x4), .inl (.int x5), .inl (.int x6), .inl (.int x7), .inl (.long s0), ab_top]) (st' := [.inl (.long (((27 : Int64) * s0) + (x4).toInt64))]) (P1 := P) rfl ⟨trivial, trivial, trivial, trivial, trivial, trivial, trivial⟩ ?_
    refine tr_nil (rows2 := kb_287_58) rfl (List.cons_ne_nil _ _) ?_
    refine tr_blk 2 (pc' := 62) (rows' := kb_287_58.drop 2) (loc' := [.inl (.int d0), .inl (.int d1), .inl (.int d2), .inl (.int d3), .inl (.int x4), .inl (.int x5), .inl (.int x6), .inl (.int x7), .inl (.long (((27 : Int64) * s0) + (x4).toInt64)), ab_top]) (st' := [.inl (.int x5)]) (P1 := P) rfl ⟨trivial, trivial, trivial⟩ ?_
    refine tr_if (fun h5 => ?_) (fun h5 => ?_)
    · refine tr_ifF (cd := .ne) (fun q => q h5) ?_
      refine tr_blk 1 (pc' := 67) (rows' := kb_287_58.drop 4) (loc' := [.inl (.int d0), .inl (.int d1), .inl (.int d2), .inl (.int d3), .inl (.int x4), .inl (.int x5), .inl (.int x6), .inl (.int x7), .inl (.long (((27 : Int64) * s0) + (x4).toInt64)), ab_top]) (st' := [.inl (.long (((27 : Int64) * s0) + (x4).toInt64))]) (P1 := P) rfl ⟨trivial, trivial⟩ ?_
      refine tr_goto ?_
      exact t_287_80 P x6 x7 (((27 : Int64) * s0) + (x4).toInt64) (d0) (d1) (d2) (d3) (x4) (x5) ((((27 : Int64) * s0) + (x4).toInt64))
    · refine tr_ifT (cd := .ne) h5 ?_
      refine tr_nil (rows2 := kb_287_70) rfl (List.cons_ne_nil _ _) ?_
      refine tr_blk 6 (pc' := 80) (rows' := kb_287_70.drop 6) (loc' := [.inl (.int d0), .inl (.int d1), .inl (.int d2), .inl (.int d3), .inl (.int x4), .inl (.int x5), .inl (.int x6), .inl (.int x7), .inl (.long (((27 : Int64) * s0) + (x4).toInt64)), ab_top]) (st' := [.inl (.long (((27 : Int64) * (((27 : Int64) * s0) + (x4).toInt64)) + (x5).toInt64))]) (P1 := P) rfl ⟨trivial, trivial, trivial, trivial, trivial, trivial, trivial⟩ ?_
      exact t_287_80 P x6 x7 (((27 : Int64) * (((27 : Int64) * s0) + (x4).toInt64)) + (x5).toInt64) (d0) (d1) (d2) (d3) (x4) (x5) ((((27 : Int64) * s0) + (x4).toInt64))
def f_287 (P : ab_P) (a0 : Int32) (a1 : Int32) (a2 : Int32) (a3 : Int32) (a4 : Int32) (a5 : Int32) (a6 : Int32) (a7 : Int32) : Option Int64 :=
    if a3 = (0 : Int32) then
      f_287_36 P a4 a5 a6 a7 (((27 : Int64) * (((27 : Int64) * (a0).toInt64) + (a1).toInt64)) + (a2).toInt64)
    else
    f_287_36 P a4 a5 a6 a7 (((27 : Int64) * (((27 : Int64) * (((27 : Int64) * (a0).toInt64) + (a1).toInt64)) + (a2).toInt64)) + (a3).toInt64)
theorem t_287 {xs : Nat × (Nat → Int32)} {d : Nat} (P : ab_P) : ∀ (a0 : Int32) (a1 : Int32) (a2 : Int32) (a3 : Int32) (a4 : Int32) (a5 : Int32) (a6 : Int32) (a7 : Int32), ab_tr xs (rL P) (d + 0) 287 0 [] [.inl (.int a0), .inl (.int a1), .inl (.int a2), .inl (.int a3), .inl (.int a4), .inl (.int a5), .inl (.int a6), .inl (.int a7), ab_top, ab_top] [] P (f_287 P a0 a1 a2 a3 a4 a5 a6 a7) := by
  intro a0 a1 a2 a3 a4 a5 a6 a7
  unfold f_287
  refine tr_nil (rows2 := kb_287_0) rfl (List.cons_ne_nil _ _) ?_
  refine tr_blk 14 (pc' := 19) (rows' := kb_287_0.drop 14) (loc' := [.inl (.int a0), .inl (.int a1), .inl (.int a2), .inl (.int a3), .inl (.int a4), .inl (.int a5), .inl (.int a6), .inl (.int a7), .inl (.long (((27 : Int64) * (((27 : Int64) * (a0).toInt64) + (a1).toInt64)) + (a2).toInt64)), ab_top]) (st' := [.inl (.int a3)]) (P1 := P) rfl ⟨trivial, trivial, trivial, trivial, trivial, trivial, trivial, trivial, trivial, trivial, trivial, trivial, trivial, trivial, trivial⟩ ?_
  refine tr_if (fun h7 => ?_) (fun h7 => ?_)
  · refine tr_ifF (cd := .ne) (fun q => q h7) ?_
    refine tr_blk 1 (pc' := 24) (rows' := kb_287_0.drop 16) (loc' := [.inl (.int a0), .inl (.int a1), .inl (.int a2), .inl (.int a3), .inl (.int a4), .inl (.int a5), .inl (.int a6), .inl (.int a7), .inl (.long (((27 : Int64) * (((27 : Int64) * (a0).toInt64) + (a1).toInt64)) + (a2).toInt64)), ab_top]) (st' := [.inl (.long (((27 : Int64) * (((27 : Int64) * (a0).toInt64) + (a1).toInt64)) + (a2).toInt64))]) (P1 := P) rfl ⟨trivial, trivial⟩ ?_
    refine tr_goto ?_
    exact t_287_36 P a4 a5 a6 a7 (((27 : Int64) * (((27 : Int64) * (a0).toInt64) + (a1).toInt64)) + (a2).toInt64) (a0) (a1) (a2) (a3) ((((27 : Int64) * (((27 : Int64) * (a0).toInt64) + (a1).toInt64)) + (a2).toInt64))
  · refine tr_ifT (cd := .ne) h7 ?_
    refine tr_nil (rows2 := kb_287_27) rfl (List.cons_ne_nil _ _) ?_
    refine tr_blk 6 (pc' := 36) (rows' := kb_287_27.drop 6) (loc' := [.inl (.int a0), .inl (.int a1), .inl (.int a2), .inl (.int a3), .inl (.int a4), .inl (.int a5), .inl (.int a6), .inl (.int a7), .inl (.long (((27 : Int64) * (((27 : Int64) * (a0).toInt64) + (a1).toInt64)) + (a2).toInt64)), ab_top]) (st' := [.inl (.long (((27 : Int64) * (((27 : Int64) * (((27 : Int64) * (a0).toInt64) + (a1).toInt64)) + (a2).toInt64)) + (a3).toInt64))]) (P1 := P) rfl ⟨trivial, trivial, trivial, trivial, trivial, trivial, trivial⟩ ?_
    exact t_287_36 P a4 a5 a6 a7 (((27 : Int64) * (((27 : Int64) * (((27 : Int64) * (a0).toInt64) + (a1).toInt64)) + (a2).toInt64)) + (a3).toInt64) (a0) (a1) (a2) (a3) ((((27 : Int64) * (((27 : Int64) * (a0).toInt64) + (a1).toInt64)) + (a2).toInt64))
def f_206 (N : Nat) (a1 : Int32) (a2 : Int32) (a3 : Int32) (a4 : Int32) (a5 : Int32) (a6 : Int32) (a7 : Int32) (a8 : Int32) (P : ab_P) : Option (Int32 × ab_P) :=
    if (P.1 72 5) = (0 : Int32) then
      ab_b2 (f_286 N P) fun v2 P1 =>
      Option.bind (f_287 P1 a1 a2 a3 a4 a5 a6 a7 a8) fun v3 =>
      if (lg_cmp v2 v3) = (0 : Int32) then
        some ((1 : Int32), P1)
      else
      some ((0 : Int32), P1)
    else
    some ((0 : Int32), P)
theorem t_206 {xs : Nat × (Nat → Int32)} {d : Nat} (N : Nat) : ∀ (a1 : Int32) (a2 : Int32) (a3 : Int32) (a4 : Int32) (a5 : Int32) (a6 : Int32) (a7 : Int32) (a8 : Int32) (P : ab_P), ab_tr xs wI (d + 3) 206 0 [] [.inr (12, 0, 0, 72), .inl (.int a1), .inl (.int a2), .inl (.int a3), .inl (.int a4), .inl (.int a5), .inl (.int a6), .inl (.int a7), .inl (.int a8)] [] P (f_206 N a1 a2 a3 a4 a5 a6 a7 a8 P) := by
  intro a1 a2 a3 a4 a5 a6 a7 a8 P
  unfold f_206
  refine tr_nil (rows2 := kb_206_0) rfl (List.cons_ne_nil _ _) ?_
  refine tr_blk 2 (pc' := 4) (rows' := kb_206_0.drop 2) (loc' := [.inr (12, 0, 0, 72), .inl (.int a1), .inl (.int a2), .inl (.int a3), .inl (.int a4), .inl (.int a5), .inl (.int a6), .inl (.int a7), .inl (.int a8)]) (st' := [.inl (.int (P.1 72 5))]) (P1 := P) rfl ⟨trivial, trivial, trivial⟩ ?_
  refine tr_if (fun h4 => ?_) (fun h4 => ?_)
  · refine tr_ifF (cd := .ne) (fun q => q h4) ?_
    refine tr_blk 1 (pc' := 8) (rows' := kb_206_0.drop 4) (loc' := [.inr (12, 0, 0, 72), .inl (.int a1), .inl (.int a2), .inl (.int a3), .inl (.int a4), .inl (.int a5), .inl (.int a6), .inl (.int a7), .inl (.int a8)]) (st' := [.inr (12, 0, 0, 72)]) (P1 := P) rfl ⟨trivial, trivial⟩ ?_
    refine tr_cWL (z := km_286) (av := [.inr (12, 0, 0, 72)]) (st' := []) rfl rfl rfl (Nat.le_of_ble_eq_true rfl) ⟨rfl, Or.inl (by decide)⟩ rfl (Nat.le_of_ble_eq_true rfl) (t_286 N P) (fun v2 P1 => ?_)
    refine tr_blk 8 (pc' := 24) (rows' := kb_206_0.drop 13) (loc' := [.inr (12, 0, 0, 72), .inl (.int a1), .inl (.int a2), .inl (.int a3), .inl (.int a4), .inl (.int a5), .inl (.int a6), .inl (.int a7), .inl (.int a8)]) (st' := [.inl (.int a8), .inl (.int a7), .inl (.int a6), .inl (.int a5), .inl (.int a4), .inl (.int a3), .inl (.int a2), .inl (.int a1), .inl (.long v2)]) (P1 := P1) rfl ⟨trivial, trivial, trivial, trivial, trivial, trivial, trivial, trivial, trivial⟩ ?_
    refine tr_cRL (z := km_287) (av := [.inl (.int a1), .inl (.int a2), .inl (.int a3), .inl (.int a4), .inl (.int a5), .inl (.int a6), .inl (.int a7), .inl (.int a8)]) (st' := [.inl (.long v2)]) rfl rfl rfl (Nat.le_of_ble_eq_true rfl) trivial rfl (Nat.le_of_ble_eq_true rfl) (t_287 P1 a1 a2 a3 a4 a5 a6 a7 a8) (fun v3 => ?_)
    refine tr_blk 1 (pc' := 28) (rows' := kb_206_0.drop 15) (loc' := [.inr (12, 0, 0, 72), .inl (.int a1), .inl (.int a2), .inl (.int a3), .inl (.int a4), .inl (.int a5), .inl (.int a6), .inl (.int a7), .inl (.int a8)]) (st' := [.inl (.int (lg_cmp v2 v3))]) (P1 := P1) rfl ⟨trivial, trivial⟩ ?_
    refine tr_if (fun h5 => ?_) (fun h5 => ?_)
    · refine tr_ifF (cd := .ne) (fun q => q h5) ?_
      refine tr_blk 1 (pc' := 32) (rows' := kb_206_0.drop 17) (loc' := [.inr (12, 0, 0, 72), .inl (.int a1), .inl (.int a2), .inl (.int a3), .inl (.int a4), .inl (.int a5), .inl (.int a6), .inl (.int a7), .inl (.int a8)]) (st' := [.inl (.int (1 : Int32))]) (P1 := P1) rfl ⟨trivial, trivial⟩ ?_
      refine tr_goto ?_
      refine tr_nil (rows2 := kb_206_36) rfl (List.cons_ne_nil _ _) ?_
      exact tr_reI (z := km_206) rfl ⟨_, rfl, rfl⟩ rfl
    · refine tr_ifT (cd := .ne) h5 ?_
      refine tr_nil (rows2 := kb_206_35) rfl (List.cons_ne_nil _ _) ?_
      refine tr_blk 1 (pc' := 36) (rows' := kb_206_35.drop 1) (loc' := [.inr (12, 0, 0, 72), .inl (.int a1), .inl (.int a2), .inl (.int a3), .inl (.int a4), .inl (.int a5), .inl (.int a6), .inl (.int a7), .inl (.int a8)]) (st' := [.inl (.int (0 : Int32))]) (P1 := P1) rfl ⟨trivial, trivial⟩ ?_
      refine tr_nil (rows2 := kb_206_36) rfl (List.cons_ne_nil _ _) ?_
      exact tr_reI (z := km_206) rfl ⟨_, rfl, rfl⟩ rfl
  · refine tr_ifT (cd := .ne) h4 ?_
    refine tr_nil (rows2 := kb_206_35) rfl (List.cons_ne_nil _ _) ?_
    refine tr_blk 1 (pc' := 36) (rows' := kb_206_35.drop 1) (loc' := [.inr (12, 0, 0, 72), .inl (.int a1), .inl (.int a2), .inl (.int a3), .inl (.int a4), .inl (.int a5), .inl (.int a6), .inl (.int a7), .inl (.int a8)]) (st' := [.inl (.int (0 : Int32))]) (P1 := P) rfl ⟨trivial, trivial⟩ ?_
    refine tr_nil (rows2 := kb_206_36) rfl (List.cons_ne_nil _ _) ?_
    exact tr_reI (z := km_206) rfl ⟨_, rfl, rfl⟩ rfl
def f_120 (a1 : Int32) (a2 : Int32) (P : ab_P) : Option ab_P :=
    if (P.1 72 5) = (0 : Int32) then
      ab_lt (ab_pI P 72 5 a1) fun P1 =>
      ab_lt (ab_pI P1 72 6 a2) fun P2 =>
      some P2
    else
    some P
theorem t_120 {xs : Nat × (Nat → Int32)} {d : Nat} : ∀ (a1 : Int32) (a2 : Int32) (P : ab_P), ab_tr xs wV (d + 0) 120 0 [] [.inr (12, 0, 0, 72), .inl (.int a1), .inl (.int a2)] [] P (f_120 a1 a2 P) := by
  intro a1 a2 P
  unfold f_120
  refine tr_nil (rows2 := kb_120_0) rfl (List.cons_ne_nil _ _) ?_
  refine tr_blk 2 (pc' := 4) (rows' := kb_120_0.drop 2) (loc' := [.inr (12, 0, 0, 72), .inl (.int a1), .inl (.int a2)]) (st' := [.inl (.int (P.1 72 5))]) (P1 := P) rfl ⟨trivial, trivial, trivial⟩ ?_
  refine tr_if (fun h3 => ?_) (fun h3 => ?_)
  · refine tr_ifF (cd := .ne) (fun q => q h3) ?_
    refine tr_blk 3 (pc' := 12) (rows' := kb_120_0.drop 6) (loc' := [.inr (12, 0, 0, 72), .inl (.int a1), .inl (.int a2)]) (st' := []) (P1 := (ab_pI P 72 5 a1)) rfl ⟨trivial, trivial, trivial, trivial⟩ ?_
    refine tr_lt (fun P1 => ?_)
    refine tr_blk 3 (pc' := 17) (rows' := kb_120_0.drop 9) (loc' := [.inr (12, 0, 0, 72), .inl (.int a1), .inl (.int a2)]) (st' := []) (P1 := (ab_pI P1 72 6 a2)) rfl ⟨trivial, trivial, trivial, trivial⟩ ?_
    refine tr_lt (fun P2 => ?_)
    refine tr_nil (rows2 := kb_120_17) rfl (List.cons_ne_nil _ _) ?_
    exact tr_reV (z := km_120) rfl rfl rfl
  · refine tr_ifT (cd := .ne) h3 ?_
    refine tr_nil (rows2 := kb_120_17) rfl (List.cons_ne_nil _ _) ?_
    exact tr_reV (z := km_120) rfl rfl rfl
def f_207 : Nat → ab_P → Option ab_P
  | 0, _ => none
  | n + 1, P =>
    Option.bind (f_209 P (P.1 72 4)) fun v1 =>
    Option.bind (f_288 P v1) fun v2 =>
    if v2 = (0 : Int32) then
      some P
    else
    ab_lt (ab_pI P 72 4 ((P.1 72 4) + (1 : Int32))) fun P3 =>
    f_207 n P3
theorem t_207 {xs : Nat × (Nat → Int32)} {d : Nat} : ∀ n : Nat, ∀ (P : ab_P), ab_tr xs wV (d + 1) 207 0 [] [.inr (12, 0, 0, 72)] [] P (f_207 n P) := by
  intro n
  induction n with
  | zero => intro P; exact tr_no
  | succ n ih =>
    intro P
    refine tr_nil (rows2 := kb_207_0) rfl (List.cons_ne_nil _ _) ?_
    refine tr_blk 3 (pc' := 5) (rows' := kb_207_0.drop 3) (loc' := [.inr (12, 0, 0, 72)]) (st' := [.inl (.int (P.1 72 4)), .inr (12, 0, 0, 72)]) (P1 := P) rfl ⟨trivial, trivial, trivial, trivial⟩ ?_
    refine tr_cRI (z := km_209) (av := [.inr (12, 0, 0, 72), .inl (.int (P.1 72 4))]) (st' := []) rfl rfl rfl (Nat.le_of_ble_eq_true rfl) ⟨rfl, Or.inl (by decide)⟩ rfl (Nat.le_of_ble_eq_true rfl) (t_209 P (P.1 72 4)) (fun v1 => ?_)
    refine tr_cRI (z := km_288) (av := [.inl (.int v1)]) (st' := []) rfl rfl rfl (Nat.le_of_ble_eq_true rfl) trivial rfl (Nat.le_of_ble_eq_true rfl) (t_288 P v1) (fun v2 => ?_)
    refine tr_if (fun h4 => ?_) (fun h4 => ?_)
    · refine tr_ifT (cd := .eq) h4 ?_
      refine tr_nil (rows2 := kb_207_27) rfl (List.cons_ne_nil _ _) ?_
      exact tr_reV (z := km_207) rfl rfl rfl
    · refine tr_ifF (cd := .eq) h4 ?_
      refine tr_blk 6 (pc' := 24) (rows' := kb_207_0.drop 12) (loc' := [.inr (12, 0, 0, 72)]) (st' := []) (P1 := (ab_pI P 72 4 ((P.1 72 4) + (1 : Int32)))) rfl ⟨trivial, trivial, trivial, trivial, trivial, trivial, trivial⟩ ?_
      refine tr_lt (fun P3 => ?_)
      refine tr_goto ?_
      exact ih P3
def f_226 (P : ab_P) (a0 : Int32) : Option Int32 :=
    if a0 < (48 : Int32) then
      some (0 : Int32)
    else
    if (57 : Int32) < a0 then
      some (0 : Int32)
    else
    some (1 : Int32)
theorem t_226 {xs : Nat × (Nat → Int32)} {d : Nat} (P : ab_P) : ∀ (a0 : Int32), ab_tr xs (rI P) (d + 0) 226 0 [] [.inl (.int a0)] [] P (f_226 P a0) := by
  intro a0
  unfold f_226
  refine tr_nil (rows2 := kb_226_0) rfl (List.cons_ne_nil _ _) ?_
  refine tr_blk 2 (pc' := 3) (rows' := kb_226_0.drop 2) (loc' := [.inl (.int a0)]) (st' := [.inl (.int (48 : Int32)), .inl (.int a0)]) (P1 := P) rfl ⟨trivial, trivial, trivial⟩ ?_
  refine tr_if (fun h1 => ?_) (fun h1 => ?_)
  · refine tr_icT (cd := .lt) h1 ?_
    refine tr_nil (rows2 := kb_226_16) rfl (List.cons_ne_nil _ _) ?_
    refine tr_blk 1 (pc' := 17) (rows' := kb_226_16.drop 1) (loc' := [.inl (.int a0)]) (st' := [.inl (.int (0 : Int32))]) (P1 := P) rfl ⟨trivial, trivial⟩ ?_
    refine tr_nil (rows2 := kb_226_17) rfl (List.cons_ne_nil _ _) ?_
    exact tr_reI (z := km_226) rfl ⟨_, rfl, rfl⟩ rfl
  · refine tr_icF (cd := .lt) h1 ?_
    refine tr_blk 2 (pc' := 9) (rows' := kb_226_0.drop 5) (loc' := [.inl (.int a0)]) (st' := [.inl (.int (57 : Int32)), .inl (.int a0)]) (P1 := P) rfl ⟨trivial, trivial, trivial⟩ ?_
    refine tr_if (fun h2 => ?_) (fun h2 => ?_)
    · refine tr_icT (cd := .gt) h2 ?_
      refine tr_nil (rows2 := kb_226_16) rfl (List.cons_ne_nil _ _) ?_
      refine tr_blk 1 (pc' := 17) (rows' := kb_226_16.drop 1) (loc' := [.inl (.int a0)]) (st' := [.inl (.int (0 : Int32))]) (P1 := P) rfl ⟨trivial, trivial⟩ ?_
      refine tr_nil (rows2 := kb_226_17) rfl (List.cons_ne_nil _ _) ?_
      exact tr_reI (z := km_226) rfl ⟨_, rfl, rfl⟩ rfl
    · refine tr_icF (cd := .gt) h2 ?_
      refine tr_blk 1 (pc' := 13) (rows' := kb_226_0.drop 7) (loc' := [.inl (.int a0)]) (st' := [.inl (.int (1 : Int32))]) (P1 := P) rfl ⟨trivial, trivial⟩ ?_
      refine tr_goto ?_
      refine tr_nil (rows2 := kb_226_17) rfl (List.cons_ne_nil _ _) ?_
      exact tr_reI (z := km_226) rfl ⟨_, rfl, rfl⟩ rfl
def f_128_44 : Nat → Int32 → Int32 → Int32 → Int32 → ab_P → Option (Int32 × ab_P)
  | 0, _, _, _, _, _ => none
  | n + 1, x1, x2, x3, x4, P =>
    Option.bind (f_209 P (P.1 72 4)) fun v5 =>
    Option.bind (f_226 P v5) fun v6 =>
    if v6 = (0 : Int32) then
      Option.bind (f_112 P x4 x1 x2) fun v7 =>
      if v7 = (0 : Int32) then
        Option.bind (f_120 (2 : Int32) x3 P) fun P8 =>
        if (P8.1 72 5) = (0 : Int32) then
          some (x4, P8)
        else
        some ((0 : Int32), P8)
      else
      if (P.1 72 5) = (0 : Int32) then
        some (x4, P)
      else
      some ((0 : Int32), P)
    else
    Option.bind (f_209 P (P.1 72 4)) fun v9 =>
    if (100000 : Int32) < ((((10 : Int32) * x4) + v9) - (48 : Int32)) then
      ab_lt (ab_pI P 72 4 ((P.1 72 4) + (1 : Int32))) fun P11 =>
      f_128_44 n x1 x2 x3 (100000 : Int32) P11
    else
    ab_lt (ab_pI P 72 4 ((P.1 72 4) + (1 : Int32))) fun P10 =>
    f_128_44 n x1 x2 x3 ((((10 : Int32) * x4) + v9) - (48 : Int32)) P10
theorem t_128_44 {xs : Nat × (Nat → Int32)} {d : Nat} : ∀ n : Nat, ∀ (x1 : Int32) (x2 : Int32) (x3 : Int32) (x4 : Int32) (P : ab_P), ab_tr xs wI (d + 2) 128 44 [] [.inr (12, 0, 0, 72), .inl (.int x1), .inl (.int x2), .inl (.int x3), .inl (.int x4)] [] P (f_128_44 n x1 x2 x3 x4 P) := by
  intro n
  induction n with
  | zero => intro x1 x2 x3 x4 P; exact tr_no
  | succ n ih =>
    intro x1 x2 x3 x4 P
    refine tr_nil (rows2 := kb_128_44) rfl (List.cons_ne_nil _ _) ?_
    refine tr_blk 3 (pc' := 49) (rows' := kb_128_44.drop 3) (loc' := [.inr (12, 0, 0, 72), .inl (.int x1), .inl (.int x2), .inl (.int x3), .inl (.int x4)]) (st' := [.inl (.int (P.1 72 4)), .inr (12, 0, 0, 72)]) (P1 := P) rfl ⟨trivial, trivial, trivial, trivial⟩ ?_
    refine tr_cRI (z := km_209) (av := [.inr (12, 0, 0, 72), .inl (.int (P.1 72 4))]) (st' := []) rfl rfl rfl (Nat.le_of_ble_eq_true rfl) ⟨rfl, Or.inl (by decide)⟩ rfl (Nat.le_of_ble_eq_true rfl) (t_209 P (P.1 72 4)) (fun v5 => ?_)
    refine tr_cRI (z := km_226) (av := [.inl (.int v5)]) (st' := []) rfl rfl rfl (Nat.le_of_ble_eq_true rfl) trivial rfl (Nat.le_of_ble_eq_true rfl) (t_226 P v5) (fun v6 => ?_)
    refine tr_if (fun h12 => ?_) (fun h12 => ?_)
    · refine tr_ifT (cd := .eq) h12 ?_
      refine tr_nil (rows2 := kb_128_106) rfl (List.cons_ne_nil _ _) ?_
      refine tr_blk 3 (pc' := 110) (rows' := kb_128_106.drop 3) (loc' := [.inr (12, 0, 0, 72), .inl (.int x1), .inl (.int x2), .inl (.int x3), .inl (.int x4)]) (st' := [.inl (.int x2), .inl (.int x1), .inl (.int x4)]) (P1 := P) rfl ⟨trivial, trivial, trivial, trivial⟩ ?_
      refine tr_cRI (z := km_112) (av := [.inl (.int x4), .inl (.int x1), .inl (.int x2)]) (st' := []) rfl rfl rfl (Nat.le_of_ble_eq_true rfl) trivial rfl (Nat.le_of_ble_eq_true rfl) (t_112 P x4 x1 x2) (fun v7 => ?_)
      refine tr_if (fun h13 => ?_) (fun h13 => ?_)
      · refine tr_ifF (cd := .ne) (fun q => q h13) ?_
        refine tr_blk 3 (pc' := 119) (rows' := kb_128_106.drop 8) (loc' := [.inr (12, 0, 0, 72), .inl (.int x1), .inl (.int x2), .inl (.int x3), .inl (.int x4)]) (st' := [.inl (.int x3), .inl (.int (2 : Int32)), .inr (12, 0, 0, 72)]) (P1 := P) rfl ⟨trivial, trivial, trivial, trivial⟩ ?_
        refine tr_cWV (z := km_120) (av := [.inr (12, 0, 0, 72), .inl (.int (2 : Int32)), .inl (.int x3)]) (st' := []) rfl rfl rfl (Nat.le_of_ble_eq_true rfl) ⟨rfl, Or.inl (by decide)⟩ rfl (Nat.le_of_ble_eq_true rfl) (t_120 (2 : Int32) x3 P) (fun P8 => ?_)
        refine tr_nil (rows2 := kb_128_122) rfl (List.cons_ne_nil _ _) ?_
        refine tr_blk 2 (pc' := 126) (rows' := kb_128_122.drop 2) (loc' := [.inr (12, 0, 0, 72), .inl (.int x1), .inl (.int x2), .inl (.int x3), .inl (.int x4)]) (st' := [.inl (.int (P8.1 72 5))]) (P1 := P8) rfl ⟨trivial, trivial, trivial⟩ ?_
        refine tr_if (fun h15 => ?_) (fun h15 => ?_)
        · refine tr_ifF (cd := .ne) (fun q => q h15) ?_
          refine tr_blk 1 (pc' := 131) (rows' := kb_128_122.drop 4) (loc' := [.inr (12, 0, 0, 72), .inl (.int x1), .inl (.int x2), .inl (.int x3), .inl (.int x4)]) (st' := [.inl (.int x4)]) (P1 := P8) rfl ⟨trivial, trivial⟩ ?_
          refine tr_goto ?_
          refine tr_nil (rows2 := kb_128_135) rfl (List.cons_ne_nil _ _) ?_
          exact tr_reI (z := km_128) rfl ⟨_, rfl, rfl⟩ rfl
        · refine tr_ifT (cd := .ne) h15 ?_
          refine tr_nil (rows2 := kb_128_134) rfl (List.cons_ne_nil _ _) ?_
          refine tr_blk 1 (pc' := 135) (rows' := kb_128_134.drop 1) (loc' := [.inr (12, 0, 0, 72), .inl (.int x1), .inl (.int x2), .inl (.int x3), .inl (.int x4)]) (st' := [.inl (.int (0 : Int32))]) (P1 := P8) rfl ⟨trivial, trivial⟩ ?_
          refine tr_nil (rows2 := kb_128_135) rfl (List.cons_ne_nil _ _) ?_
          exact tr_reI (z := km_128) rfl ⟨_, rfl, rfl⟩ rfl
      · refine tr_ifT (cd := .ne) h13 ?_
        refine tr_nil (rows2 := kb_128_122) rfl (List.cons_ne_nil _ _) ?_
        refine tr_blk 2 (pc' := 126) (rows' := kb_128_122.drop 2) (loc' := [.inr (12, 0, 0, 72), .inl (.int x1), .inl (.int x2), .inl (.int x3), .inl (.int x4)]) (st' := [.inl (.int (P.1 72 5))]) (P1 := P) rfl ⟨trivial, trivial, trivial⟩ ?_
        refine tr_if (fun h14 => ?_) (fun h14 => ?_)
        · refine tr_ifF (cd := .ne) (fun q => q h14) ?_
          refine tr_blk 1 (pc' := 131) (rows' := kb_128_122.drop 4) (loc' := [.inr (12, 0, 0, 72), .inl (.int x1), .inl (.int x2), .inl (.int x3), .inl (.int x4)]) (st' := [.inl (.int x4)]) (P1 := P) rfl ⟨trivial, trivial⟩ ?_
          refine tr_goto ?_
          refine tr_nil (rows2 := kb_128_135) rfl (List.cons_ne_nil _ _) ?_
          exact tr_reI (z := km_128) rfl ⟨_, rfl, rfl⟩ rfl
        · refine tr_ifT (cd := .ne) h14 ?_
          refine tr_nil (rows2 := kb_128_134) rfl (List.cons_ne_nil _ _) ?_
          refine tr_blk 1 (pc' := 135) (rows' := kb_128_134.drop 1) (loc' := [.inr (12, 0, 0, 72), .inl (.int x1), .inl (.int x2), .inl (.int x3), .inl (.int x4)]) (st' := [.inl (.int (0 : Int32))]) (P1 := P) rfl ⟨trivial, trivial⟩ ?_
          refine tr_nil (rows2 := kb_128_135) rfl (List.cons_ne_nil _ _) ?_
          exact tr_reI (z := km_128) rfl ⟨_, rfl, rfl⟩ rfl
    · refine tr_ifF (cd := .eq) h12 ?_
      refine tr_blk 6 (pc' := 68) (rows' := kb_128_44.drop 12) (loc' := [.inr (12, 0, 0, 72), .inl (.int x1), .inl (.int x2), .inl (.int x3), .inl (.int x4)]) (st' := [.inl (.int (P.1 72 4)), .inr (12, 0, 0, 72), .inl (.int ((10 : Int32) * x4))]) (P1 := P) rfl ⟨trivial, trivial, trivial, trivial, trivial, trivial, trivial⟩ ?_
      refine tr_cRI (z := km_209) (av := [.inr (12, 0, 0, 72), .inl (.int (P.1 72 4))]) (st' := [.inl (.int ((10 : Int32) * x4))]) rfl rfl rfl (Nat.le_of_ble_eq_true rfl) ⟨rfl, Or.inl (by decide)⟩ rfl (Nat.le_of_ble_eq_true rfl) (t_209 P (P.1 72 4)) (fun v9 => ?_)
      refine tr_blk 6 (pc' := 81) (rows' := kb_128_44.drop 19) (loc' := [.inr (12, 0, 0, 72), .inl (.int x1), .inl (.int x2), .inl (.int x3), .inl (.int ((((10 : Int32) * x4) + v9) - (48 : Int32)))]) (st' := [.inl (.int (100000 : Int32)), .inl (.int ((((10 : Int32) * x4) + v9) - (48 : Int32)))]) (P1 := P) rfl ⟨trivial, trivial, trivial, trivial, trivial, trivial, trivial⟩ ?_
      refine tr_if (fun h16 => ?_) (fun h16 => ?_)
      · refine tr_icF (cd := .le) (Int32.not_le.mpr h16) ?_
        refine tr_blk 1 (pc' := 86) (rows' := kb_128_44.drop 21) (loc' := [.inr (12, 0, 0, 72), .inl (.int x1), .inl (.int x2), .inl (.int x3), .inl (.int ((((10 : Int32) * x4) + v9) - (48 : Int32)))]) (st' := [.inl (.int (100000 : Int32))]) (P1 := P) rfl ⟨trivial, trivial⟩ ?_
        refine tr_goto ?_
        refine tr_nil (rows2 := kb_128_91) rfl (List.cons_ne_nil _ _) ?_
        refine tr_blk 7 (pc' := 103) (rows' := kb_128_91.drop 7) (loc' := [.inr (12, 0, 0, 72), .inl (.int x1), .inl (.int x2), .inl (.int x3), .inl (.int (100000 : Int32))]) (st' := []) (P1 := (ab_pI P 72 4 ((P.1 72 4) + (1 : Int32)))) rfl ⟨trivial, trivial, trivial, trivial, trivial, trivial, trivial, trivial⟩ ?_
        refine tr_lt (fun P11 => ?_)
        refine tr_goto ?_
        exact ih x1 x2 x3 (100000 : Int32) P11
      · refine tr_icT (cd := .le) (Int32.not_lt.mp h16) ?_
        refine tr_nil (rows2 := kb_128_89) rfl (List.cons_ne_nil _ _) ?_
        refine tr_blk 1 (pc' := 91) (rows' := kb_128_89.drop 1) (loc' := [.inr (12, 0, 0, 72), .inl (.int x1), .inl (.int x2), .inl (.int x3), .inl (.int ((((10 : Int32) * x4) + v9) - (48 : Int32)))]) (st' := [.inl (.int ((((10 : Int32) * x4) + v9) - (48 : Int32)))]) (P1 := P) rfl ⟨trivial, trivial⟩ ?_
        refine tr_nil (rows2 := kb_128_91) rfl (List.cons_ne_nil _ _) ?_
        refine tr_blk 7 (pc' := 103) (rows' := kb_128_91.drop 7) (loc' := [.inr (12, 0, 0, 72), .inl (.int x1), .inl (.int x2), .inl (.int x3), .inl (.int ((((10 : Int32) * x4) + v9) - (48 : Int32)))]) (st' := []) (P1 := (ab_pI P 72 4 ((P.1 72 4) + (1 : Int32)))) rfl ⟨trivial, trivial, trivial, trivial, trivial, trivial, trivial, trivial⟩ ?_
        refine tr_lt (fun P10 => ?_)
        refine tr_goto ?_
        exact ih x1 x2 x3 ((((10 : Int32) * x4) + v9) - (48 : Int32)) P10
def f_128 (N : Nat) (a1 : Int32) (a2 : Int32) (P : ab_P) : Option (Int32 × ab_P) :=
    if (P.1 72 5) = (0 : Int32) then
      Option.bind (f_116 N P) fun P1 =>
      Option.bind (f_209 P1 (P1.1 72 4)) fun v2 =>
      Option.bind (f_226 P1 v2) fun v3 =>
      if v3 = (0 : Int32) then
        Option.bind (f_120 (1 : Int32) (P1.1 72 4) P1) fun P4 =>
        f_128_44 N a1 a2 (P1.1 72 4) (0 : Int32) P4
      else
      f_128_44 N a1 a2 (P1.1 72 4) (0 : Int32) P1
    else
    some ((0 : Int32), P)
theorem t_128 {xs : Nat × (Nat → Int32)} {d : Nat} (N : Nat) : ∀ (a1 : Int32) (a2 : Int32) (P : ab_P), ab_tr xs wI (d + 2) 128 0 [] [.inr (12, 0, 0, 72), .inl (.int a1), .inl (.int a2), ab_top, ab_top] [] P (f_128 N a1 a2 P) := by
  intro a1 a2 P
  unfold f_128
  refine tr_nil (rows2 := kb_128_0) rfl (List.cons_ne_nil _ _) ?_
  refine tr_blk 2 (pc' := 4) (rows' := kb_128_0.drop 2) (loc' := [.inr (12, 0, 0, 72), .inl (.int a1), .inl (.int a2), ab_top, ab_top]) (st' := [.inl (.int (P.1 72 5))]) (P1 := P) rfl ⟨trivial, trivial, trivial⟩ ?_
  refine tr_if (fun h17 => ?_) (fun h17 => ?_)
  · refine tr_ifT (cd := .eq) h17 ?_
    refine tr_nil (rows2 := kb_128_9) rfl (List.cons_ne_nil _ _) ?_
    refine tr_blk 1 (pc' := 10) (rows' := kb_128_9.drop 1) (loc' := [.inr (12, 0, 0, 72), .inl (.int a1), .inl (.int a2), ab_top, ab_top]) (st' := [.inr (12, 0, 0, 72)]) (P1 := P) rfl ⟨trivial, trivial⟩ ?_
    refine tr_cWV (z := km_116) (av := [.inr (12, 0, 0, 72)]) (st' := []) rfl rfl rfl (Nat.le_of_ble_eq_true rfl) ⟨rfl, Or.inl (by decide)⟩ rfl (Nat.le_of_ble_eq_true rfl) (t_116 N P) (fun P1 => ?_)
    refine tr_blk 8 (pc' := 26) (rows' := kb_128_9.drop 10) (loc' := [.inr (12, 0, 0, 72), .inl (.int a1), .inl (.int a2), .inl (.int (P1.1 72 4)), .inl (.int (0 : Int32))]) (st' := [.inl (.int (P1.1 72 4)), .inr (12, 0, 0, 72)]) (P1 := P1) rfl ⟨trivial, trivial, trivial, trivial, trivial, trivial, trivial, trivial, trivial⟩ ?_
    refine tr_cRI (z := km_209) (av := [.inr (12, 0, 0, 72), .inl (.int (P1.1 72 4))]) (st' := []) rfl rfl rfl (Nat.le_of_ble_eq_true rfl) ⟨rfl, Or.inl (by decide)⟩ rfl (Nat.le_of_ble_eq_true rfl) (t_209 P1 (P1.1 72 4)) (fun v2 => ?_)
    refine tr_cRI (z := km_226) (av := [.inl (.int v2)]) (st' := []) rfl rfl rfl (Nat.le_of_ble_eq_true rfl) trivial rfl (Nat.le_of_ble_eq_true rfl) (t_226 P1 v2) (fun v3 => ?_)
    refine tr_if (fun h18 => ?_) (fun h18 => ?_)
    · refine tr_ifF (cd := .ne) (fun q => q h18) ?_
      refine tr_blk 4 (pc' := 41) (rows' := kb_128_9.drop 17) (loc' := [.inr (12, 0, 0, 72), .inl (.int a1), .inl (.int a2), .inl (.int (P1.1 72 4)), .inl (.int (0 : Int32))]) (st' := [.inl (.int (P1.1 72 4)), .inl (.int (1 : Int32)), .inr (12, 0, 0, 72)]) (P1 := P1) rfl ⟨trivial, trivial, trivial, trivial, trivial⟩ ?_
      refine tr_cWV (z := km_120) (av := [.inr (12, 0, 0, 72), .inl (.int (1 : Int32)), .inl (.int (P1.1 72 4))]) (st' := []) rfl rfl rfl (Nat.le_of_ble_eq_true rfl) ⟨rfl, Or.inl (by decide)⟩ rfl (Nat.le_of_ble_eq_true rfl) (t_120 (1 : Int32) (P1.1 72 4) P1) (fun P4 => ?_)
      exact t_128_44 N a1 a2 (P1.1 72 4) (0 : Int32) P4
    · refine tr_ifT (cd := .ne) h18 ?_
      exact t_128_44 N a1 a2 (P1.1 72 4) (0 : Int32) P1
  · refine tr_ifF (cd := .eq) h17 ?_
    refine tr_blk 1 (pc' := 8) (rows' := kb_128_0.drop 4) (loc' := [.inr (12, 0, 0, 72), .inl (.int a1), .inl (.int a2), ab_top, ab_top]) (st' := [.inl (.int (0 : Int32))]) (P1 := P) rfl ⟨trivial, trivial⟩ ?_
    exact tr_reI (z := km_128) rfl ⟨_, rfl, rfl⟩ rfl
def f_208 (N : Nat) (a1 : Int32) (a2 : Int32) (P : ab_P) : Option (Int32 × ab_P) :=
    if (P.1 72 5) = (0 : Int32) then
      Option.bind (f_116 N P) fun P1 =>
      ab_b2 (f_128 N (0 : Int32) a1 P1) fun v3 P2 =>
      if (P2.1 72 5) = (0 : Int32) then
        if v3 = a2 then
          Option.bind (f_120 (2 : Int32) (P1.1 72 4) P2) fun P4 =>
          some (v3, P4)
        else
        some (v3, P2)
      else
      some (v3, P2)
    else
    some ((0 : Int32), P)
theorem t_208 {xs : Nat × (Nat → Int32)} {d : Nat} (N : Nat) : ∀ (a1 : Int32) (a2 : Int32) (P : ab_P), ab_tr xs wI (d + 3) 208 0 [] [.inr (12, 0, 0, 72), .inl (.int a1), .inl (.int a2), ab_top, ab_top] [] P (f_208 N a1 a2 P) := by
  intro a1 a2 P
  unfold f_208
  refine tr_nil (rows2 := kb_208_0) rfl (List.cons_ne_nil _ _) ?_
  refine tr_blk 2 (pc' := 4) (rows' := kb_208_0.drop 2) (loc' := [.inr (12, 0, 0, 72), .inl (.int a1), .inl (.int a2), ab_top, ab_top]) (st' := [.inl (.int (P.1 72 5))]) (P1 := P) rfl ⟨trivial, trivial, trivial⟩ ?_
  refine tr_if (fun h5 => ?_) (fun h5 => ?_)
  · refine tr_ifT (cd := .eq) h5 ?_
    refine tr_nil (rows2 := kb_208_9) rfl (List.cons_ne_nil _ _) ?_
    refine tr_blk 1 (pc' := 10) (rows' := kb_208_9.drop 1) (loc' := [.inr (12, 0, 0, 72), .inl (.int a1), .inl (.int a2), ab_top, ab_top]) (st' := [.inr (12, 0, 0, 72)]) (P1 := P) rfl ⟨trivial, trivial⟩ ?_
    refine tr_cWV (z := km_116) (av := [.inr (12, 0, 0, 72)]) (st' := []) rfl rfl rfl (Nat.le_of_ble_eq_true rfl) ⟨rfl, Or.inl (by decide)⟩ rfl (Nat.le_of_ble_eq_true rfl) (t_116 N P) (fun P1 => ?_)
    refine tr_blk 6 (pc' := 21) (rows' := kb_208_9.drop 8) (loc' := [.inr (12, 0, 0, 72), .inl (.int a1), .inl (.int a2), .inl (.int (P1.1 72 4)), ab_top]) (st' := [.inl (.int a1), .inl (.int (0 : Int32)), .inr (12, 0, 0, 72)]) (P1 := P1) rfl ⟨trivial, trivial, trivial, trivial, trivial, trivial, trivial⟩ ?_
    refine tr_cWI (z := km_128) (av := [.inr (12, 0, 0, 72), .inl (.int (0 : Int32)), .inl (.int a1)]) (st' := []) rfl rfl rfl (Nat.le_of_ble_eq_true rfl) ⟨rfl, Or.inl (by decide)⟩ rfl (Nat.le_of_ble_eq_true rfl) (t_128 N (0 : Int32) a1 P1) (fun v3 P2 => ?_)
    refine tr_blk 3 (pc' := 30) (rows' := kb_208_9.drop 12) (loc' := [.inr (12, 0, 0, 72), .inl (.int a1), .inl (.int a2), .inl (.int (P1.1 72 4)), .inl (.int v3)]) (st' := [.inl (.int (P2.1 72 5))]) (P1 := P2) rfl ⟨trivial, trivial, trivial, trivial⟩ ?_
    refine tr_if (fun h6 => ?_) (fun h6 => ?_)
    · refine tr_ifF (cd := .ne) (fun q => q h6) ?_
      refine tr_blk 2 (pc' := 36) (rows' := kb_208_9.drop 15) (loc' := [.inr (12, 0, 0, 72), .inl (.int a1), .inl (.int a2), .inl (.int (P1.1 72 4)), .inl (.int v3)]) (st' := [.inl (.int a2), .inl (.int v3)]) (P1 := P2) rfl ⟨trivial, trivial, trivial⟩ ?_
      refine tr_if (fun h7 => ?_) (fun h7 => ?_)
      · refine tr_icF (cd := .ne) (fun q => q h7) ?_
        refine tr_blk 3 (pc' := 42) (rows' := kb_208_9.drop 19) (loc' := [.inr (12, 0, 0, 72), .inl (.int a1), .inl (.int a2), .inl (.int (P1.1 72 4)), .inl (.int v3)]) (st' := [.inl (.int (P1.1 72 4)), .inl (.int (2 : Int32)), .inr (12, 0, 0, 72)]) (P1 := P2) rfl ⟨trivial, trivial, trivial, trivial⟩ ?_
        refine tr_cWV (z := km_120) (av := [.inr (12, 0, 0, 72), .inl (.int (2 : Int32)), .inl (.int (P1.1 72 4))]) (st' := []) rfl rfl rfl (Nat.le_of_ble_eq_true rfl) ⟨rfl, Or.inl (by decide)⟩ rfl (Nat.le_of_ble_eq_true rfl) (t_120 (2 : Int32) (P1.1 72 4) P2) (fun P4 => ?_)
        refine tr_nil (rows2 := kb_208_45) rfl (List.cons_ne_nil _ _) ?_
        refine tr_blk 1 (pc' := 47) (rows' := kb_208_45.drop 1) (loc' := [.inr (12, 0, 0, 72), .inl (.int a1), .inl (.int a2), .inl (.int (P1.1 72 4)), .inl (.int v3)]) (st' := [.inl (.int v3)]) (P1 := P4) rfl ⟨trivial, trivial⟩ ?_
        exact tr_reI (z := km_208) rfl ⟨_, rfl, rfl⟩ rfl
      · refine tr_icT (cd := .ne) h7 ?_
        refine tr_nil (rows2 := kb_208_45) rfl (List.cons_ne_nil _ _) ?_
        refine tr_blk 1 (pc' := 47) (rows' := kb_208_45.drop 1) (loc' := [.inr (12, 0, 0, 72), .inl (.int a1), .inl (.int a2), .inl (.int (P1.1 72 4)), .inl (.int v3)]) (st' := [.inl (.int v3)]) (P1 := P2) rfl ⟨trivial, trivial⟩ ?_
        exact tr_reI (z := km_208) rfl ⟨_, rfl, rfl⟩ rfl
    · refine tr_ifT (cd := .ne) h6 ?_
      refine tr_nil (rows2 := kb_208_45) rfl (List.cons_ne_nil _ _) ?_
      refine tr_blk 1 (pc' := 47) (rows' := kb_208_45.drop 1) (loc' := [.inr (12, 0, 0, 72), .inl (.int a1), .inl (.int a2), .inl (.int (P1.1 72 4)), .inl (.int v3)]) (st' := [.inl (.int v3)]) (P1 := P2) rfl ⟨trivial, trivial⟩ ?_
      exact tr_reI (z := km_208) rfl ⟨_, rfl, rfl⟩ rfl
  · refine tr_ifF (cd := .eq) h5 ?_
    refine tr_blk 1 (pc' := 8) (rows' := kb_208_0.drop 4) (loc' := [.inr (12, 0, 0, 72), .inl (.int a1), .inl (.int a2), ab_top, ab_top]) (st' := [.inl (.int (0 : Int32))]) (P1 := P) rfl ⟨trivial, trivial⟩ ?_
    exact tr_reI (z := km_208) rfl ⟨_, rfl, rfl⟩ rfl
def f_129 (N : Nat) (a1 : Int32) (P : ab_P) : Option ab_P :=
    if (P.1 72 5) = (0 : Int32) then
      Option.bind (f_116 N P) fun P1 =>
      Option.bind (f_209 P1 (P1.1 72 4)) fun v2 =>
      if v2 = a1 then
        ab_lt (ab_pI P1 72 4 ((P1.1 72 4) + (1 : Int32))) fun P4 =>
        some P4
      else
      Option.bind (f_120 (1 : Int32) (P1.1 72 4) P1) fun P3 =>
      some P3
    else
    some P
theorem t_129 {xs : Nat × (Nat → Int32)} {d : Nat} (N : Nat) : ∀ (a1 : Int32) (P : ab_P), ab_tr xs wV (d + 2) 129 0 [] [.inr (12, 0, 0, 72), .inl (.int a1)] [] P (f_129 N a1 P) := by
  intro a1 P
  unfold f_129
  refine tr_nil (rows2 := kb_129_0) rfl (List.cons_ne_nil _ _) ?_
  refine tr_blk 2 (pc' := 4) (rows' := kb_129_0.drop 2) (loc' := [.inr (12, 0, 0, 72), .inl (.int a1)]) (st' := [.inl (.int (P.1 72 5))]) (P1 := P) rfl ⟨trivial, trivial, trivial⟩ ?_
  refine tr_if (fun h5 => ?_) (fun h5 => ?_)
  · refine tr_ifT (cd := .eq) h5 ?_
    refine tr_nil (rows2 := kb_129_8) rfl (List.cons_ne_nil _ _) ?_
    refine tr_blk 1 (pc' := 9) (rows' := kb_129_8.drop 1) (loc' := [.inr (12, 0, 0, 72), .inl (.int a1)]) (st' := [.inr (12, 0, 0, 72)]) (P1 := P) rfl ⟨trivial, trivial⟩ ?_
    refine tr_cWV (z := km_116) (av := [.inr (12, 0, 0, 72)]) (st' := []) rfl rfl rfl (Nat.le_of_ble_eq_true rfl) ⟨rfl, Or.inl (by decide)⟩ rfl (Nat.le_of_ble_eq_true rfl) (t_116 N P) (fun P1 => ?_)
    refine tr_blk 3 (pc' := 17) (rows' := kb_129_8.drop 5) (loc' := [.inr (12, 0, 0, 72), .inl (.int a1)]) (st' := [.inl (.int (P1.1 72 4)), .inr (12, 0, 0, 72)]) (P1 := P1) rfl ⟨trivial, trivial, trivial, trivial⟩ ?_
    refine tr_cRI (z := km_209) (av := [.inr (12, 0, 0, 72), .inl (.int (P1.1 72 4))]) (st' := []) rfl rfl rfl (Nat.le_of_ble_eq_true rfl) ⟨rfl, Or.inl (by decide)⟩ rfl (Nat.le_of_ble_eq_true rfl) (t_209 P1 (P1.1 72 4)) (fun v2 => ?_)
    refine tr_blk 1 (pc' := 21) (rows' := kb_129_8.drop 7) (loc' := [.inr (12, 0, 0, 72), .inl (.int a1)]) (st' := [.inl (.int a1), .inl (.int v2)]) (P1 := P1) rfl ⟨trivial, trivial⟩ ?_
    refine tr_if (fun h6 => ?_) (fun h6 => ?_)
    · refine tr_icF (cd := .ne) (fun q => q h6) ?_
      refine tr_blk 6 (pc' := 34) (rows' := kb_129_8.drop 14) (loc' := [.inr (12, 0, 0, 72), .inl (.int a1)]) (st' := []) (P1 := (ab_pI P1 72 4 ((P1.1 72 4) + (1 : Int32)))) rfl ⟨trivial, trivial, trivial, trivial, trivial, trivial, trivial⟩ ?_
      refine tr_lt (fun P4 => ?_)
      refine tr_goto ?_
      refine tr_nil (rows2 := kb_129_46) rfl (List.cons_ne_nil _ _) ?_
      exact tr_reV (z := km_129) rfl rfl rfl
    · refine tr_icT (cd := .ne) h6 ?_
      refine tr_nil (rows2 := kb_129_37) rfl (List.cons_ne_nil _ _) ?_
      refine tr_blk 4 (pc' := 43) (rows' := kb_129_37.drop 4) (loc' := [.inr (12, 0, 0, 72), .inl (.int a1)]) (st' := [.inl (.int (P1.1 72 4)), .inl (.int (1 : Int32)), .inr (12, 0, 0, 72)]) (P1 := P1) rfl ⟨trivial, trivial, trivial, trivial, trivial⟩ ?_
      refine tr_cWV (z := km_120) (av := [.inr (12, 0, 0, 72), .inl (.int (1 : Int32)), .inl (.int (P1.1 72 4))]) (st' := []) rfl rfl rfl (Nat.le_of_ble_eq_true rfl) ⟨rfl, Or.inl (by decide)⟩ rfl (Nat.le_of_ble_eq_true rfl) (t_120 (1 : Int32) (P1.1 72 4) P1) (fun P3 => ?_)
      refine tr_nil (rows2 := kb_129_46) rfl (List.cons_ne_nil _ _) ?_
      exact tr_reV (z := km_129) rfl rfl rfl
  · refine tr_ifF (cd := .eq) h5 ?_
    exact tr_reV (z := km_129) rfl rfl rfl
def f_115_330 (N : Nat) (rs2 : Nat) (s0 : Int32) (s1 : Int32) (P : ab_P) : Option ab_P :=
    if ab_gi s1 4 then
    ab_lt (ab_pI P rs2 s1.toNatClampNeg s0) fun P40 =>
    if (P40.1 72 5) = (0 : Int32) then
      ab_lt (ab_pI P40 75 1 ((P40.1 75 1) + (1 : Int32))) fun P43 =>
      Option.bind (f_129 N (59 : Int32) P43) fun P44 =>
      some P44
    else
    ab_lt (ab_pI P40 75 1 ((P40.1 75 1) + (0 : Int32))) fun P41 =>
    Option.bind (f_129 N (59 : Int32) P41) fun P42 =>
    some P42
    else none
theorem t_115_330 {xs : Nat × (Nat → Int32)} {d : Nat} (N : Nat) : ∀ (rs2 : Nat) (s0 : Int32) (s1 : Int32) (d1 : Int32) (rd2 : Nat) (P : ab_P), ab_tr xs wV (d + 4) 115 330 [] [.inr (12, 0, 0, 72), .inl (.int d1), .inr (20, 4, 0, rd2)] [.inl (.int s0), .inl (.int s1), .inr (20, 4, 0, rs2)] P (f_115_330 N rs2 s0 s1 P) := by
  intro rs2 s0 s1 d1 rd2 P
  unfold f_115_330
  refine tr_nil (rows2 := kb_115_330) rfl (List.cons_ne_nil _ _) ?_
  refine tr_gd (fun h39 => ?_)
  refine tr_blk 1 (pc' := 331) (rows' := kb_115_330.drop 1) (loc' := [.inr (12, 0, 0, 72), .inl (.int d1), .inr (20, 4, 0, rd2)]) (st' := []) (P1 := (ab_pI P rs2 s1.toNatClampNeg s0)) rfl ⟨h39, trivial⟩ ?_
  refine tr_lt (fun P40 => ?_)
  refine tr_blk 7 (pc' := 342) (rows' := kb_115_330.drop 8) (loc' := [.inr (12, 0, 0, 72), .inl (.int d1), .inr (20, 4, 0, rd2)]) (st' := [.inl (.int (P40.1 72 5)), .inl (.int (P40.1 75 1)), .inl (.int (1 : Int32)), .inr (20, 4, 0, 75)]) (P1 := P40) rfl ⟨trivial, trivial, trivial, trivial, (ab_vi (by decide)), trivial, trivial, trivial⟩ ?_
  refine tr_if (fun h45 => ?_) (fun h45 => ?_)
  · refine tr_ifF (cd := .ne) (fun q => q h45) ?_
    refine tr_blk 1 (pc' := 346) (rows' := kb_115_330.drop 10) (loc' := [.inr (12, 0, 0, 72), .inl (.int d1), .inr (20, 4, 0, rd2)]) (st' := [.inl (.int (1 : Int32)), .inl (.int (P40.1 75 1)), .inl (.int (1 : Int32)), .inr (20, 4, 0, 75)]) (P1 := P40) rfl ⟨trivial, trivial⟩ ?_
    refine tr_goto ?_
    refine tr_nil (rows2 := kb_115_350) rfl (List.cons_ne_nil _ _) ?_
    refine tr_blk 2 (pc' := 352) (rows' := kb_115_350.drop 2) (loc' := [.inr (12, 0, 0, 72), .inl (.int d1), .inr (20, 4, 0, rd2)]) (st' := []) (P1 := (ab_pI P40 75 1 ((P40.1 75 1) + (1 : Int32)))) rfl ⟨trivial, (ab_vi (by decide)), trivial⟩ ?_
    refine tr_lt (fun P43 => ?_)
    refine tr_goto ?_
    refine tr_nil (rows2 := kb_115_380) rfl (List.cons_ne_nil _ _) ?_
    refine tr_blk 2 (pc' := 383) (rows' := kb_115_380.drop 2) (loc' := [.inr (12, 0, 0, 72), .inl (.int d1), .inr (20, 4, 0, rd2)]) (st' := [.inl (.int (59 : Int32)), .inr (12, 0, 0, 72)]) (P1 := P43) rfl ⟨trivial, trivial, trivial⟩ ?_
    refine tr_cWV (z := km_129) (av := [.inr (12, 0, 0, 72), .inl (.int (59 : Int32))]) (st' := []) rfl rfl rfl (Nat.le_of_ble_eq_true rfl) ⟨rfl, Or.inl (by decide)⟩ rfl (Nat.le_of_ble_eq_true rfl) (t_129 N (59 : Int32) P43) (fun P44 => ?_)
    exact tr_reV (z := km_115) rfl rfl rfl
  · refine tr_ifT (cd := .ne) h45 ?_
    refine tr_nil (rows2 := kb_115_349) rfl (List.cons_ne_nil _ _) ?_
    refine tr_blk 1 (pc' := 350) (rows' := kb_115_349.drop 1) (loc' := [.inr (12, 0, 0, 72), .inl (.int d1), .inr (20, 4, 0, rd2)]) (st' := [.inl (.int (0 : Int32)), .inl (.int (P40.1 75 1)), .inl (.int (1 : Int32)), .inr (20, 4, 0, 75)]) (P1 := P40) rfl ⟨trivial, trivial⟩ ?_
    refine tr_nil (rows2 := kb_115_350) rfl (List.cons_ne_nil _ _) ?_
    refine tr_blk 2 (pc' := 352) (rows' := kb_115_350.drop 2) (loc' := [.inr (12, 0, 0, 72), .inl (.int d1), .inr (20, 4, 0, rd2)]) (st' := []) (P1 := (ab_pI P40 75 1 ((P40.1 75 1) + (0 : Int32)))) rfl ⟨trivial, (ab_vi (by decide)), trivial⟩ ?_
    refine tr_lt (fun P41 => ?_)
    refine tr_goto ?_
    refine tr_nil (rows2 := kb_115_380) rfl (List.cons_ne_nil _ _) ?_
    refine tr_blk 2 (pc' := 383) (rows' := kb_115_380.drop 2) (loc' := [.inr (12, 0, 0, 72), .inl (.int d1), .inr (20, 4, 0, rd2)]) (st' := [.inl (.int (59 : Int32)), .inr (12, 0, 0, 72)]) (P1 := P41) rfl ⟨trivial, trivial, trivial⟩ ?_
    refine tr_cWV (z := km_129) (av := [.inr (12, 0, 0, 72), .inl (.int (59 : Int32))]) (st' := []) rfl rfl rfl (Nat.le_of_ble_eq_true rfl) ⟨rfl, Or.inl (by decide)⟩ rfl (Nat.le_of_ble_eq_true rfl) (t_129 N (59 : Int32) P41) (fun P42 => ?_)
    exact tr_reV (z := km_115) rfl rfl rfl
def f_115_376 (N : Nat) (s0 : Int32) (s1 : Int32) (s3 : Int32) (P : ab_P) : Option ab_P :=
    ab_b2 (f_128 N s1 s0 P) fun v35 P34 =>
    if ab_gi s3 4 then
    ab_lt (ab_pI P34 75 s3.toNatClampNeg v35) fun P37 =>
    Option.bind (f_129 N (59 : Int32) P37) fun P38 =>
    some P38
    else none
theorem t_115_376 {xs : Nat × (Nat → Int32)} {d : Nat} (N : Nat) : ∀ (s0 : Int32) (s1 : Int32) (s3 : Int32) (d1 : Int32) (P : ab_P), ab_tr xs wV (d + 4) 115 376 [] [.inr (12, 0, 0, 72), .inl (.int d1), ab_top] [.inl (.int s0), .inl (.int s1), .inr (12, 0, 0, 72), .inl (.int s3), .inr (20, 4, 0, 75)] P (f_115_376 N s0 s1 s3 P) := by
  intro s0 s1 s3 d1 P
  unfold f_115_376
  refine tr_nil (rows2 := kb_115_376) rfl (List.cons_ne_nil _ _) ?_
  refine tr_cWI (z := km_128) (av := [.inr (12, 0, 0, 72), .inl (.int s1), .inl (.int s0)]) (st' := [.inl (.int s3), .inr (20, 4, 0, 75)]) rfl rfl rfl (Nat.le_of_ble_eq_true rfl) ⟨rfl, Or.inl (by decide)⟩ rfl (Nat.le_of_ble_eq_true rfl) (t_128 N s1 s0 P) (fun v35 P34 => ?_)
  refine tr_gd (fun h36 => ?_)
  refine tr_blk 1 (pc' := 380) (rows' := kb_115_376.drop 2) (loc' := [.inr (12, 0, 0, 72), .inl (.int d1), ab_top]) (st' := []) (P1 := (ab_pI P34 75 s3.toNatClampNeg v35)) rfl ⟨h36, trivial⟩ ?_
  refine tr_lt (fun P37 => ?_)
  refine tr_nil (rows2 := kb_115_380) rfl (List.cons_ne_nil _ _) ?_
  refine tr_blk 2 (pc' := 383) (rows' := kb_115_380.drop 2) (loc' := [.inr (12, 0, 0, 72), .inl (.int d1), ab_top]) (st' := [.inl (.int (59 : Int32)), .inr (12, 0, 0, 72)]) (P1 := P37) rfl ⟨trivial, trivial, trivial⟩ ?_
  refine tr_cWV (z := km_129) (av := [.inr (12, 0, 0, 72), .inl (.int (59 : Int32))]) (st' := []) rfl rfl rfl (Nat.le_of_ble_eq_true rfl) ⟨rfl, Or.inl (by decide)⟩ rfl (Nat.le_of_ble_eq_true rfl) (t_129 N (59 : Int32) P37) (fun P38 => ?_)
  exact tr_reV (z := km_115) rfl rfl rfl
def f_115_256 (N : Nat) (x1 : Int32) (P : ab_P) : Option ab_P :=
    if x1 < (3 : Int32) then
      if ab_gi (P.1 75 1) 24 then
      ab_b2 (f_128 N (0 : Int32) ((P.1 75 0) - (1 : Int32)) P) fun v26 P25 =>
      ab_lt (ab_pI P25 (79 + 1 + ((P.1 75 1)).toNatClampNeg) 0 v26) fun P27 =>
      ab_b2 (f_208 N ((P27.1 75 0) - (1 : Int32)) (P27.1 (79 + 1 + ((P.1 75 1)).toNatClampNeg) 0) P27) fun v29 P28 =>
      ab_lt (ab_pI P28 (79 + 1 + ((P.1 75 1)).toNatClampNeg) 1 v29) fun P30 =>
      ab_b2 (f_128 N (1 : Int32) (999 : Int32) P30) fun v32 P31 =>
      ab_lt (ab_pI P31 (79 + 1 + ((P.1 75 1)).toNatClampNeg) 2 v32) fun P33 =>
      if x1 = (1 : Int32) then
        f_115_330 N (79 + 1 + ((P.1 75 1)).toNatClampNeg) (1 : Int32) (3 : Int32) P33
      else
      f_115_330 N (79 + 1 + ((P.1 75 1)).toNatClampNeg) (0 : Int32) (3 : Int32) P33
      else none
    else
    if x1 = (3 : Int32) then
      f_115_376 N (50 : Int32) (0 : Int32) (x1 - (1 : Int32)) P
    else
    f_115_376 N (100 : Int32) (0 : Int32) (x1 - (1 : Int32)) P
theorem t_115_256 {xs : Nat × (Nat → Int32)} {d : Nat} (N : Nat) : ∀ (x1 : Int32) (P : ab_P), ab_tr xs wV (d + 4) 115 256 [] [.inr (12, 0, 0, 72), .inl (.int x1), ab_top] [] P (f_115_256 N x1 P) := by
  intro x1 P
  unfold f_115_256
  refine tr_nil (rows2 := kb_115_256) rfl (List.cons_ne_nil _ _) ?_
  refine tr_blk 2 (pc' := 258) (rows' := kb_115_256.drop 2) (loc' := [.inr (12, 0, 0, 72), .inl (.int x1), ab_top]) (st' := [.inl (.int (3 : Int32)), .inl (.int x1)]) (P1 := P) rfl ⟨trivial, trivial, trivial⟩ ?_
  refine tr_if (fun h46 => ?_) (fun h46 => ?_)
  · refine tr_icF (cd := .ge) (Int32.not_le.mpr h46) ?_
    refine tr_gd (fun h24 => ?_)
    refine tr_blk 18 (pc' := 285) (rows' := kb_115_256.drop 21) (loc' := [.inr (12, 0, 0, 72), .inl (.int x1), .inr (20, 4, 0, (79 + 1 + ((P.1 75 1)).toNatClampNeg))]) (st' := [.inl (.int ((P.1 75 0) - (1 : Int32))), .inl (.int (0 : Int32)), .inr (12, 0, 0, 72), .inl (.int (0 : Int32)), .inr (20, 4, 0, (79 + 1 + ((P.1 75 1)).toNatClampNeg))]) (P1 := P) rfl ⟨trivial, trivial, trivial, trivial, trivial, (ab_vi (by decide)), ⟨h24, ab_grl h24⟩, trivial, trivial, trivial, trivial, trivial, trivial, trivial, trivial, (ab_vi (by decide)), trivial, trivial, trivial⟩ ?_
    refine tr_cWI (z := km_128) (av := [.inr (12, 0, 0, 72), .inl (.int (0 : Int32)), .inl (.int ((P.1 75 0) - (1 : Int32)))]) (st' := [.inl (.int (0 : Int32)), .inr (20, 4, 0, (79 + 1 + ((P.1 75 1)).toNatClampNeg))]) rfl rfl rfl (Nat.le_of_ble_eq_true rfl) ⟨rfl, Or.inl (by decide)⟩ rfl (Nat.le_of_ble_eq_true rfl) (t_128 N (0 : Int32) ((P.1 75 0) - (1 : Int32)) P) (fun v26 P25 => ?_)
    refine tr_blk 1 (pc' := 289) (rows' := kb_115_256.drop 23) (loc' := [.inr (12, 0, 0, 72), .inl (.int x1), .inr (20, 4, 0, (79 + 1 + ((P.1 75 1)).toNatClampNeg))]) (st' := []) (P1 := (ab_pI P25 (79 + 1 + ((P.1 75 1)).toNatClampNeg) 0 v26)) rfl ⟨(ab_vi (by decide)), trivial⟩ ?_
    refine tr_lt (fun P27 => ?_)
    refine tr_blk 12 (pc' := 303) (rows' := kb_115_256.drop 35) (loc' := [.inr (12, 0, 0, 72), .inl (.int x1), .inr (20, 4, 0, (79 + 1 + ((P.1 75 1)).toNatClampNeg))]) (st' := [.inl (.int (P27.1 (79 + 1 + ((P.1 75 1)).toNatClampNeg) 0)), .inl (.int ((P27.1 75 0) - (1 : Int32))), .inr (12, 0, 0, 72), .inl (.int (1 : Int32)), .inr (20, 4, 0, (79 + 1 + ((P.1 75 1)).toNatClampNeg))]) (P1 := P27) rfl ⟨trivial, trivial, trivial, trivial, trivial, trivial, (ab_vi (by decide)), trivial, trivial, trivial, trivial, (ab_vi (by decide)), trivial⟩ ?_
    refine tr_cWI (z := km_208) (av := [.inr (12, 0, 0, 72), .inl (.int ((P27.1 75 0) - (1 : Int32))), .inl (.int (P27.1 (79 + 1 + ((P.1 75 1)).toNatClampNeg) 0))]) (st' := [.inl (.int (1 : Int32)), .inr (20, 4, 0, (79 + 1 + ((P.1 75 1)).toNatClampNeg))]) rfl rfl rfl (Nat.le_of_ble_eq_true rfl) ⟨rfl, Or.inl (by decide)⟩ rfl (Nat.le_of_ble_eq_true rfl) (t_208 N ((P27.1 75 0) - (1 : Int32)) (P27.1 (79 + 1 + ((P.1 75 1)).toNatClampNeg) 0) P27) (fun v29 P28 => ?_)
    refine tr_blk 1 (pc' := 307) (rows' := kb_115_256.drop 37) (loc' := [.inr (12, 0, 0, 72), .inl (.int x1), .inr (20, 4, 0, (79 + 1 + ((P.1 75 1)).toNatClampNeg))]) (st' := []) (P1 := (ab_pI P28 (79 + 1 + ((P.1 75 1)).toNatClampNeg) 1 v29)) rfl ⟨(ab_vi (by decide)), trivial⟩ ?_
    refine tr_lt (fun P30 => ?_)
    refine tr_blk 5 (pc' := 314) (rows' := kb_115_256.drop 42) (loc' := [.inr (12, 0, 0, 72), .inl (.int x1), .inr (20, 4, 0, (79 + 1 + ((P.1 75 1)).toNatClampNeg))]) (st' := [.inl (.int (999 : Int32)), .inl (.int (1 : Int32)), .inr (12, 0, 0, 72), .inl (.int (2 : Int32)), .inr (20, 4, 0, (79 + 1 + ((P.1 75 1)).toNatClampNeg))]) (P1 := P30) rfl ⟨trivial, trivial, trivial, trivial, trivial, trivial⟩ ?_
    refine tr_cWI (z := km_128) (av := [.inr (12, 0, 0, 72), .inl (.int (1 : Int32)), .inl (.int (999 : Int32))]) (st' := [.inl (.int (2 : Int32)), .inr (20, 4, 0, (79 + 1 + ((P.1 75 1)).toNatClampNeg))]) rfl rfl rfl (Nat.le_of_ble_eq_true rfl) ⟨rfl, Or.inl (by decide)⟩ rfl (Nat.le_of_ble_eq_true rfl) (t_128 N (1 : Int32) (999 : Int32) P30) (fun v32 P31 => ?_)
    refine tr_blk 1 (pc' := 318) (rows' := kb_115_256.drop 44) (loc' := [.inr (12, 0, 0, 72), .inl (.int x1), .inr (20, 4, 0, (79 + 1 + ((P.1 75 1)).toNatClampNeg))]) (st' := []) (P1 := (ab_pI P31 (79 + 1 + ((P.1 75 1)).toNatClampNeg) 2 v32)) rfl ⟨(ab_vi (by decide)), trivial⟩ ?_
    refine tr_lt (fun P33 => ?_)
    refine tr_blk 4 (pc' := 322) (rows' := kb_115_256.drop 48) (loc' := [.inr (12, 0, 0, 72), .inl (.int x1), .inr (20, 4, 0, (79 + 1 + ((P.1 75 1)).toNatClampNeg))]) (st' := [.inl (.int (1 : Int32)), .inl (.int x1), .inl (.int (3 : Int32)), .inr (20, 4, 0, (79 + 1 + ((P.1 75 1)).toNatClampNeg))]) (P1 := P33) rfl ⟨trivial, trivial, trivial, trivial, trivial⟩ ?_
    refine tr_if (fun h48 => ?_) (fun h48 => ?_)
    · refine tr_icF (cd := .ne) (fun q => q h48) ?_
      refine tr_blk 1 (pc' := 326) (rows' := kb_115_256.drop 50) (loc' := [.inr (12, 0, 0, 72), .inl (.int x1), .inr (20, 4, 0, (79 + 1 + ((P.1 75 1)).toNatClampNeg))]) (st' := [.inl (.int (1 : Int32)), .inl (.int (3 : Int32)), .inr (20, 4, 0, (79 + 1 + ((P.1 75 1)).toNatClampNeg))]) (P1 := P33) rfl ⟨trivial, trivial⟩ ?_
      refine tr_goto ?_
      exact t_115_330 N (79 + 1 + ((P.1 75 1)).toNatClampNeg) (1 : Int32) (3 : Int32) (x1) ((79 + 1 + ((P.1 75 1)).toNatClampNeg)) P33
    · refine tr_icT (cd := .ne) h48 ?_
      refine tr_nil (rows2 := kb_115_329) rfl (List.cons_ne_nil _ _) ?_
      refine tr_blk 1 (pc' := 330) (rows' := kb_115_329.drop 1) (loc' := [.inr (12, 0, 0, 72), .inl (.int x1), .inr (20, 4, 0, (79 + 1 + ((P.1 75 1)).toNatClampNeg))]) (st' := [.inl (.int (0 : Int32)), .inl (.int (3 : Int32)), .inr (20, 4, 0, (79 + 1 + ((P.1 75 1)).toNatClampNeg))]) (P1 := P33) rfl ⟨trivial, trivial⟩ ?_
      exact t_115_330 N (79 + 1 + ((P.1 75 1)).toNatClampNeg) (0 : Int32) (3 : Int32) (x1) ((79 + 1 + ((P.1 75 1)).toNatClampNeg)) P33
  · refine tr_icT (cd := .ge) (Int32.not_lt.mp h46) ?_
    refine tr_nil (rows2 := kb_115_355) rfl (List.cons_ne_nil _ _) ?_
    refine tr_blk 9 (pc' := 366) (rows' := kb_115_355.drop 9) (loc' := [.inr (12, 0, 0, 72), .inl (.int x1), ab_top]) (st' := [.inl (.int (3 : Int32)), .inl (.int x1), .inl (.int (0 : Int32)), .inr (12, 0, 0, 72), .inl (.int (x1 - (1 : Int32))), .inr (20, 4, 0, 75)]) (P1 := P) rfl ⟨trivial, trivial, trivial, trivial, trivial, trivial, trivial, trivial, trivial, trivial⟩ ?_
    refine tr_if (fun h47 => ?_) (fun h47 => ?_)
    · refine tr_icF (cd := .ne) (fun q => q h47) ?_
      refine tr_blk 1 (pc' := 371) (rows' := kb_115_355.drop 11) (loc' := [.inr (12, 0, 0, 72), .inl (.int x1), ab_top]) (st' := [.inl (.int (50 : Int32)), .inl (.int (0 : Int32)), .inr (12, 0, 0, 72), .inl (.int (x1 - (1 : Int32))), .inr (20, 4, 0, 75)]) (P1 := P) rfl ⟨trivial, trivial⟩ ?_
      refine tr_goto ?_
      exact t_115_376 N (50 : Int32) (0 : Int32) (x1 - (1 : Int32)) (x1) P
    · refine tr_icT (cd := .ne) h47 ?_
      refine tr_nil (rows2 := kb_115_374) rfl (List.cons_ne_nil _ _) ?_
      refine tr_blk 1 (pc' := 376) (rows' := kb_115_374.drop 1) (loc' := [.inr (12, 0, 0, 72), .inl (.int x1), ab_top]) (st' := [.inl (.int (100 : Int32)), .inl (.int (0 : Int32)), .inr (12, 0, 0, 72), .inl (.int (x1 - (1 : Int32))), .inr (20, 4, 0, 75)]) (P1 := P) rfl ⟨trivial, trivial⟩ ?_
      exact t_115_376 N (100 : Int32) (0 : Int32) (x1 - (1 : Int32)) (x1) P
def f_115_196 (N : Nat) (x1 : Int32) (P : ab_P) : Option ab_P :=
    Option.bind (f_207 N P) fun P14 =>
    ab_lt (ab_pI P14 72 7 ((P14.1 72 7) + (1 : Int32))) fun P15 =>
    if x1 = (0 : Int32) then
      ab_b2 (f_128 N (0 : Int32) (9 : Int32) P15) fun v17 P16 =>
      if ab_gi (P15.1 75 0) 8 then
      ab_lt (ab_pI P16 77 ((P15.1 75 0)).toNatClampNeg v17) fun P19 =>
      if (P19.1 72 5) = (0 : Int32) then
        ab_lt (ab_pI P19 75 0 ((P19.1 75 0) + (1 : Int32))) fun P22 =>
        Option.bind (f_129 N (59 : Int32) P22) fun P23 =>
        some P23
      else
      ab_lt (ab_pI P19 75 0 ((P19.1 75 0) + (0 : Int32))) fun P20 =>
      Option.bind (f_129 N (59 : Int32) P20) fun P21 =>
      some P21
      else none
    else
    f_115_256 N x1 P15
theorem t_115_196 {xs : Nat × (Nat → Int32)} {d : Nat} (N : Nat) : ∀ (x1 : Int32) (P : ab_P), ab_tr xs wV (d + 4) 115 196 [] [.inr (12, 0, 0, 72), .inl (.int x1), ab_top] [] P (f_115_196 N x1 P) := by
  intro x1 P
  unfold f_115_196
  refine tr_nil (rows2 := kb_115_196) rfl (List.cons_ne_nil _ _) ?_
  refine tr_blk 1 (pc' := 197) (rows' := kb_115_196.drop 1) (loc' := [.inr (12, 0, 0, 72), .inl (.int x1), ab_top]) (st' := [.inr (12, 0, 0, 72)]) (P1 := P) rfl ⟨trivial, trivial⟩ ?_
  refine tr_cWV (z := km_207) (av := [.inr (12, 0, 0, 72)]) (st' := []) rfl rfl rfl (Nat.le_of_ble_eq_true rfl) ⟨rfl, Or.inl (by decide)⟩ rfl (Nat.le_of_ble_eq_true rfl) (t_207 N P) (fun P14 => ?_)
  refine tr_blk 6 (pc' := 210) (rows' := kb_115_196.drop 8) (loc' := [.inr (12, 0, 0, 72), .inl (.int x1), ab_top]) (st' := []) (P1 := (ab_pI P14 72 7 ((P14.1 72 7) + (1 : Int32)))) rfl ⟨trivial, trivial, trivial, trivial, trivial, trivial, trivial⟩ ?_
  refine tr_lt (fun P15 => ?_)
  refine tr_blk 1 (pc' := 211) (rows' := kb_115_196.drop 9) (loc' := [.inr (12, 0, 0, 72), .inl (.int x1), ab_top]) (st' := [.inl (.int x1)]) (P1 := P15) rfl ⟨trivial, trivial⟩ ?_
  refine tr_if (fun h49 => ?_) (fun h49 => ?_)
  · refine tr_ifF (cd := .ne) (fun q => q h49) ?_
    refine tr_blk 9 (pc' := 228) (rows' := kb_115_196.drop 19) (loc' := [.inr (12, 0, 0, 72), .inl (.int x1), ab_top]) (st' := [.inl (.int (9 : Int32)), .inl (.int (0 : Int32)), .inr (12, 0, 0, 72), .inl (.int (P15.1 75 0)), .inr (20, 8, 0, 77)]) (P1 := P15) rfl ⟨trivial, trivial, trivial, trivial, trivial, (ab_vi (by decide)), trivial, trivial, trivial, trivial⟩ ?_
    refine tr_cWI (z := km_128) (av := [.inr (12, 0, 0, 72), .inl (.int (0 : Int32)), .inl (.int (9 : Int32))]) (st' := [.inl (.int (P15.1 75 0)), .inr (20, 8, 0, 77)]) rfl rfl rfl (Nat.le_of_ble_eq_true rfl) ⟨rfl, Or.inl (by decide)⟩ rfl (Nat.le_of_ble_eq_true rfl) (t_128 N (0 : Int32) (9 : Int32) P15) (fun v17 P16 => ?_)
    refine tr_gd (fun h18 => ?_)
    refine tr_blk 1 (pc' := 232) (rows' := kb_115_196.drop 21) (loc' := [.inr (12, 0, 0, 72), .inl (.int x1), ab_top]) (st' := []) (P1 := (ab_pI P16 77 ((P15.1 75 0)).toNatClampNeg v17)) rfl ⟨h18, trivial⟩ ?_
    refine tr_lt (fun P19 => ?_)
    refine tr_blk 7 (pc' := 243) (rows' := kb_115_196.drop 28) (loc' := [.inr (12, 0, 0, 72), .inl (.int x1), ab_top]) (st' := [.inl (.int (P19.1 72 5)), .inl (.int (P19.1 75 0)), .inl (.int (0 : Int32)), .inr (20, 4, 0, 75)]) (P1 := P19) rfl ⟨trivial, trivial, trivial, trivial, (ab_vi (by decide)), trivial, trivial, trivial⟩ ?_
    refine tr_if (fun h50 => ?_) (fun h50 => ?_)
    · refine tr_ifF (cd := .ne) (fun q => q h50) ?_
      refine tr_blk 1 (pc' := 247) (rows' := kb_115_196.drop 30) (loc' := [.inr (12, 0, 0, 72), .inl (.int x1), ab_top]) (st' := [.inl (.int (1 : Int32)), .inl (.int (P19.1 75 0)), .inl (.int (0 : Int32)), .inr (20, 4, 0, 75)]) (P1 := P19) rfl ⟨trivial, trivial⟩ ?_
      refine tr_goto ?_
      refine tr_nil (rows2 := kb_115_251) rfl (List.cons_ne_nil _ _) ?_
      refine tr_blk 2 (pc' := 253) (rows' := kb_115_251.drop 2) (loc' := [.inr (12, 0, 0, 72), .inl (.int x1), ab_top]) (st' := []) (P1 := (ab_pI P19 75 0 ((P19.1 75 0) + (1 : Int32)))) rfl ⟨trivial, (ab_vi (by decide)), trivial⟩ ?_
      refine tr_lt (fun P22 => ?_)
      refine tr_goto ?_
      refine tr_nil (rows2 := kb_115_380) rfl (List.cons_ne_nil _ _) ?_
      refine tr_blk 2 (pc' := 383) (rows' := kb_115_380.drop 2) (loc' := [.inr (12, 0, 0, 72), .inl (.int x1), ab_top]) (st' := [.inl (.int (59 : Int32)), .inr (12, 0, 0, 72)]) (P1 := P22) rfl ⟨trivial, trivial, trivial⟩ ?_
      refine tr_cWV (z := km_129) (av := [.inr (12, 0, 0, 72), .inl (.int (59 : Int32))]) (st' := []) rfl rfl rfl (Nat.le_of_ble_eq_true rfl) ⟨rfl, Or.inl (by decide)⟩ rfl (Nat.le_of_ble_eq_true rfl) (t_129 N (59 : Int32) P22) (fun P23 => ?_)
      exact tr_reV (z := km_115) rfl rfl rfl
    · refine tr_ifT (cd := .ne) h50 ?_
      refine tr_nil (rows2 := kb_115_250) rfl (List.cons_ne_nil _ _) ?_
      refine tr_blk 1 (pc' := 251) (rows' := kb_115_250.drop 1) (loc' := [.inr (12, 0, 0, 72), .inl (.int x1), ab_top]) (st' := [.inl (.int (0 : Int32)), .inl (.int (P19.1 75 0)), .inl (.int (0 : Int32)), .inr (20, 4, 0, 75)]) (P1 := P19) rfl ⟨trivial, trivial⟩ ?_
      refine tr_nil (rows2 := kb_115_251) rfl (List.cons_ne_nil _ _) ?_
      refine tr_blk 2 (pc' := 253) (rows' := kb_115_251.drop 2) (loc' := [.inr (12, 0, 0, 72), .inl (.int x1), ab_top]) (st' := []) (P1 := (ab_pI P19 75 0 ((P19.1 75 0) + (0 : Int32)))) rfl ⟨trivial, (ab_vi (by decide)), trivial⟩ ?_
      refine tr_lt (fun P20 => ?_)
      refine tr_goto ?_
      refine tr_nil (rows2 := kb_115_380) rfl (List.cons_ne_nil _ _) ?_
      refine tr_blk 2 (pc' := 383) (rows' := kb_115_380.drop 2) (loc' := [.inr (12, 0, 0, 72), .inl (.int x1), ab_top]) (st' := [.inl (.int (59 : Int32)), .inr (12, 0, 0, 72)]) (P1 := P20) rfl ⟨trivial, trivial, trivial⟩ ?_
      refine tr_cWV (z := km_129) (av := [.inr (12, 0, 0, 72), .inl (.int (59 : Int32))]) (st' := []) rfl rfl rfl (Nat.le_of_ble_eq_true rfl) ⟨rfl, Or.inl (by decide)⟩ rfl (Nat.le_of_ble_eq_true rfl) (t_129 N (59 : Int32) P20) (fun P21 => ?_)
      exact tr_reV (z := km_115) rfl rfl rfl
  · refine tr_ifT (cd := .ne) h49 ?_
    exact t_115_256 N x1 P15
def f_115_179 (N : Nat) (x1 : Int32) (P : ab_P) : Option ab_P :=
    Option.bind (f_120 (3 : Int32) (P.1 72 4) P) fun P12 =>
    if (P12.1 72 5) = (0 : Int32) then
      f_115_196 N x1 P12
    else
    some P12
theorem t_115_179 {xs : Nat × (Nat → Int32)} {d : Nat} (N : Nat) : ∀ (x1 : Int32) (P : ab_P), ab_tr xs wV (d + 4) 115 179 [] [.inr (12, 0, 0, 72), .inl (.int x1), ab_top] [] P (f_115_179 N x1 P) := by
  intro x1 P
  unfold f_115_179
  refine tr_nil (rows2 := kb_115_179) rfl (List.cons_ne_nil _ _) ?_
  refine tr_blk 4 (pc' := 185) (rows' := kb_115_179.drop 4) (loc' := [.inr (12, 0, 0, 72), .inl (.int x1), ab_top]) (st' := [.inl (.int (P.1 72 4)), .inl (.int (3 : Int32)), .inr (12, 0, 0, 72)]) (P1 := P) rfl ⟨trivial, trivial, trivial, trivial, trivial⟩ ?_
  refine tr_cWV (z := km_120) (av := [.inr (12, 0, 0, 72), .inl (.int (3 : Int32)), .inl (.int (P.1 72 4))]) (st' := []) rfl rfl rfl (Nat.le_of_ble_eq_true rfl) ⟨rfl, Or.inl (by decide)⟩ rfl (Nat.le_of_ble_eq_true rfl) (t_120 (3 : Int32) (P.1 72 4) P) (fun P12 => ?_)
  refine tr_nil (rows2 := kb_115_188) rfl (List.cons_ne_nil _ _) ?_
  refine tr_blk 2 (pc' := 192) (rows' := kb_115_188.drop 2) (loc' := [.inr (12, 0, 0, 72), .inl (.int x1), ab_top]) (st' := [.inl (.int (P12.1 72 5))]) (P1 := P12) rfl ⟨trivial, trivial, trivial⟩ ?_
  refine tr_if (fun h51 => ?_) (fun h51 => ?_)
  · refine tr_ifT (cd := .eq) h51 ?_
    exact t_115_196 N x1 P12
  · refine tr_ifF (cd := .eq) h51 ?_
    exact tr_reV (z := km_115) rfl rfl rfl
def f_115_159 (N : Nat) (x1 : Int32) (P : ab_P) : Option ab_P :=
    Option.bind (f_112 P x1 (1 : Int32) (2 : Int32)) fun v13 =>
    if v13 = (0 : Int32) then
      if (P.1 72 5) = (0 : Int32) then
        f_115_196 N x1 P
      else
      some P
    else
    if (P.1 75 1) = (24 : Int32) then
      f_115_179 N x1 P
    else
    if (P.1 72 5) = (0 : Int32) then
      f_115_196 N x1 P
    else
    some P
theorem t_115_159 {xs : Nat × (Nat → Int32)} {d : Nat} (N : Nat) : ∀ (x1 : Int32) (P : ab_P), ab_tr xs wV (d + 4) 115 159 [] [.inr (12, 0, 0, 72), .inl (.int x1), ab_top] [] P (f_115_159 N x1 P) := by
  intro x1 P
  unfold f_115_159
  refine tr_nil (rows2 := kb_115_159) rfl (List.cons_ne_nil _ _) ?_
  refine tr_blk 3 (pc' := 162) (rows' := kb_115_159.drop 3) (loc' := [.inr (12, 0, 0, 72), .inl (.int x1), ab_top]) (st' := [.inl (.int (2 : Int32)), .inl (.int (1 : Int32)), .inl (.int x1)]) (P1 := P) rfl ⟨trivial, trivial, trivial, trivial⟩ ?_
  refine tr_cRI (z := km_112) (av := [.inl (.int x1), .inl (.int (1 : Int32)), .inl (.int (2 : Int32))]) (st' := []) rfl rfl rfl (Nat.le_of_ble_eq_true rfl) trivial rfl (Nat.le_of_ble_eq_true rfl) (t_112 P x1 (1 : Int32) (2 : Int32)) (fun v13 => ?_)
  refine tr_if (fun h52 => ?_) (fun h52 => ?_)
  · refine tr_ifT (cd := .eq) h52 ?_
    refine tr_nil (rows2 := kb_115_188) rfl (List.cons_ne_nil _ _) ?_
    refine tr_blk 2 (pc' := 192) (rows' := kb_115_188.drop 2) (loc' := [.inr (12, 0, 0, 72), .inl (.int x1), ab_top]) (st' := [.inl (.int (P.1 72 5))]) (P1 := P) rfl ⟨trivial, trivial, trivial⟩ ?_
    refine tr_if (fun h53 => ?_) (fun h53 => ?_)
    · refine tr_ifT (cd := .eq) h53 ?_
      exact t_115_196 N x1 P
    · refine tr_ifF (cd := .eq) h53 ?_
      exact tr_reV (z := km_115) rfl rfl rfl
  · refine tr_ifF (cd := .eq) h52 ?_
    refine tr_blk 5 (pc' := 176) (rows' := kb_115_159.drop 10) (loc' := [.inr (12, 0, 0, 72), .inl (.int x1), ab_top]) (st' := [.inl (.int (24 : Int32)), .inl (.int (P.1 75 1))]) (P1 := P) rfl ⟨trivial, trivial, trivial, (ab_vi (by decide)), trivial, trivial⟩ ?_
    refine tr_if (fun h54 => ?_) (fun h54 => ?_)
    · refine tr_icF (cd := .ne) (fun q => q h54) ?_
      exact t_115_179 N x1 P
    · refine tr_icT (cd := .ne) h54 ?_
      refine tr_nil (rows2 := kb_115_188) rfl (List.cons_ne_nil _ _) ?_
      refine tr_blk 2 (pc' := 192) (rows' := kb_115_188.drop 2) (loc' := [.inr (12, 0, 0, 72), .inl (.int x1), ab_top]) (st' := [.inl (.int (P.1 72 5))]) (P1 := P) rfl ⟨trivial, trivial, trivial⟩ ?_
      refine tr_if (fun h55 => ?_) (fun h55 => ?_)
      · refine tr_ifT (cd := .eq) h55 ?_
        exact t_115_196 N x1 P
      · refine tr_ifF (cd := .eq) h55 ?_
        exact tr_reV (z := km_115) rfl rfl rfl
def f_115_117 (N : Nat) (s0 : Int32) (P : ab_P) : Option ab_P :=
    if s0 = (-1 : Int32) then
      Option.bind (f_120 (1 : Int32) (P.1 72 4) P) fun P11 =>
      if (P11.1 72 5) = (0 : Int32) then
        f_115_196 N s0 P11
      else
      some P11
    else
    if (P.1 72 7) = (60 : Int32) then
      f_115_179 N s0 P
    else
    if s0 = (0 : Int32) then
      if (P.1 75 0) = (8 : Int32) then
        f_115_179 N s0 P
      else
      f_115_159 N s0 P
    else
    f_115_159 N s0 P
theorem t_115_117 {xs : Nat × (Nat → Int32)} {d : Nat} (N : Nat) : ∀ (s0 : Int32) (P : ab_P), ab_tr xs wV (d + 4) 115 117 [] [.inr (12, 0, 0, 72), ab_top, ab_top] [.inl (.int s0)] P (f_115_117 N s0 P) := by
  intro s0 P
  unfold f_115_117
  refine tr_nil (rows2 := kb_115_117) rfl (List.cons_ne_nil _ _) ?_
  refine tr_blk 3 (pc' := 120) (rows' := kb_115_117.drop 3) (loc' := [.inr (12, 0, 0, 72), .inl (.int s0), ab_top]) (st' := [.inl (.int (-1 : Int32)), .inl (.int s0)]) (P1 := P) rfl ⟨trivial, trivial, trivial, trivial⟩ ?_
  refine tr_if (fun h56 => ?_) (fun h56 => ?_)
  · refine tr_icF (cd := .ne) (fun q => q h56) ?_
    refine tr_blk 4 (pc' := 129) (rows' := kb_115_117.drop 8) (loc' := [.inr (12, 0, 0, 72), .inl (.int s0), ab_top]) (st' := [.inl (.int (P.1 72 4)), .inl (.int (1 : Int32)), .inr (12, 0, 0, 72)]) (P1 := P) rfl ⟨trivial, trivial, trivial, trivial, trivial⟩ ?_
    refine tr_cWV (z := km_120) (av := [.inr (12, 0, 0, 72), .inl (.int (1 : Int32)), .inl (.int (P.1 72 4))]) (st' := []) rfl rfl rfl (Nat.le_of_ble_eq_true rfl) ⟨rfl, Or.inl (by decide)⟩ rfl (Nat.le_of_ble_eq_true rfl) (t_120 (1 : Int32) (P.1 72 4) P) (fun P11 => ?_)
    refine tr_goto ?_
    refine tr_nil (rows2 := kb_115_188) rfl (List.cons_ne_nil _ _) ?_
    refine tr_blk 2 (pc' := 192) (rows' := kb_115_188.drop 2) (loc' := [.inr (12, 0, 0, 72), .inl (.int s0), ab_top]) (st' := [.inl (.int (P11.1 72 5))]) (P1 := P11) rfl ⟨trivial, trivial, trivial⟩ ?_
    refine tr_if (fun h60 => ?_) (fun h60 => ?_)
    · refine tr_ifT (cd := .eq) h60 ?_
      exact t_115_196 N s0 P11
    · refine tr_ifF (cd := .eq) h60 ?_
      exact tr_reV (z := km_115) rfl rfl rfl
  · refine tr_icT (cd := .ne) h56 ?_
    refine tr_nil (rows2 := kb_115_135) rfl (List.cons_ne_nil _ _) ?_
    refine tr_blk 3 (pc' := 141) (rows' := kb_115_135.drop 3) (loc' := [.inr (12, 0, 0, 72), .inl (.int s0), ab_top]) (st' := [.inl (.int (60 : Int32)), .inl (.int (P.1 72 7))]) (P1 := P) rfl ⟨trivial, trivial, trivial, trivial⟩ ?_
    refine tr_if (fun h57 => ?_) (fun h57 => ?_)
    · refine tr_icT (cd := .eq) h57 ?_
      exact t_115_179 N s0 P
    · refine tr_icF (cd := .eq) h57 ?_
      refine tr_blk 1 (pc' := 145) (rows' := kb_115_135.drop 5) (loc' := [.inr (12, 0, 0, 72), .inl (.int s0), ab_top]) (st' := [.inl (.int s0)]) (P1 := P) rfl ⟨trivial, trivial⟩ ?_
      refine tr_if (fun h58 => ?_) (fun h58 => ?_)
      · refine tr_ifF (cd := .ne) (fun q => q h58) ?_
        refine tr_blk 5 (pc' := 156) (rows' := kb_115_135.drop 11) (loc' := [.inr (12, 0, 0, 72), .inl (.int s0), ab_top]) (st' := [.inl (.int (8 : Int32)), .inl (.int (P.1 75 0))]) (P1 := P) rfl ⟨trivial, trivial, trivial, (ab_vi (by decide)), trivial, trivial⟩ ?_
        refine tr_if (fun h59 => ?_) (fun h59 => ?_)
        · refine tr_icT (cd := .eq) h59 ?_
          exact t_115_179 N s0 P
        · refine tr_icF (cd := .eq) h59 ?_
          exact t_115_159 N s0 P
      · refine tr_ifT (cd := .ne) h58 ?_
        exact t_115_159 N s0 P
def f_115 (N : Nat) (P : ab_P) : Option ab_P :=
    ab_b2 (f_206 N (16 : Int32) (5 : Int32) (18 : Int32) (19 : Int32) (15 : Int32) (14 : Int32) (0 : Int32) (0 : Int32) P) fun v2 P1 =>
    if v2 = (0 : Int32) then
      ab_b2 (f_206 N (23 : Int32) (18 : Int32) (15 : Int32) (14 : Int32) (7 : Int32) (0 : Int32) (0 : Int32) (0 : Int32) P1) fun v4 P3 =>
      if v4 = (0 : Int32) then
        ab_b2 (f_206 N (6 : Int32) (1 : Int32) (12 : Int32) (19 : Int32) (5 : Int32) (0 : Int32) (0 : Int32) (0 : Int32) P3) fun v6 P5 =>
        if v6 = (0 : Int32) then
          ab_b2 (f_206 N (9 : Int32) (14 : Int32) (20 : Int32) (5 : Int32) (18 : Int32) (5 : Int32) (19 : Int32) (20 : Int32) P5) fun v8 P7 =>
          if v8 = (0 : Int32) then
            ab_b2 (f_206 N (2 : Int32) (9 : Int32) (20 : Int32) (5 : Int32) (0 : Int32) (0 : Int32) (0 : Int32) (0 : Int32) P7) fun v10 P9 =>
            if v10 = (0 : Int32) then
              f_115_117 N (-1 : Int32) P9
            else
            f_115_117 N (4 : Int32) P9
          else
          f_115_117 N (3 : Int32) P7
        else
        f_115_117 N (2 : Int32) P5
      else
      f_115_117 N (1 : Int32) P3
    else
    f_115_117 N (0 : Int32) P1
theorem t_115 {xs : Nat × (Nat → Int32)} {d : Nat} (N : Nat) : ∀ (P : ab_P), ab_tr xs wV (d + 4) 115 0 [] [.inr (12, 0, 0, 72), ab_top, ab_top] [] P (f_115 N P) := by
  intro P
  unfold f_115
  refine tr_nil (rows2 := kb_115_0) rfl (List.cons_ne_nil _ _) ?_
  refine tr_blk 9 (pc' := 14) (rows' := kb_115_0.drop 9) (loc' := [.inr (12, 0, 0, 72), ab_top, ab_top]) (st' := [.inl (.int (0 : Int32)), .inl (.int (0 : Int32)), .inl (.int (14 : Int32)), .inl (.int (15 : Int32)), .inl (.int (19 : Int32)), .inl (.int (18 : Int32)), .inl (.int (5 : Int32)), .inl (.int (16 : Int32)), .inr (12, 0, 0, 72)]) (P1 := P) rfl ⟨trivial, trivial, trivial, trivial, trivial, trivial, trivial, trivial, trivial, trivial⟩ ?_
  refine tr_cWI (z := km_206) (av := [.inr (12, 0, 0, 72), .inl (.int (16 : Int32)), .inl (.int (5 : Int32)), .inl (.int (18 : Int32)), .inl (.int (19 : Int32)), .inl (.int (15 : Int32)), .inl (.int (14 : Int32)), .inl (.int (0 : Int32)), .inl (.int (0 : Int32))]) (st' := []) rfl rfl rfl (Nat.le_of_ble_eq_true rfl) ⟨rfl, Or.inl (by decide)⟩ rfl (Nat.le_of_ble_eq_true rfl) (t_206 N (16 : Int32) (5 : Int32) (18 : Int32) (19 : Int32) (15 : Int32) (14 : Int32) (0 : Int32) (0 : Int32) P) (fun v2 P1 => ?_)
  refine tr_if (fun h61 => ?_) (fun h61 => ?_)
  · refine tr_ifT (cd := .eq) h61 ?_
    refine tr_nil (rows2 := kb_115_24) rfl (List.cons_ne_nil _ _) ?_
    refine tr_blk 9 (pc' := 38) (rows' := kb_115_24.drop 9) (loc' := [.inr (12, 0, 0, 72), ab_top, ab_top]) (st' := [.inl (.int (0 : Int32)), .inl (.int (0 : Int32)), .inl (.int (0 : Int32)), .inl (.int (7 : Int32)), .inl (.int (14 : Int32)), .inl (.int (15 : Int32)), .inl (.int (18 : Int32)), .inl (.int (23 : Int32)), .inr (12, 0, 0, 72)]) (P1 := P1) rfl ⟨trivial, trivial, trivial, trivial, trivial, trivial, trivial, trivial, trivial, trivial⟩ ?_
    refine tr_cWI (z := km_206) (av := [.inr (12, 0, 0, 72), .inl (.int (23 : Int32)), .inl (.int (18 : Int32)), .inl (.int (15 : Int32)), .inl (.int (14 : Int32)), .inl (.int (7 : Int32)), .inl (.int (0 : Int32)), .inl (.int (0 : Int32)), .inl (.int (0 : Int32))]) (st' := []) rfl rfl rfl (Nat.le_of_ble_eq_true rfl) ⟨rfl, Or.inl (by decide)⟩ rfl (Nat.le_of_ble_eq_true rfl) (t_206 N (23 : Int32) (18 : Int32) (15 : Int32) (14 : Int32) (7 : Int32) (0 : Int32) (0 : Int32) (0 : Int32) P1) (fun v4 P3 => ?_)
    refine tr_if (fun h62 => ?_) (fun h62 => ?_)
    · refine tr_ifT (cd := .eq) h62 ?_
      refine tr_nil (rows2 := kb_115_48) rfl (List.cons_ne_nil _ _) ?_
      refine tr_blk 9 (pc' := 60) (rows' := kb_115_48.drop 9) (loc' := [.inr (12, 0, 0, 72), ab_top, ab_top]) (st' := [.inl (.int (0 : Int32)), .inl (.int (0 : Int32)), .inl (.int (0 : Int32)), .inl (.int (5 : Int32)), .inl (.int (19 : Int32)), .inl (.int (12 : Int32)), .inl (.int (1 : Int32)), .inl (.int (6 : Int32)), .inr (12, 0, 0, 72)]) (P1 := P3) rfl ⟨trivial, trivial, trivial, trivial, trivial, trivial, trivial, trivial, trivial, trivial⟩ ?_
      refine tr_cWI (z := km_206) (av := [.inr (12, 0, 0, 72), .inl (.int (6 : Int32)), .inl (.int (1 : Int32)), .inl (.int (12 : Int32)), .inl (.int (19 : Int32)), .inl (.int (5 : Int32)), .inl (.int (0 : Int32)), .inl (.int (0 : Int32)), .inl (.int (0 : Int32))]) (st' := []) rfl rfl rfl (Nat.le_of_ble_eq_true rfl) ⟨rfl, Or.inl (by decide)⟩ rfl (Nat.le_of_ble_eq_true rfl) (t_206 N (6 : Int32) (1 : Int32) (12 : Int32) (19 : Int32) (5 : Int32) (0 : Int32) (0 : Int32) (0 : Int32) P3) (fun v6 P5 => ?_)
      refine tr_if (fun h63 => ?_) (fun h63 => ?_)
      · refine tr_ifT (cd := .eq) h63 ?_
        refine tr_nil (rows2 := kb_115_70) rfl (List.cons_ne_nil _ _) ?_
        refine tr_blk 9 (pc' := 85) (rows' := kb_115_70.drop 9) (loc' := [.inr (12, 0, 0, 72), ab_top, ab_top]) (st' := [.inl (.int (20 : Int32)), .inl (.int (19 : Int32)), .inl (.int (5 : Int32)), .inl (.int (18 : Int32)), .inl (.int (5 : Int32)), .inl (.int (20 : Int32)), .inl (.int (14 : Int32)), .inl (.int (9 : Int32)), .inr (12, 0, 0, 72)]) (P1 := P5) rfl ⟨trivial, trivial, trivial, trivial, trivial, trivial, trivial, trivial, trivial, trivial⟩ ?_
        refine tr_cWI (z := km_206) (av := [.inr (12, 0, 0, 72), .inl (.int (9 : Int32)), .inl (.int (14 : Int32)), .inl (.int (20 : Int32)), .inl (.int (5 : Int32)), .inl (.int (18 : Int32)), .inl (.int (5 : Int32)), .inl (.int (19 : Int32)), .inl (.int (20 : Int32))]) (st' := []) rfl rfl rfl (Nat.le_of_ble_eq_true rfl) ⟨rfl, Or.inl (by decide)⟩ rfl (Nat.le_of_ble_eq_true rfl) (t_206 N (9 : Int32) (14 : Int32) (20 : Int32) (5 : Int32) (18 : Int32) (5 : Int32) (19 : Int32) (20 : Int32) P5) (fun v8 P7 => ?_)
        refine tr_if (fun h64 => ?_) (fun h64 => ?_)
        · refine tr_ifT (cd := .eq) h64 ?_
          refine tr_nil (rows2 := kb_115_95) rfl (List.cons_ne_nil _ _) ?_
          refine tr_blk 9 (pc' := 106) (rows' := kb_115_95.drop 9) (loc' := [.inr (12, 0, 0, 72), ab_top, ab_top]) (st' := [.inl (.int (0 : Int32)), .inl (.int (0 : Int32)), .inl (.int (0 : Int32)), .inl (.int (0 : Int32)), .inl (.int (5 : Int32)), .inl (.int (20 : Int32)), .inl (.int (9 : Int32)), .inl (.int (2 : Int32)), .inr (12, 0, 0, 72)]) (P1 := P7) rfl ⟨trivial, trivial, trivial, trivial, trivial, trivial, trivial, trivial, trivial, trivial⟩ ?_
          refine tr_cWI (z := km_206) (av := [.inr (12, 0, 0, 72), .inl (.int (2 : Int32)), .inl (.int (9 : Int32)), .inl (.int (20 : Int32)), .inl (.int (5 : Int32)), .inl (.int (0 : Int32)), .inl (.int (0 : Int32)), .inl (.int (0 : Int32)), .inl (.int (0 : Int32))]) (st' := []) rfl rfl rfl (Nat.le_of_ble_eq_true rfl) ⟨rfl, Or.inl (by decide)⟩ rfl (Nat.le_of_ble_eq_true rfl) (t_206 N (2 : Int32) (9 : Int32) (20 : Int32) (5 : Int32) (0 : Int32) (0 : Int32) (0 : Int32) (0 : Int32) P7) (fun v10 P9 => ?_)
          refine tr_if (fun h65 => ?_) (fun h65 => ?_)
          · refine tr_ifT (cd := .eq) h65 ?_
            refine tr_nil (rows2 := kb_115_116) rfl (List.cons_ne_nil _ _) ?_
            refine tr_blk 1 (pc' := 117) (rows' := kb_115_116.drop 1) (loc' := [.inr (12, 0, 0, 72), ab_top, ab_top]) (st' := [.inl (.int (-1 : Int32))]) (P1 := P9) rfl ⟨trivial, trivial⟩ ?_
            exact t_115_117 N (-1 : Int32) P9
          · refine tr_ifF (cd := .eq) h65 ?_
            refine tr_blk 1 (pc' := 113) (rows' := kb_115_95.drop 12) (loc' := [.inr (12, 0, 0, 72), ab_top, ab_top]) (st' := [.inl (.int (4 : Int32))]) (P1 := P9) rfl ⟨trivial, trivial⟩ ?_
            refine tr_goto ?_
            exact t_115_117 N (4 : Int32) P9
        · refine tr_ifF (cd := .eq) h64 ?_
          refine tr_blk 1 (pc' := 92) (rows' := kb_115_70.drop 12) (loc' := [.inr (12, 0, 0, 72), ab_top, ab_top]) (st' := [.inl (.int (3 : Int32))]) (P1 := P7) rfl ⟨trivial, trivial⟩ ?_
          refine tr_goto ?_
          exact t_115_117 N (3 : Int32) P7
      · refine tr_ifF (cd := .eq) h63 ?_
        refine tr_blk 1 (pc' := 67) (rows' := kb_115_48.drop 12) (loc' := [.inr (12, 0, 0, 72), ab_top, ab_top]) (st' := [.inl (.int (2 : Int32))]) (P1 := P5) rfl ⟨trivial, trivial⟩ ?_
        refine tr_goto ?_
        exact t_115_117 N (2 : Int32) P5
    · refine tr_ifF (cd := .eq) h62 ?_
      refine tr_blk 1 (pc' := 45) (rows' := kb_115_24.drop 12) (loc' := [.inr (12, 0, 0, 72), ab_top, ab_top]) (st' := [.inl (.int (1 : Int32))]) (P1 := P3) rfl ⟨trivial, trivial⟩ ?_
      refine tr_goto ?_
      exact t_115_117 N (1 : Int32) P3
  · refine tr_ifF (cd := .eq) h61 ?_
    refine tr_blk 1 (pc' := 21) (rows' := kb_115_0.drop 12) (loc' := [.inr (12, 0, 0, 72), ab_top, ab_top]) (st' := [.inl (.int (0 : Int32))]) (P1 := P1) rfl ⟨trivial, trivial⟩ ?_
    refine tr_goto ?_
    exact t_115_117 N (0 : Int32) P1
def f_6_71 (N : Nat) (P : ab_P) : Option (Int32 × ab_P) :=
    if (P.1 72 5) = (0 : Int32) then
      ab_lt (ab_pI P 72 3 (-1 : Int32)) fun P9 =>
      Option.bind (f_108 N P9) fun P10 =>
      some ((P10.1 76 1), P10)
    else
    ab_b2 (f_117 P) fun v12 P11 =>
    some (v12, P11)
theorem t_6_71 {xs : Nat × (Nat → Int32)} {d : Nat} (N : Nat) : ∀ (d1 : Int32) (P : ab_P), ab_tr xs wI (d + 5) 6 71 [] [.inr (12, 0, 0, 72), .inl (.int d1)] [] P (f_6_71 N P) := by
  intro d1 P
  unfold f_6_71
  refine tr_nil (rows2 := kb_6_71) rfl (List.cons_ne_nil _ _) ?_
  refine tr_blk 2 (pc' := 75) (rows' := kb_6_71.drop 2) (loc' := [.inr (12, 0, 0, 72), .inl (.int d1)]) (st' := [.inl (.int (P.1 72 5))]) (P1 := P) rfl ⟨trivial, trivial, trivial⟩ ?_
  refine tr_if (fun h13 => ?_) (fun h13 => ?_)
  · refine tr_ifT (cd := .eq) h13 ?_
    refine tr_nil (rows2 := kb_6_83) rfl (List.cons_ne_nil _ _) ?_
    refine tr_blk 3 (pc' := 88) (rows' := kb_6_83.drop 3) (loc' := [.inr (12, 0, 0, 72), .inl (.int d1)]) (st' := []) (P1 := (ab_pI P 72 3 (-1 : Int32))) rfl ⟨trivial, trivial, trivial, trivial⟩ ?_
    refine tr_lt (fun P9 => ?_)
    refine tr_blk 1 (pc' := 89) (rows' := kb_6_83.drop 4) (loc' := [.inr (12, 0, 0, 72), .inl (.int d1)]) (st' := [.inr (12, 0, 0, 72)]) (P1 := P9) rfl ⟨trivial, trivial⟩ ?_
    refine tr_cWV (z := km_108) (av := [.inr (12, 0, 0, 72)]) (st' := []) rfl rfl rfl (Nat.le_of_ble_eq_true rfl) ⟨rfl, Or.inl (by decide)⟩ rfl (Nat.le_of_ble_eq_true rfl) (t_108 N P9) (fun P10 => ?_)
    refine tr_blk 4 (pc' := 98) (rows' := kb_6_83.drop 9) (loc' := [.inr (12, 0, 0, 72), .inl (.int d1)]) (st' := [.inl (.int (P10.1 76 1))]) (P1 := P10) rfl ⟨trivial, trivial, trivial, (ab_vi (by decide)), trivial⟩ ?_
    exact tr_reI (z := km_6) rfl ⟨_, rfl, rfl⟩ rfl
  · refine tr_ifF (cd := .eq) h13 ?_
    refine tr_blk 1 (pc' := 79) (rows' := kb_6_71.drop 4) (loc' := [.inr (12, 0, 0, 72), .inl (.int d1)]) (st' := [.inr (12, 0, 0, 72)]) (P1 := P) rfl ⟨trivial, trivial⟩ ?_
    refine tr_cWI (z := km_117) (av := [.inr (12, 0, 0, 72)]) (st' := []) rfl rfl rfl (Nat.le_of_ble_eq_true rfl) ⟨rfl, Or.inl (by decide)⟩ rfl (Nat.le_of_ble_eq_true rfl) (t_117 P) (fun v12 P11 => ?_)
    exact tr_reI (z := km_6) rfl ⟨_, rfl, rfl⟩ rfl
def f_6_42 (N : Nat) : Nat → ab_P → Option (Int32 × ab_P)
  | 0, _ => none
  | n + 1, P =>
    if (P.1 72 5) = (0 : Int32) then
      if (P.1 72 4) < (P.1 72 2) then
        Option.bind (f_115 N P) fun P7 =>
        Option.bind (f_116 N P7) fun P8 =>
        f_6_42 N n P8
      else
      f_6_71 N P
    else
    f_6_71 N P
theorem t_6_42 {xs : Nat × (Nat → Int32)} {d : Nat} (N : Nat) : ∀ n : Nat, ∀ (d1 : Int32) (P : ab_P), ab_tr xs wI (d + 5) 6 42 [] [.inr (12, 0, 0, 72), .inl (.int d1)] [] P (f_6_42 N n P) := by
  intro n
  induction n with
  | zero => intro d1 P; exact tr_no
  | succ n ih =>
    intro d1 P
    refine tr_nil (rows2 := kb_6_42) rfl (List.cons_ne_nil _ _) ?_
    refine tr_blk 2 (pc' := 46) (rows' := kb_6_42.drop 2) (loc' := [.inr (12, 0, 0, 72), .inl (.int d1)]) (st' := [.inl (.int (P.1 72 5))]) (P1 := P) rfl ⟨trivial, trivial, trivial⟩ ?_
    refine tr_if (fun h14 => ?_) (fun h14 => ?_)
    · refine tr_ifF (cd := .ne) (fun q => q h14) ?_
      refine tr_blk 4 (pc' := 57) (rows' := kb_6_42.drop 7) (loc' := [.inr (12, 0, 0, 72), .inl (.int d1)]) (st' := [.inl (.int (P.1 72 2)), .inl (.int (P.1 72 4))]) (P1 := P) rfl ⟨trivial, trivial, trivial, trivial, trivial⟩ ?_
      refine tr_if (fun h15 => ?_) (fun h15 => ?_)
      · refine tr_icF (cd := .ge) (Int32.not_le.mpr h15) ?_
        refine tr_blk 1 (pc' := 61) (rows' := kb_6_42.drop 9) (loc' := [.inr (12, 0, 0, 72), .inl (.int d1)]) (st' := [.inr (12, 0, 0, 72)]) (P1 := P) rfl ⟨trivial, trivial⟩ ?_
        refine tr_cWV (z := km_115) (av := [.inr (12, 0, 0, 72)]) (st' := []) rfl rfl rfl (Nat.le_of_ble_eq_true rfl) ⟨rfl, Or.inl (by decide)⟩ rfl (Nat.le_of_ble_eq_true rfl) (t_115 N P) (fun P7 => ?_)
        refine tr_blk 1 (pc' := 65) (rows' := kb_6_42.drop 11) (loc' := [.inr (12, 0, 0, 72), .inl (.int d1)]) (st' := [.inr (12, 0, 0, 72)]) (P1 := P7) rfl ⟨trivial, trivial⟩ ?_
        refine tr_cWV (z := km_116) (av := [.inr (12, 0, 0, 72)]) (st' := []) rfl rfl rfl (Nat.le_of_ble_eq_true rfl) ⟨rfl, Or.inl (by decide)⟩ rfl (Nat.le_of_ble_eq_true rfl) (t_116 N P7) (fun P8 => ?_)
        refine tr_goto ?_
        exact ih (d1) P8
      · refine tr_icT (cd := .ge) (Int32.not_lt.mp h15) ?_
        exact t_6_71 N (d1) P
    · refine tr_ifT (cd := .ne) h14 ?_
      exact t_6_71 N (d1) P
def f_6_33 (N : Nat) (x1 : Int32) (P : ab_P) : Option (Int32 × ab_P) :=
    Option.bind (f_114 N x1 P) fun P5 =>
    Option.bind (f_107 P5) fun P6 =>
    f_6_42 N N P6
theorem t_6_33 {xs : Nat × (Nat → Int32)} {d : Nat} (N : Nat) : ∀ (x1 : Int32) (P : ab_P), ab_tr xs wI (d + 5) 6 33 [] [.inr (12, 0, 0, 72), .inl (.int x1)] [] P (f_6_33 N x1 P) := by
  intro x1 P
  unfold f_6_33
  refine tr_nil (rows2 := kb_6_33) rfl (List.cons_ne_nil _ _) ?_
  refine tr_blk 2 (pc' := 35) (rows' := kb_6_33.drop 2) (loc' := [.inr (12, 0, 0, 72), .inl (.int x1)]) (st' := [.inl (.int x1), .inr (12, 0, 0, 72)]) (P1 := P) rfl ⟨trivial, trivial, trivial⟩ ?_
  refine tr_cWV (z := km_114) (av := [.inr (12, 0, 0, 72), .inl (.int x1)]) (st' := []) rfl rfl rfl (Nat.le_of_ble_eq_true rfl) ⟨rfl, Or.inl (by decide)⟩ rfl (Nat.le_of_ble_eq_true rfl) (t_114 N x1 P) (fun P5 => ?_)
  refine tr_blk 1 (pc' := 39) (rows' := kb_6_33.drop 4) (loc' := [.inr (12, 0, 0, 72), .inl (.int x1)]) (st' := [.inr (12, 0, 0, 72)]) (P1 := P5) rfl ⟨trivial, trivial⟩ ?_
  refine tr_cWV (z := km_107) (av := [.inr (12, 0, 0, 72)]) (st' := []) rfl rfl rfl (Nat.le_of_ble_eq_true rfl) ⟨rfl, Or.inl (by decide)⟩ rfl (Nat.le_of_ble_eq_true rfl) (t_107 P5) (fun P6 => ?_)
  exact t_6_42 N N (x1) P6
def f_6_23 (N : Nat) (x1 : Int32) (s0 : Int32) (P : ab_P) : Option (Int32 × ab_P) :=
    ab_b2 (f_113 s0 (1 : Int32) (1 : Int32) P) fun v4 P3 =>
    if v4 = (0 : Int32) then
      f_6_33 N x1 P3
    else
    some ((0 : Int32), P3)
theorem t_6_23 {xs : Nat × (Nat → Int32)} {d : Nat} (N : Nat) : ∀ (x1 : Int32) (s0 : Int32) (P : ab_P), ab_tr xs wI (d + 5) 6 23 [] [.inr (12, 0, 0, 72), .inl (.int x1)] [.inl (.int s0), .inr (12, 0, 0, 72)] P (f_6_23 N x1 s0 P) := by
  intro x1 s0 P
  unfold f_6_23
  refine tr_nil (rows2 := kb_6_23) rfl (List.cons_ne_nil _ _) ?_
  refine tr_blk 2 (pc' := 25) (rows' := kb_6_23.drop 2) (loc' := [.inr (12, 0, 0, 72), .inl (.int x1)]) (st' := [.inl (.int (1 : Int32)), .inl (.int (1 : Int32)), .inl (.int s0), .inr (12, 0, 0, 72)]) (P1 := P) rfl ⟨trivial, trivial, trivial⟩ ?_
  refine tr_cWI (z := km_113) (av := [.inr (12, 0, 0, 72), .inl (.int s0), .inl (.int (1 : Int32)), .inl (.int (1 : Int32))]) (st' := []) rfl rfl rfl (Nat.le_of_ble_eq_true rfl) ⟨rfl, Or.inl (by decide)⟩ rfl (Nat.le_of_ble_eq_true rfl) (t_113 s0 (1 : Int32) (1 : Int32) P) (fun v4 P3 => ?_)
  refine tr_if (fun h16 => ?_) (fun h16 => ?_)
  · refine tr_ifT (cd := .eq) h16 ?_
    exact t_6_33 N x1 P3
  · refine tr_ifF (cd := .eq) h16 ?_
    refine tr_blk 1 (pc' := 32) (rows' := kb_6_23.drop 5) (loc' := [.inr (12, 0, 0, 72), .inl (.int x1)]) (st' := [.inl (.int (0 : Int32))]) (P1 := P3) rfl ⟨trivial, trivial⟩ ?_
    exact tr_reI (z := km_6) rfl ⟨_, rfl, rfl⟩ rfl
def f_6 (N : Nat) (a1 : Int32) (P : ab_P) : Option (Int32 × ab_P) :=
    ab_lt (ab_pI P 72 0 (0 : Int32)) fun P1 =>
    Option.bind (f_112 P1 a1 (0 : Int32) (P1.1 72 1)) fun v2 =>
    if v2 = (0 : Int32) then
      f_6_23 N a1 (1 : Int32) P1
    else
    f_6_23 N a1 (0 : Int32) P1
theorem t_6 {xs : Nat × (Nat → Int32)} {d : Nat} (N : Nat) : ∀ (a1 : Int32) (P : ab_P), ab_tr xs wI (d + 5) 6 0 [] [.inr (12, 0, 0, 72), .inl (.int a1)] [] P (f_6 N a1 P) := by
  intro a1 P
  unfold f_6
  refine tr_nil (rows2 := kb_6_0) rfl (List.cons_ne_nil _ _) ?_
  refine tr_blk 3 (pc' := 5) (rows' := kb_6_0.drop 3) (loc' := [.inr (12, 0, 0, 72), .inl (.int a1)]) (st' := []) (P1 := (ab_pI P 72 0 (0 : Int32))) rfl ⟨trivial, trivial, trivial, trivial⟩ ?_
  refine tr_lt (fun P1 => ?_)
  refine tr_blk 5 (pc' := 12) (rows' := kb_6_0.drop 8) (loc' := [.inr (12, 0, 0, 72), .inl (.int a1)]) (st' := [.inl (.int (P1.1 72 1)), .inl (.int (0 : Int32)), .inl (.int a1), .inr (12, 0, 0, 72)]) (P1 := P1) rfl ⟨trivial, trivial, trivial, trivial, trivial, trivial⟩ ?_
  refine tr_cRI (z := km_112) (av := [.inl (.int a1), .inl (.int (0 : Int32)), .inl (.int (P1.1 72 1))]) (st' := [.inr (12, 0, 0, 72)]) rfl rfl rfl (Nat.le_of_ble_eq_true rfl) trivial rfl (Nat.le_of_ble_eq_true rfl) (t_112 P1 a1 (0 : Int32) (P1.1 72 1)) (fun v2 => ?_)
  refine tr_if (fun h17 => ?_) (fun h17 => ?_)
  · refine tr_ifF (cd := .ne) (fun q => q h17) ?_
    refine tr_blk 1 (pc' := 19) (rows' := kb_6_0.drop 11) (loc' := [.inr (12, 0, 0, 72), .inl (.int a1)]) (st' := [.inl (.int (1 : Int32)), .inr (12, 0, 0, 72)]) (P1 := P1) rfl ⟨trivial, trivial⟩ ?_
    refine tr_goto ?_
    exact t_6_23 N a1 (1 : Int32) P1
  · refine tr_ifT (cd := .ne) h17 ?_
    refine tr_nil (rows2 := kb_6_22) rfl (List.cons_ne_nil _ _) ?_
    refine tr_blk 1 (pc' := 23) (rows' := kb_6_22.drop 1) (loc' := [.inr (12, 0, 0, 72), .inl (.int a1)]) (st' := [.inl (.int (0 : Int32)), .inr (12, 0, 0, 72)]) (P1 := P1) rfl ⟨trivial, trivial⟩ ?_
    exact t_6_23 N a1 (0 : Int32) P1
def f_7 (P : ab_P) : Option Int32 :=
    some (P.1 72 0)
theorem t_7 {xs : Nat × (Nat → Int32)} {d : Nat} (P : ab_P) : ab_tr xs (rI P) (d + 0) 7 0 [] [.inr (12, 0, 0, 72)] [] P (f_7 P) := by
  unfold f_7
  refine tr_nil (rows2 := kb_7_0) rfl (List.cons_ne_nil _ _) ?_
  refine tr_blk 2 (pc' := 4) (rows' := kb_7_0.drop 2) (loc' := [.inr (12, 0, 0, 72)]) (st' := [.inl (.int (P.1 72 0))]) (P1 := P) rfl ⟨trivial, trivial, trivial⟩ ?_
  exact tr_reI (z := km_7) rfl ⟨_, rfl, rfl⟩ rfl
def f_356_1 (P : ab_P) : Option Int32 :=
    some (0 : Int32)
theorem t_356_1 {xs : Nat × (Nat → Int32)} {d : Nat} (P : ab_P) : ab_tr xs (rI P) (d + 0) 356 0 [] [.inr (30, 1, 0, 4)] [] P (f_356_1 P) := by
  unfold f_356_1
  refine tr_nil (rows2 := kb_356_0) rfl (List.cons_ne_nil _ _) ?_
  refine tr_blk 1 (pc' := 3) (rows' := kb_356_0.drop 1) (loc' := [.inr (30, 1, 0, 4)]) (st' := [.inl (.int (1 : Int32))]) (P1 := P) rfl ⟨trivial, trivial⟩ ?_
  refine tr_ifF (cd := .eq) (ab_cdF (by decide)) ?_
  refine tr_blk 2 (pc' := 10) (rows' := kb_356_0.drop 4) (loc' := [.inr (30, 1, 0, 4)]) (st' := [.inl (.int (0 : Int32))]) (P1 := P) rfl ⟨trivial, trivial, trivial⟩ ?_
  refine tr_goto ?_
  refine tr_nil (rows2 := kb_356_14) rfl (List.cons_ne_nil _ _) ?_
  exact tr_reI (z := km_356) rfl ⟨_, rfl, rfl⟩ rfl
def f_354_1 (P : ab_P) : Option Int32 :=
    Option.bind (f_356_1 P) fun v1 =>
    some ((52 : Int32) >>> (v1 &&& 31))
theorem t_354_1 {xs : Nat × (Nat → Int32)} {d : Nat} (P : ab_P) : ab_tr xs (rI P) (d + 1) 354 0 [] [.inr (30, 1, 0, 4)] [] P (f_354_1 P) := by
  unfold f_354_1
  refine tr_nil (rows2 := kb_354_0) rfl (List.cons_ne_nil _ _) ?_
  refine tr_blk 4 (pc' := 6) (rows' := kb_354_0.drop 4) (loc' := [.inr (30, 1, 0, 4)]) (st' := [.inr (30, 1, 0, 4), .inl (.int (52 : Int32))]) (P1 := P) rfl ⟨trivial, trivial, (Or.inr (Or.inr (Or.inr (by decide)))), trivial, trivial⟩ ?_
  refine tr_cRI (z := km_356) (av := [.inr (30, 1, 0, 4)]) (st' := [.inl (.int (52 : Int32))]) rfl rfl rfl (Nat.le_of_ble_eq_true rfl) ⟨rfl, Or.inr (by decide)⟩ rfl (Nat.le_of_ble_eq_true rfl) (t_356_1 P) (fun v1 => ?_)
  refine tr_blk 1 (pc' := 10) (rows' := kb_354_0.drop 6) (loc' := [.inr (30, 1, 0, 4)]) (st' := [.inl (.int ((52 : Int32) >>> (v1 &&& 31)))]) (P1 := P) rfl ⟨trivial, trivial⟩ ?_
  exact tr_reI (z := km_354) rfl ⟨_, rfl, rfl⟩ rfl
def f_357_1 (P : ab_P) : Option Int32 :=
    some (1 : Int32)
theorem t_357_1 {xs : Nat × (Nat → Int32)} {d : Nat} (P : ab_P) : ab_tr xs (rI P) (d + 0) 357 0 [] [.inr (30, 1, 0, 4)] [] P (f_357_1 P) := by
  unfold f_357_1
  refine tr_nil (rows2 := kb_357_0) rfl (List.cons_ne_nil _ _) ?_
  refine tr_blk 1 (pc' := 3) (rows' := kb_357_0.drop 1) (loc' := [.inr (30, 1, 0, 4)]) (st' := [.inl (.int (1 : Int32))]) (P1 := P) rfl ⟨trivial, trivial⟩ ?_
  refine tr_ifF (cd := .eq) (ab_cdF (by decide)) ?_
  refine tr_blk 2 (pc' := 10) (rows' := kb_357_0.drop 4) (loc' := [.inr (30, 1, 0, 4)]) (st' := [.inl (.int (0 : Int32))]) (P1 := P) rfl ⟨trivial, trivial, trivial⟩ ?_
  refine tr_ifF (cd := .ne) (ab_cdF (by decide)) ?_
  refine tr_blk 1 (pc' := 14) (rows' := kb_357_0.drop 6) (loc' := [.inr (30, 1, 0, 4)]) (st' := [.inl (.int (1 : Int32))]) (P1 := P) rfl ⟨trivial, trivial⟩ ?_
  refine tr_goto ?_
  refine tr_nil (rows2 := kb_357_18) rfl (List.cons_ne_nil _ _) ?_
  exact tr_reI (z := km_357) rfl ⟨_, rfl, rfl⟩ rfl
def f_358_1 (P : ab_P) (a1 : Int32) : Option Int32 :=
    if (¬ a1 < 0 ∧ a1 < (52 : Int32)) then
    if ab_gi a1 52 then
    if vp_nar .char ((((ab_txc 1 a1.toNatClampNeg) &&& (255 : Int32))).toUInt32 % 65536).toInt32 = ((((ab_txc 1 a1.toNatClampNeg) &&& (255 : Int32))).toUInt32 % 65536).toInt32 then
    some ((((ab_txc 1 a1.toNatClampNeg) &&& (255 : Int32))).toUInt32 % 65536).toInt32
    else none
    else none
    else none
theorem t_358_1 {xs : Nat × (Nat → Int32)} {d : Nat} (P : ab_P) : ∀ (a1 : Int32), ab_tr xs (rI P) (d + 0) 358 0 [] [.inr (33, 52, 1, 5), .inl (.int a1)] [] P (f_358_1 P a1) := by
  intro a1
  unfold f_358_1
  refine tr_nil (rows2 := kb_358_0) rfl (List.cons_ne_nil _ _) ?_
  refine tr_gd (fun h1 => ?_)
  refine tr_gd (fun h2 => ?_)
  refine tr_gd (fun h3 => ?_)
  refine tr_blk 10 (pc' := 14) (rows' := kb_358_0.drop 10) (loc' := [.inr (33, 52, 1, 5), .inl (.int a1)]) (st' := [.inl (.int ((((ab_txc 1 a1.toNatClampNeg) &&& (255 : Int32))).toUInt32 % 65536).toInt32)]) (P1 := P) rfl ⟨trivial, trivial, (Or.inr (Or.inr (Or.inr (by decide)))), ⟨h1, Nat.le_of_ble_eq_true rfl⟩, trivial, trivial, ⟨h2, rfl, rfl, by decide⟩, trivial, trivial, trivial, trivial⟩ ?_
  exact tr_reI (z := km_358) rfl ⟨_, rfl, ab_nar (by decide) h3⟩ rfl
def f_355_1 (P : ab_P) (a1 : Int32) : Option Int32 :=
    Option.bind (f_357_1 P) fun v1 =>
    if v1 = (0 : Int32) then
      none
    else
    Option.bind (f_358_1 P a1) fun v2 =>
    if vp_nar .char v2 = v2 then
    some v2
    else none
theorem t_355_1 {xs : Nat × (Nat → Int32)} {d : Nat} (P : ab_P) : ∀ (a1 : Int32), ab_tr xs (rI P) (d + 1) 355 0 [] [.inr (30, 1, 0, 4), .inl (.int a1)] [] P (f_355_1 P a1) := by
  intro a1
  unfold f_355_1
  refine tr_nil (rows2 := kb_355_0) rfl (List.cons_ne_nil _ _) ?_
  refine tr_blk 1 (pc' := 1) (rows' := kb_355_0.drop 1) (loc' := [.inr (30, 1, 0, 4), .inl (.int a1)]) (st' := [.inr (30, 1, 0, 4)]) (P1 := P) rfl ⟨trivial, trivial⟩ ?_
  refine tr_cRI (z := km_357) (av := [.inr (30, 1, 0, 4)]) (st' := []) rfl rfl rfl (Nat.le_of_ble_eq_true rfl) ⟨rfl, Or.inr (by decide)⟩ rfl (Nat.le_of_ble_eq_true rfl) (t_357_1 P) (fun v1 => ?_)
  refine tr_if (fun h4 => ?_) (fun h4 => ?_)
  · refine tr_ifT (cd := .eq) h4 ?_
    refine tr_nil (rows2 := kb_355_16) rfl (List.cons_ne_nil _ _) ?_
    refine tr_blk 3 (pc' := 21) (rows' := kb_355_16.drop 3) (loc' := [.inr (30, 1, 0, 4), .inl (.int a1)]) (st' := [.inl (.int a1), .inr (33, 52, 1, 5)]) (P1 := P) rfl ⟨trivial, trivial, trivial, trivial⟩ ?_
    exact tr_no
  · refine tr_ifF (cd := .eq) h4 ?_
    refine tr_blk 3 (pc' := 12) (rows' := kb_355_0.drop 6) (loc' := [.inr (30, 1, 0, 4), .inl (.int a1)]) (st' := [.inl (.int a1), .inr (33, 52, 1, 5)]) (P1 := P) rfl ⟨trivial, trivial, trivial, trivial⟩ ?_
    refine tr_cRI (z := km_358) (av := [.inr (33, 52, 1, 5), .inl (.int a1)]) (st' := []) rfl rfl rfl (Nat.le_of_ble_eq_true rfl) trivial rfl (Nat.le_of_ble_eq_true rfl) (t_358_1 P a1) (fun v2 => ?_)
    refine tr_gd (fun h3 => ?_)
    exact tr_reI (z := km_355) rfl ⟨_, rfl, ab_nar (by decide) h3⟩ rfl
def f_349_1_43 (P : ab_P) (H14 : Int32 → Int32 → Int32 → Int32 → Int32 → Option Int32) (x2 : Int32) (x3 : Int32) (x4 : Int32) (x5 : Int32) (x6 : Int32) (s0 : Int32) : Option Int32 :=
    if s0 = (32 : Int32) then
      if x5 = (0 : Int32) then
        H14 x2 (x3 + 1) (P.1 1 4) (1 : Int32) (x6 + 1)
      else
      if x4 = x2 then
        some x3
      else
      H14 x2 (x3 + 1) (P.1 1 4) (1 : Int32) (x6 + 1)
    else
    if x5 = (0 : Int32) then
      H14 x2 x3 (x4 + 1) (0 : Int32) (x6 + 1)
    else
    if x4 < x2 then
      Option.bind (f_347 P x4) fun v4 =>
      if v4 = s0 then
        H14 x2 x3 (x4 + 1) (1 : Int32) (x6 + 1)
      else
      H14 x2 x3 (x4 + 1) (0 : Int32) (x6 + 1)
    else
    H14 x2 x3 (x4 + 1) (0 : Int32) (x6 + 1)
theorem t_349_1_43 {xs : Nat × (Nat → Int32)} {d : Nat} (P : ab_P) (H14 : Int32 → Int32 → Int32 → Int32 → Int32 → Option Int32) (hH14 : ∀ (x2 : Int32) (x3 : Int32) (x4 : Int32) (x5 : Int32) (x6 : Int32) (d7 : ab_V), ab_tr xs (rI P) (d + 2) 349 14 [] [.inr (9, 0, 0, 1), .inr (30, 1, 0, 4), .inl (.int x2), .inl (.int x3), .inl (.int x4), .inl (.int x5), .inl (.int x6), d7] [] P (H14 x2 x3 x4 x5 x6)) : ∀ (x2 : Int32) (x3 : Int32) (x4 : Int32) (x5 : Int32) (x6 : Int32) (s0 : Int32) (d7 : ab_V), ab_tr xs (rI P) (d + 2) 349 43 [] [.inr (9, 0, 0, 1), .inr (30, 1, 0, 4), .inl (.int x2), .inl (.int x3), .inl (.int x4), .inl (.int x5), .inl (.int x6), d7] [.inl (.int s0)] P (f_349_1_43 P H14 x2 x3 x4 x5 x6 s0) := by
  intro x2 x3 x4 x5 x6 s0 d7
  unfold f_349_1_43
  refine tr_nil (rows2 := kb_349_43) rfl (List.cons_ne_nil _ _) ?_
  refine tr_blk 3 (pc' := 49) (rows' := kb_349_43.drop 3) (loc' := [.inr (9, 0, 0, 1), .inr (30, 1, 0, 4), .inl (.int x2), .inl (.int x3), .inl (.int x4), .inl (.int x5), .inl (.int x6), .inl (.int s0)]) (st' := [.inl (.int (32 : Int32)), .inl (.int s0)]) (P1 := P) rfl ⟨trivial, trivial, trivial, trivial⟩ ?_
  refine tr_if (fun h5 => ?_) (fun h5 => ?_)
  · refine tr_icT (cd := .eq) h5 ?_
    refine tr_nil (rows2 := kb_349_87) rfl (List.cons_ne_nil _ _) ?_
    refine tr_blk 1 (pc' := 89) (rows' := kb_349_87.drop 1) (loc' := [.inr (9, 0, 0, 1), .inr (30, 1, 0, 4), .inl (.int x2), .inl (.int x3), .inl (.int x4), .inl (.int x5), .inl (.int x6), .inl (.int s0)]) (st' := [.inl (.int x5)]) (P1 := P) rfl ⟨trivial, trivial⟩ ?_
    refine tr_if (fun h6 => ?_) (fun h6 => ?_)
    · refine tr_ifT (cd := .eq) h6 ?_
      refine tr_nil (rows2 := kb_349_100) rfl (List.cons_ne_nil _ _) ?_
      refine tr_blk 6 (pc' := 112) (rows' := kb_349_100.drop 6) (loc' := [.inr (9, 0, 0, 1), .inr (30, 1, 0, 4), .inl (.int x2), .inl (.int (x3 + 1)), .inl (.int (P.1 1 4)), .inl (.int (1 : Int32)), .inl (.int x6), .inl (.int s0)]) (st' := []) (P1 := P) rfl ⟨trivial, trivial, trivial, trivial, trivial, trivial, trivial⟩ ?_
      refine tr_nil (rows2 := kb_349_112) rfl (List.cons_ne_nil _ _) ?_
      refine tr_blk 1 (pc' := 115) (rows' := kb_349_112.drop 1) (loc' := [.inr (9, 0, 0, 1), .inr (30, 1, 0, 4), .inl (.int x2), .inl (.int (x3 + 1)), .inl (.int (P.1 1 4)), .inl (.int (1 : Int32)), .inl (.int (x6 + 1)), .inl (.int s0)]) (st' := []) (P1 := P) rfl ⟨trivial, trivial⟩ ?_
      refine tr_goto ?_
      exact hH14 x2 (x3 + 1) (P.1 1 4) (1 : Int32) (x6 + 1) (.inl (.int s0))
    · refine tr_ifF (cd := .eq) h6 ?_
      refine tr_blk 2 (pc' := 95) (rows' := kb_349_87.drop 4) (loc' := [.inr (9, 0, 0, 1), .inr (30, 1, 0, 4), .inl (.int x2), .inl (.int x3), .inl (.int x4), .inl (.int x5), .inl (.int x6), .inl (.int s0)]) (st' := [.inl (.int x2), .inl (.int x4)]) (P1 := P) rfl ⟨trivial, trivial, trivial⟩ ?_
      refine tr_if (fun h7 => ?_) (fun h7 => ?_)
      · refine tr_icF (cd := .ne) (fun q => q h7) ?_
        refine tr_blk 1 (pc' := 99) (rows' := kb_349_87.drop 6) (loc' := [.inr (9, 0, 0, 1), .inr (30, 1, 0, 4), .inl (.int x2), .inl (.int x3), .inl (.int x4), .inl (.int x5), .inl (.int x6), .inl (.int s0)]) (st' := [.inl (.int x3)]) (P1 := P) rfl ⟨trivial, trivial⟩ ?_
        exact tr_reI (z := km_349) rfl ⟨_, rfl, rfl⟩ rfl
      · refine tr_icT (cd := .ne) h7 ?_
        refine tr_nil (rows2 := kb_349_100) rfl (List.cons_ne_nil _ _) ?_
        refine tr_blk 6 (pc' := 112) (rows' := kb_349_100.drop 6) (loc' := [.inr (9, 0, 0, 1), .inr (30, 1, 0, 4), .inl (.int x2), .inl (.int (x3 + 1)), .inl (.int (P.1 1 4)), .inl (.int (1 : Int32)), .inl (.int x6), .inl (.int s0)]) (st' := []) (P1 := P) rfl ⟨trivial, trivial, trivial, trivial, trivial, trivial, trivial⟩ ?_
        refine tr_nil (rows2 := kb_349_112) rfl (List.cons_ne_nil _ _) ?_
        refine tr_blk 1 (pc' := 115) (rows' := kb_349_112.drop 1) (loc' := [.inr (9, 0, 0, 1), .inr (30, 1, 0, 4), .inl (.int x2), .inl (.int (x3 + 1)), .inl (.int (P.1 1 4)), .inl (.int (1 : Int32)), .inl (.int (x6 + 1)), .inl (.int s0)]) (st' := []) (P1 := P) rfl ⟨trivial, trivial⟩ ?_
        refine tr_goto ?_
        exact hH14 x2 (x3 + 1) (P.1 1 4) (1 : Int32) (x6 + 1) (.inl (.int s0))
  · refine tr_icF (cd := .eq) h5 ?_
    refine tr_blk 1 (pc' := 54) (rows' := kb_349_43.drop 5) (loc' := [.inr (9, 0, 0, 1), .inr (30, 1, 0, 4), .inl (.int x2), .inl (.int x3), .inl (.int x4), .inl (.int x5), .inl (.int x6), .inl (.int s0)]) (st' := [.inl (.int x5)]) (P1 := P) rfl ⟨trivial, trivial⟩ ?_
    refine tr_if (fun h8 => ?_) (fun h8 => ?_)
    · refine tr_ifT (cd := .eq) h8 ?_
      refine tr_nil (rows2 := kb_349_78) rfl (List.cons_ne_nil _ _) ?_
      refine tr_blk 1 (pc' := 79) (rows' := kb_349_78.drop 1) (loc' := [.inr (9, 0, 0, 1), .inr (30, 1, 0, 4), .inl (.int x2), .inl (.int x3), .inl (.int x4), .inl (.int x5), .inl (.int x6), .inl (.int s0)]) (st' := [.inl (.int (0 : Int32))]) (P1 := P) rfl ⟨trivial, trivial⟩ ?_
      refine tr_nil (rows2 := kb_349_79) rfl (List.cons_ne_nil _ _) ?_
      refine tr_blk 2 (pc' := 84) (rows' := kb_349_79.drop 2) (loc' := [.inr (9, 0, 0, 1), .inr (30, 1, 0, 4), .inl (.int x2), .inl (.int x3), .inl (.int (x4 + 1)), .inl (.int (0 : Int32)), .inl (.int x6), .inl (.int s0)]) (st' := []) (P1 := P) rfl ⟨trivial, trivial, trivial⟩ ?_
      refine tr_goto ?_
      refine tr_nil (rows2 := kb_349_112) rfl (List.cons_ne_nil _ _) ?_
      refine tr_blk 1 (pc' := 115) (rows' := kb_349_112.drop 1) (loc' := [.inr (9, 0, 0, 1), .inr (30, 1, 0, 4), .inl (.int x2), .inl (.int x3), .inl (.int (x4 + 1)), .inl (.int (0 : Int32)), .inl (.int (x6 + 1)), .inl (.int s0)]) (st' := []) (P1 := P) rfl ⟨trivial, trivial⟩ ?_
      refine tr_goto ?_
      exact hH14 x2 x3 (x4 + 1) (0 : Int32) (x6 + 1) (.inl (.int s0))
    · refine tr_ifF (cd := .eq) h8 ?_
      refine tr_blk 2 (pc' := 60) (rows' := kb_349_43.drop 8) (loc' := [.inr (9, 0, 0, 1), .inr (30, 1, 0, 4), .inl (.int x2), .inl (.int x3), .inl (.int x4), .inl (.int x5), .inl (.int x6), .inl (.int s0)]) (st' := [.inl (.int x2), .inl (.int x4)]) (P1 := P) rfl ⟨trivial, trivial, trivial⟩ ?_
      refine tr_if (fun h9 => ?_) (fun h9 => ?_)
      · refine tr_icF (cd := .ge) (Int32.not_le.mpr h9) ?_
        refine tr_blk 2 (pc' := 66) (rows' := kb_349_43.drop 11) (loc' := [.inr (9, 0, 0, 1), .inr (30, 1, 0, 4), .inl (.int x2), .inl (.int x3), .inl (.int x4), .inl (.int x5), .inl (.int x6), .inl (.int s0)]) (st' := [.inl (.int x4), .inr (9, 0, 0, 1)]) (P1 := P) rfl ⟨trivial, trivial, trivial⟩ ?_
        refine tr_cRI (z := km_347) (av := [.inr (9, 0, 0, 1), .inl (.int x4)]) (st' := []) rfl rfl rfl (Nat.le_of_ble_eq_true rfl) ⟨rfl, Or.inl (by decide)⟩ rfl (Nat.le_of_ble_eq_true rfl) (t_347 P x4) (fun v4 => ?_)
        refine tr_blk 1 (pc' := 71) (rows' := kb_349_43.drop 13) (loc' := [.inr (9, 0, 0, 1), .inr (30, 1, 0, 4), .inl (.int x2), .inl (.int x3), .inl (.int x4), .inl (.int x5), .inl (.int x6), .inl (.int s0)]) (st' := [.inl (.int s0), .inl (.int v4)]) (P1 := P) rfl ⟨trivial, trivial⟩ ?_
        refine tr_if (fun h10 => ?_) (fun h10 => ?_)
        · refine tr_icF (cd := .ne) (fun q => q h10) ?_
          refine tr_blk 1 (pc' := 75) (rows' := kb_349_43.drop 15) (loc' := [.inr (9, 0, 0, 1), .inr (30, 1, 0, 4), .inl (.int x2), .inl (.int x3), .inl (.int x4), .inl (.int x5), .inl (.int x6), .inl (.int s0)]) (st' := [.inl (.int (1 : Int32))]) (P1 := P) rfl ⟨trivial, trivial⟩ ?_
          refine tr_goto ?_
          refine tr_nil (rows2 := kb_349_79) rfl (List.cons_ne_nil _ _) ?_
          refine tr_blk 2 (pc' := 84) (rows' := kb_349_79.drop 2) (loc' := [.inr (9, 0, 0, 1), .inr (30, 1, 0, 4), .inl (.int x2), .inl (.int x3), .inl (.int (x4 + 1)), .inl (.int (1 : Int32)), .inl (.int x6), .inl (.int s0)]) (st' := []) (P1 := P) rfl ⟨trivial, trivial, trivial⟩ ?_
          refine tr_goto ?_
          refine tr_nil (rows2 := kb_349_112) rfl (List.cons_ne_nil _ _) ?_
          refine tr_blk 1 (pc' := 115) (rows' := kb_349_112.drop 1) (loc' := [.inr (9, 0, 0, 1), .inr (30, 1, 0, 4), .inl (.int x2), .inl (.int x3), .inl (.int (x4 + 1)), .inl (.int (1 : Int32)), .inl (.int (x6 + 1)), .inl (.int s0)]) (st' := []) (P1 := P) rfl ⟨trivial, trivial⟩ ?_
          refine tr_goto ?_
          exact hH14 x2 x3 (x4 + 1) (1 : Int32) (x6 + 1) (.inl (.int s0))
        · refine tr_icT (cd := .ne) h10 ?_
          refine tr_nil (rows2 := kb_349_78) rfl (List.cons_ne_nil _ _) ?_
          refine tr_blk 1 (pc' := 79) (rows' := kb_349_78.drop 1) (loc' := [.inr (9, 0, 0, 1), .inr (30, 1, 0, 4), .inl (.int x2), .inl (.int x3), .inl (.int x4), .inl (.int x5), .inl (.int x6), .inl (.int s0)]) (st' := [.inl (.int (0 : Int32))]) (P1 := P) rfl ⟨trivial, trivial⟩ ?_
          refine tr_nil (rows2 := kb_349_79) rfl (List.cons_ne_nil _ _) ?_
          refine tr_blk 2 (pc' := 84) (rows' := kb_349_79.drop 2) (loc' := [.inr (9, 0, 0, 1), .inr (30, 1, 0, 4), .inl (.int x2), .inl (.int x3), .inl (.int (x4 + 1)), .inl (.int (0 : Int32)), .inl (.int x6), .inl (.int s0)]) (st' := []) (P1 := P) rfl ⟨trivial, trivial, trivial⟩ ?_
          refine tr_goto ?_
          refine tr_nil (rows2 := kb_349_112) rfl (List.cons_ne_nil _ _) ?_
          refine tr_blk 1 (pc' := 115) (rows' := kb_349_112.drop 1) (loc' := [.inr (9, 0, 0, 1), .inr (30, 1, 0, 4), .inl (.int x2), .inl (.int x3), .inl (.int (x4 + 1)), .inl (.int (0 : Int32)), .inl (.int (x6 + 1)), .inl (.int s0)]) (st' := []) (P1 := P) rfl ⟨trivial, trivial⟩ ?_
          refine tr_goto ?_
          exact hH14 x2 x3 (x4 + 1) (0 : Int32) (x6 + 1) (.inl (.int s0))
      · refine tr_icT (cd := .ge) (Int32.not_lt.mp h9) ?_
        refine tr_nil (rows2 := kb_349_78) rfl (List.cons_ne_nil _ _) ?_
        refine tr_blk 1 (pc' := 79) (rows' := kb_349_78.drop 1) (loc' := [.inr (9, 0, 0, 1), .inr (30, 1, 0, 4), .inl (.int x2), .inl (.int x3), .inl (.int x4), .inl (.int x5), .inl (.int x6), .inl (.int s0)]) (st' := [.inl (.int (0 : Int32))]) (P1 := P) rfl ⟨trivial, trivial⟩ ?_
        refine tr_nil (rows2 := kb_349_79) rfl (List.cons_ne_nil _ _) ?_
        refine tr_blk 2 (pc' := 84) (rows' := kb_349_79.drop 2) (loc' := [.inr (9, 0, 0, 1), .inr (30, 1, 0, 4), .inl (.int x2), .inl (.int x3), .inl (.int (x4 + 1)), .inl (.int (0 : Int32)), .inl (.int x6), .inl (.int s0)]) (st' := []) (P1 := P) rfl ⟨trivial, trivial, trivial⟩ ?_
        refine tr_goto ?_
        refine tr_nil (rows2 := kb_349_112) rfl (List.cons_ne_nil _ _) ?_
        refine tr_blk 1 (pc' := 115) (rows' := kb_349_112.drop 1) (loc' := [.inr (9, 0, 0, 1), .inr (30, 1, 0, 4), .inl (.int x2), .inl (.int x3), .inl (.int (x4 + 1)), .inl (.int (0 : Int32)), .inl (.int (x6 + 1)), .inl (.int s0)]) (st' := []) (P1 := P) rfl ⟨trivial, trivial⟩ ?_
        refine tr_goto ?_
        exact hH14 x2 x3 (x4 + 1) (0 : Int32) (x6 + 1) (.inl (.int s0))
def f_349_1_14 (P : ab_P) : Nat → Int32 → Int32 → Int32 → Int32 → Int32 → Option Int32
  | 0, _, _, _, _, _ => none
  | n + 1, x2, x3, x4, x5, x6 =>
    Option.bind (f_354_1 P) fun v1 =>
    if v1 < x6 then
      some (-1 : Int32)
    else
    Option.bind (f_354_1 P) fun v2 =>
    if x6 < v2 then
      Option.bind (f_355_1 P x6) fun v3 =>
      f_349_1_43 P (fun y0 y1 y2 y3 y4 => f_349_1_14 P n y0 y1 y2 y3 y4) x2 x3 x4 x5 x6 v3
    else
    f_349_1_43 P (fun y0 y1 y2 y3 y4 => f_349_1_14 P n y0 y1 y2 y3 y4) x2 x3 x4 x5 x6 (32 : Int32)
theorem t_349_1_14 {xs : Nat × (Nat → Int32)} {d : Nat} (P : ab_P) : ∀ n : Nat, ∀ (x2 : Int32) (x3 : Int32) (x4 : Int32) (x5 : Int32) (x6 : Int32) (d7 : ab_V), ab_tr xs (rI P) (d + 2) 349 14 [] [.inr (9, 0, 0, 1), .inr (30, 1, 0, 4), .inl (.int x2), .inl (.int x3), .inl (.int x4), .inl (.int x5), .inl (.int x6), d7] [] P (f_349_1_14 P n x2 x3 x4 x5 x6) := by
  intro n
  induction n with
  | zero => intro x2 x3 x4 x5 x6 d7; exact tr_no
  | succ n ih =>
    intro x2 x3 x4 x5 x6 d7
    refine tr_nil (rows2 := kb_349_14) rfl (List.cons_ne_nil _ _) ?_
    refine tr_blk 2 (pc' := 17) (rows' := kb_349_14.drop 2) (loc' := [.inr (9, 0, 0, 1), .inr (30, 1, 0, 4), .inl (.int x2), .inl (.int x3), .inl (.int x4), .inl (.int x5), .inl (.int x6), d7]) (st' := [.inr (30, 1, 0, 4), .inl (.int x6)]) (P1 := P) rfl ⟨trivial, trivial, trivial⟩ ?_
    refine tr_cRI (z := km_354) (av := [.inr (30, 1, 0, 4)]) (st' := [.inl (.int x6)]) rfl rfl rfl (Nat.le_of_ble_eq_true rfl) ⟨rfl, Or.inr (by decide)⟩ rfl (Nat.le_of_ble_eq_true rfl) (t_354_1 P) (fun v1 => ?_)
    refine tr_if (fun h11 => ?_) (fun h11 => ?_)
    · refine tr_icT (cd := .gt) h11 ?_
      refine tr_nil (rows2 := kb_349_118) rfl (List.cons_ne_nil _ _) ?_
      refine tr_blk 1 (pc' := 119) (rows' := kb_349_118.drop 1) (loc' := [.inr (9, 0, 0, 1), .inr (30, 1, 0, 4), .inl (.int x2), .inl (.int x3), .inl (.int x4), .inl (.int x5), .inl (.int x6), d7]) (st' := [.inl (.int (-1 : Int32))]) (P1 := P) rfl ⟨trivial, trivial⟩ ?_
      exact tr_reI (z := km_349) rfl ⟨_, rfl, rfl⟩ rfl
    · refine tr_icF (cd := .gt) h11 ?_
      refine tr_blk 2 (pc' := 26) (rows' := kb_349_14.drop 6) (loc' := [.inr (9, 0, 0, 1), .inr (30, 1, 0, 4), .inl (.int x2), .inl (.int x3), .inl (.int x4), .inl (.int x5), .inl (.int x6), d7]) (st' := [.inr (30, 1, 0, 4), .inl (.int x6)]) (P1 := P) rfl ⟨trivial, trivial, trivial⟩ ?_
      refine tr_cRI (z := km_354) (av := [.inr (30, 1, 0, 4)]) (st' := [.inl (.int x6)]) rfl rfl rfl (Nat.le_of_ble_eq_true rfl) ⟨rfl, Or.inr (by decide)⟩ rfl (Nat.le_of_ble_eq_true rfl) (t_354_1 P) (fun v2 => ?_)
      refine tr_if (fun h12 => ?_) (fun h12 => ?_)
      · refine tr_icF (cd := .ge) (Int32.not_le.mpr h12) ?_
        refine tr_blk 2 (pc' := 35) (rows' := kb_349_14.drop 10) (loc' := [.inr (9, 0, 0, 1), .inr (30, 1, 0, 4), .inl (.int x2), .inl (.int x3), .inl (.int x4), .inl (.int x5), .inl (.int x6), d7]) (st' := [.inl (.int x6), .inr (30, 1, 0, 4)]) (P1 := P) rfl ⟨trivial, trivial, trivial⟩ ?_
        refine tr_cRI (z := km_355) (av := [.inr (30, 1, 0, 4), .inl (.int x6)]) (st' := []) rfl rfl rfl (Nat.le_of_ble_eq_true rfl) ⟨rfl, Or.inr (by decide)⟩ rfl (Nat.le_of_ble_eq_true rfl) (t_355_1 P x6) (fun v3 => ?_)
        refine tr_goto ?_
        exact t_349_1_43 P _ ih x2 x3 x4 x5 x6 v3 (d7)
      · refine tr_icT (cd := .ge) (Int32.not_lt.mp h12) ?_
        refine tr_nil (rows2 := kb_349_41) rfl (List.cons_ne_nil _ _) ?_
        refine tr_blk 1 (pc' := 43) (rows' := kb_349_41.drop 1) (loc' := [.inr (9, 0, 0, 1), .inr (30, 1, 0, 4), .inl (.int x2), .inl (.int x3), .inl (.int x4), .inl (.int x5), .inl (.int x6), d7]) (st' := [.inl (.int (32 : Int32))]) (P1 := P) rfl ⟨trivial, trivial⟩ ?_
        exact t_349_1_43 P _ ih x2 x3 x4 x5 x6 (32 : Int32) (d7)
def f_349_1 (N : Nat) (P : ab_P) (a2 : Int32) : Option Int32 :=
    f_349_1_14 P N a2 (0 : Int32) (P.1 1 4) (1 : Int32) (0 : Int32)
theorem t_349_1 {xs : Nat × (Nat → Int32)} {d : Nat} (N : Nat) (P : ab_P) : ∀ (a2 : Int32), ab_tr xs (rI P) (d + 2) 349 0 [] [.inr (9, 0, 0, 1), .inr (30, 1, 0, 4), .inl (.int a2), ab_top, ab_top, ab_top, ab_top, ab_top] [] P (f_349_1 N P a2) := by
  intro a2
  unfold f_349_1
  refine tr_nil (rows2 := kb_349_0) rfl (List.cons_ne_nil _ _) ?_
  refine tr_blk 9 (pc' := 14) (rows' := kb_349_0.drop 9) (loc' := [.inr (9, 0, 0, 1), .inr (30, 1, 0, 4), .inl (.int a2), .inl (.int (0 : Int32)), .inl (.int (P.1 1 4)), .inl (.int (1 : Int32)), .inl (.int (0 : Int32)), ab_top]) (st' := []) (P1 := P) rfl ⟨trivial, trivial, trivial, trivial, trivial, trivial, trivial, trivial, trivial, trivial⟩ ?_
  exact t_349_1_14 P N a2 (0 : Int32) (P.1 1 4) (1 : Int32) (0 : Int32) (ab_top)
def f_320_1_79 (x2 : Int32) (s0 : Int32) (P : ab_P) : Option (Int32 × ab_P) :=
    if s0 = (-1 : Int32) then
      Option.bind (f_290 (1 : Int32) (P.1 1 4) P) fun P8 =>
      some (s0, P8)
    else
    ab_lt (ab_pI P 1 3 x2) fun P7 =>
    some (s0, P7)
theorem t_320_1_79 {xs : Nat × (Nat → Int32)} {d : Nat} : ∀ (x2 : Int32) (s0 : Int32) (d3 : Int32) (P : ab_P), ab_tr xs wI (d + 3) 320 79 [] [.inr (9, 0, 0, 1), .inr (30, 1, 0, 4), .inl (.int x2), .inl (.int d3)] [.inl (.int s0)] P (f_320_1_79 x2 s0 P) := by
  intro x2 s0 d3 P
  unfold f_320_1_79
  refine tr_nil (rows2 := kb_320_79) rfl (List.cons_ne_nil _ _) ?_
  refine tr_blk 3 (pc' := 82) (rows' := kb_320_79.drop 3) (loc' := [.inr (9, 0, 0, 1), .inr (30, 1, 0, 4), .inl (.int x2), .inl (.int s0)]) (st' := [.inl (.int (-1 : Int32)), .inl (.int s0)]) (P1 := P) rfl ⟨trivial, trivial, trivial, trivial⟩ ?_
  refine tr_if (fun h9 => ?_) (fun h9 => ?_)
  · refine tr_icF (cd := .ne) (fun q => q h9) ?_
    refine tr_blk 4 (pc' := 91) (rows' := kb_320_79.drop 8) (loc' := [.inr (9, 0, 0, 1), .inr (30, 1, 0, 4), .inl (.int x2), .inl (.int s0)]) (st' := [.inl (.int (P.1 1 4)), .inl (.int (1 : Int32)), .inr (9, 0, 0, 1)]) (P1 := P) rfl ⟨trivial, trivial, trivial, trivial, trivial⟩ ?_
    refine tr_cWV (z := km_290) (av := [.inr (9, 0, 0, 1), .inl (.int (1 : Int32)), .inl (.int (P.1 1 4))]) (st' := []) rfl rfl rfl (Nat.le_of_ble_eq_true rfl) ⟨rfl, Or.inl (by decide)⟩ rfl (Nat.le_of_ble_eq_true rfl) (t_290 (1 : Int32) (P.1 1 4) P) (fun P8 => ?_)
    refine tr_goto ?_
    refine tr_nil (rows2 := kb_320_102) rfl (List.cons_ne_nil _ _) ?_
    refine tr_blk 1 (pc' := 103) (rows' := kb_320_102.drop 1) (loc' := [.inr (9, 0, 0, 1), .inr (30, 1, 0, 4), .inl (.int x2), .inl (.int s0)]) (st' := [.inl (.int s0)]) (P1 := P8) rfl ⟨trivial, trivial⟩ ?_
    exact tr_reI (z := km_320) rfl ⟨_, rfl, rfl⟩ rfl
  · refine tr_icT (cd := .ne) h9 ?_
    refine tr_nil (rows2 := kb_320_97) rfl (List.cons_ne_nil _ _) ?_
    refine tr_blk 3 (pc' := 102) (rows' := kb_320_97.drop 3) (loc' := [.inr (9, 0, 0, 1), .inr (30, 1, 0, 4), .inl (.int x2), .inl (.int s0)]) (st' := []) (P1 := (ab_pI P 1 3 x2)) rfl ⟨trivial, trivial, trivial, trivial⟩ ?_
    refine tr_lt (fun P7 => ?_)
    refine tr_nil (rows2 := kb_320_102) rfl (List.cons_ne_nil _ _) ?_
    refine tr_blk 1 (pc' := 103) (rows' := kb_320_102.drop 1) (loc' := [.inr (9, 0, 0, 1), .inr (30, 1, 0, 4), .inl (.int x2), .inl (.int s0)]) (st' := [.inl (.int s0)]) (P1 := P7) rfl ⟨trivial, trivial⟩ ?_
    exact tr_reI (z := km_320) rfl ⟨_, rfl, rfl⟩ rfl
def f_320_1_61 (N : Nat) (x2 : Int32) (P : ab_P) : Option (Int32 × ab_P) :=
    if (P.1 1 4) < x2 then
      Option.bind (f_349_1 N P x2) fun v6 =>
      f_320_1_79 x2 v6 P
    else
    f_320_1_79 x2 (-1 : Int32) P
theorem t_320_1_61 {xs : Nat × (Nat → Int32)} {d : Nat} (N : Nat) : ∀ (x2 : Int32) (d3 : Int32) (P : ab_P), ab_tr xs wI (d + 3) 320 61 [] [.inr (9, 0, 0, 1), .inr (30, 1, 0, 4), .inl (.int x2), .inl (.int d3)] [] P (f_320_1_61 N x2 P) := by
  intro x2 d3 P
  unfold f_320_1_61
  refine tr_nil (rows2 := kb_320_61) rfl (List.cons_ne_nil _ _) ?_
  refine tr_blk 3 (pc' := 66) (rows' := kb_320_61.drop 3) (loc' := [.inr (9, 0, 0, 1), .inr (30, 1, 0, 4), .inl (.int x2), .inl (.int d3)]) (st' := [.inl (.int (P.1 1 4)), .inl (.int x2)]) (P1 := P) rfl ⟨trivial, trivial, trivial, trivial⟩ ?_
  refine tr_if (fun h10 => ?_) (fun h10 => ?_)
  · refine tr_icF (cd := .le) (Int32.not_le.mpr h10) ?_
    refine tr_blk 3 (pc' := 72) (rows' := kb_320_61.drop 7) (loc' := [.inr (9, 0, 0, 1), .inr (30, 1, 0, 4), .inl (.int x2), .inl (.int d3)]) (st' := [.inl (.int x2), .inr (30, 1, 0, 4), .inr (9, 0, 0, 1)]) (P1 := P) rfl ⟨trivial, trivial, trivial, trivial⟩ ?_
    refine tr_cRI (z := km_349) (av := [.inr (9, 0, 0, 1), .inr (30, 1, 0, 4), .inl (.int x2)]) (st' := []) rfl rfl rfl (Nat.le_of_ble_eq_true rfl) ⟨rfl, Or.inl (by decide)⟩ rfl (Nat.le_of_ble_eq_true rfl) (t_349_1 N P x2) (fun v6 => ?_)
    refine tr_goto ?_
    exact t_320_1_79 x2 v6 (d3) P
  · refine tr_icT (cd := .le) (Int32.not_lt.mp h10) ?_
    refine tr_nil (rows2 := kb_320_78) rfl (List.cons_ne_nil _ _) ?_
    refine tr_blk 1 (pc' := 79) (rows' := kb_320_78.drop 1) (loc' := [.inr (9, 0, 0, 1), .inr (30, 1, 0, 4), .inl (.int x2), .inl (.int d3)]) (st' := [.inl (.int (-1 : Int32))]) (P1 := P) rfl ⟨trivial, trivial⟩ ?_
    exact t_320_1_79 x2 (-1 : Int32) (d3) P
def f_320_1_32 (N : Nat) : Nat → Int32 → Int32 → ab_P → Option (Int32 × ab_P)
  | 0, _, _, _ => none
  | n + 1, x2, x3, P =>
    if x3 < (P.1 1 2) then
      Option.bind (f_347 P x3) fun v4 =>
      Option.bind (f_348 P v4) fun v5 =>
      if v5 = (0 : Int32) then
        f_320_1_61 N x2 P
      else
      f_320_1_32 N n (x3 + (1 : Int32)) (x3 + 1) P
    else
    f_320_1_61 N x2 P
theorem t_320_1_32 {xs : Nat × (Nat → Int32)} {d : Nat} (N : Nat) : ∀ n : Nat, ∀ (x2 : Int32) (x3 : Int32) (P : ab_P), ab_tr xs wI (d + 3) 320 32 [] [.inr (9, 0, 0, 1), .inr (30, 1, 0, 4), .inl (.int x2), .inl (.int x3)] [] P (f_320_1_32 N n x2 x3 P) := by
  intro n
  induction n with
  | zero => intro x2 x3 P; exact tr_no
  | succ n ih =>
    intro x2 x3 P
    refine tr_nil (rows2 := kb_320_32) rfl (List.cons_ne_nil _ _) ?_
    refine tr_blk 3 (pc' := 37) (rows' := kb_320_32.drop 3) (loc' := [.inr (9, 0, 0, 1), .inr (30, 1, 0, 4), .inl (.int x2), .inl (.int x3)]) (st' := [.inl (.int (P.1 1 2)), .inl (.int x3)]) (P1 := P) rfl ⟨trivial, trivial, trivial, trivial⟩ ?_
    refine tr_if (fun h11 => ?_) (fun h11 => ?_)
    · refine tr_icF (cd := .ge) (Int32.not_le.mpr h11) ?_
      refine tr_blk 2 (pc' := 42) (rows' := kb_320_32.drop 6) (loc' := [.inr (9, 0, 0, 1), .inr (30, 1, 0, 4), .inl (.int x2), .inl (.int x3)]) (st' := [.inl (.int x3), .inr (9, 0, 0, 1)]) (P1 := P) rfl ⟨trivial, trivial, trivial⟩ ?_
      refine tr_cRI (z := km_347) (av := [.inr (9, 0, 0, 1), .inl (.int x3)]) (st' := []) rfl rfl rfl (Nat.le_of_ble_eq_true rfl) ⟨rfl, Or.inl (by decide)⟩ rfl (Nat.le_of_ble_eq_true rfl) (t_347 P x3) (fun v4 => ?_)
      refine tr_cRI (z := km_348) (av := [.inl (.int v4)]) (st' := []) rfl rfl rfl (Nat.le_of_ble_eq_true rfl) trivial rfl (Nat.le_of_ble_eq_true rfl) (t_348 P v4) (fun v5 => ?_)
      refine tr_if (fun h12 => ?_) (fun h12 => ?_)
      · refine tr_ifT (cd := .eq) h12 ?_
        exact t_320_1_61 N x2 (x3) P
      · refine tr_ifF (cd := .eq) h12 ?_
        refine tr_blk 5 (pc' := 58) (rows' := kb_320_32.drop 14) (loc' := [.inr (9, 0, 0, 1), .inr (30, 1, 0, 4), .inl (.int (x3 + (1 : Int32))), .inl (.int (x3 + 1))]) (st' := []) (P1 := P) rfl ⟨trivial, trivial, trivial, trivial, trivial, trivial⟩ ?_
        refine tr_goto ?_
        exact ih (x3 + (1 : Int32)) (x3 + 1) P
    · refine tr_icT (cd := .ge) (Int32.not_lt.mp h11) ?_
      exact t_320_1_61 N x2 (x3) P
def f_320_1 (N : Nat) (P : ab_P) : Option (Int32 × ab_P) :=
    if (P.1 1 5) = (0 : Int32) then
      ab_b2 (f_319 N P) fun v2 P1 =>
      ab_lt (ab_pI P1 1 4 (P1.1 1 3)) fun P3 =>
      f_320_1_32 N N (P3.1 1 3) (P3.1 1 3) P3
    else
    some ((-1 : Int32), P)
theorem t_320_1 {xs : Nat × (Nat → Int32)} {d : Nat} (N : Nat) : ∀ (P : ab_P), ab_tr xs wI (d + 3) 320 0 [] [.inr (9, 0, 0, 1), .inr (30, 1, 0, 4), ab_top, ab_top] [] P (f_320_1 N P) := by
  intro P
  unfold f_320_1
  refine tr_nil (rows2 := kb_320_0) rfl (List.cons_ne_nil _ _) ?_
  refine tr_blk 2 (pc' := 4) (rows' := kb_320_0.drop 2) (loc' := [.inr (9, 0, 0, 1), .inr (30, 1, 0, 4), ab_top, ab_top]) (st' := [.inl (.int (P.1 1 5))]) (P1 := P) rfl ⟨trivial, trivial, trivial⟩ ?_
  refine tr_if (fun h13 => ?_) (fun h13 => ?_)
  · refine tr_ifT (cd := .eq) h13 ?_
    refine tr_nil (rows2 := kb_320_9) rfl (List.cons_ne_nil _ _) ?_
    refine tr_blk 1 (pc' := 10) (rows' := kb_320_9.drop 1) (loc' := [.inr (9, 0, 0, 1), .inr (30, 1, 0, 4), ab_top, ab_top]) (st' := [.inr (9, 0, 0, 1)]) (P1 := P) rfl ⟨trivial, trivial⟩ ?_
    refine tr_cWI (z := km_319) (av := [.inr (9, 0, 0, 1)]) (st' := []) rfl rfl rfl (Nat.le_of_ble_eq_true rfl) ⟨rfl, Or.inl (by decide)⟩ rfl (Nat.le_of_ble_eq_true rfl) (t_319 N P) (fun v2 P1 => ?_)
    refine tr_blk 5 (pc' := 22) (rows' := kb_320_9.drop 7) (loc' := [.inr (9, 0, 0, 1), .inr (30, 1, 0, 4), ab_top, ab_top]) (st' := []) (P1 := (ab_pI P1 1 4 (P1.1 1 3))) rfl ⟨trivial, trivial, trivial, trivial, trivial, trivial⟩ ?_
    refine tr_lt (fun P3 => ?_)
    refine tr_blk 6 (pc' := 32) (rows' := kb_320_9.drop 13) (loc' := [.inr (9, 0, 0, 1), .inr (30, 1, 0, 4), .inl (.int (P3.1 1 3)), .inl (.int (P3.1 1 3))]) (st' := []) (P1 := P3) rfl ⟨trivial, trivial, trivial, trivial, trivial, trivial, trivial⟩ ?_
    exact t_320_1_32 N N (P3.1 1 3) (P3.1 1 3) P3
  · refine tr_ifF (cd := .eq) h13 ?_
    refine tr_blk 1 (pc' := 8) (rows' := kb_320_0.drop 4) (loc' := [.inr (9, 0, 0, 1), .inr (30, 1, 0, 4), ab_top, ab_top]) (st' := [.inl (.int (-1 : Int32))]) (P1 := P) rfl ⟨trivial, trivial⟩ ?_
    exact tr_reI (z := km_320) rfl ⟨_, rfl, rfl⟩ rfl
def f_328 (i0 : Nat) (a1 : Int32) (P : ab_P) : Option ab_P :=
    if (P.1 i0 1) < (0 : Int32) then
      some P
    else
    if (P.1 i0 1) < (150 : Int32) then
      if ab_gi (P.1 i0 1) 150 then
      ab_lt (ab_pI P (i0 + 1) ((P.1 i0 1)).toNatClampNeg a1) fun P2 =>
      ab_lt (ab_pI P2 i0 1 ((P2.1 i0 1) + (1 : Int32))) fun P3 =>
      some P3
      else none
    else
    some P
theorem t_328 {xs : Nat × (Nat → Int32)} {d : Nat} (i0 : Nat) : ∀ (a1 : Int32) (P : ab_P), ab_tr xs wV (d + 0) 328 0 [] [.inr (5, 0, 0, i0), .inl (.int a1)] [] P (f_328 i0 a1 P) := by
  intro a1 P
  unfold f_328
  refine tr_nil (rows2 := kb_328_0) rfl (List.cons_ne_nil _ _) ?_
  refine tr_blk 2 (pc' := 4) (rows' := kb_328_0.drop 2) (loc' := [.inr (5, 0, 0, i0), .inl (.int a1)]) (st' := [.inl (.int (P.1 i0 1))]) (P1 := P) rfl ⟨trivial, trivial, trivial⟩ ?_
  refine tr_if (fun h4 => ?_) (fun h4 => ?_)
  · refine tr_ifT (cd := .lt) h4 ?_
    refine tr_nil (rows2 := kb_328_39) rfl (List.cons_ne_nil _ _) ?_
    exact tr_reV (z := km_328) rfl rfl rfl
  · refine tr_ifF (cd := .lt) h4 ?_
    refine tr_blk 5 (pc' := 16) (rows' := kb_328_0.drop 8) (loc' := [.inr (5, 0, 0, i0), .inl (.int a1)]) (st' := [.inl (.int (150 : Int32)), .inl (.int (P.1 i0 1))]) (P1 := P) rfl ⟨trivial, trivial, trivial, trivial, (Or.inl (by decide)), trivial⟩ ?_
    refine tr_if (fun h5 => ?_) (fun h5 => ?_)
    · refine tr_icF (cd := .ge) (Int32.not_le.mpr h5) ?_
      refine tr_gd (fun h1 => ?_)
      refine tr_blk 6 (pc' := 29) (rows' := kb_328_0.drop 15) (loc' := [.inr (5, 0, 0, i0), .inl (.int a1)]) (st' := []) (P1 := (ab_pI P (i0 + 1) ((P.1 i0 1)).toNatClampNeg a1)) rfl ⟨trivial, trivial, trivial, trivial, trivial, h1, trivial⟩ ?_
      refine tr_lt (fun P2 => ?_)
      refine tr_blk 6 (pc' := 39) (rows' := kb_328_0.drop 21) (loc' := [.inr (5, 0, 0, i0), .inl (.int a1)]) (st' := []) (P1 := (ab_pI P2 i0 1 ((P2.1 i0 1) + (1 : Int32)))) rfl ⟨trivial, trivial, trivial, trivial, trivial, trivial, trivial⟩ ?_
      refine tr_lt (fun P3 => ?_)
      refine tr_nil (rows2 := kb_328_39) rfl (List.cons_ne_nil _ _) ?_
      exact tr_reV (z := km_328) rfl rfl rfl
    · refine tr_icT (cd := .ge) (Int32.not_lt.mp h5) ?_
      refine tr_nil (rows2 := kb_328_39) rfl (List.cons_ne_nil _ _) ?_
      exact tr_reV (z := km_328) rfl rfl rfl
def f_352_148 (i0 : Nat) (N : Nat) (R : Int32 → ab_P → Option ab_P) (x2 : Int32) (x4 : Int32) (P : ab_P) : Option ab_P :=
    Option.bind (f_324 N (91 : Int32) P) fun P17 =>
    Option.bind (R (x2 + (1 : Int32)) P17) fun P18 =>
    Option.bind (f_324 N (44 : Int32) P18) fun P19 =>
    Option.bind (R (x2 + (1 : Int32)) P19) fun P20 =>
    Option.bind (f_324 N (93 : Int32) P20) fun P21 =>
    if x4 = (8 : Int32) then
      Option.bind (f_328 i0 (2004 : Int32) P21) fun P23 =>
      some P23
    else
    Option.bind (f_328 i0 (2005 : Int32) P21) fun P22 =>
    some P22
theorem t_352_148 {xs : Nat × (Nat → Int32)} {d : Nat} (i0 : Nat) (N : Nat) (R : Int32 → ab_P → Option ab_P) (hR : ∀ (a2 : Int32) (P : ab_P), ab_tr xs wV (d + 5) 289 0 [] [.inr (5, 0, 0, i0), .inr (9, 0, 0, 1), .inl (.int a2), ab_top, ab_top] [] P (R a2 P)) : ∀ (x2 : Int32) (x4 : Int32) (d3 : Int32) (P : ab_P), ab_tr xs wV (d + 6) 352 148 [] [.inr (5, 0, 0, i0), .inr (9, 0, 0, 1), .inl (.int x2), .inl (.int d3), .inl (.int x4)] [] P (f_352_148 i0 N R x2 x4 P) := by
  intro x2 x4 d3 P
  unfold f_352_148
  refine tr_nil (rows2 := kb_352_148) rfl (List.cons_ne_nil _ _) ?_
  refine tr_blk 2 (pc' := 151) (rows' := kb_352_148.drop 2) (loc' := [.inr (5, 0, 0, i0), .inr (9, 0, 0, 1), .inl (.int x2), .inl (.int d3), .inl (.int x4)]) (st' := [.inl (.int (91 : Int32)), .inr (9, 0, 0, 1)]) (P1 := P) rfl ⟨trivial, trivial, trivial⟩ ?_
  refine tr_cWV (z := km_324) (av := [.inr (9, 0, 0, 1), .inl (.int (91 : Int32))]) (st' := []) rfl rfl rfl (Nat.le_of_ble_eq_true rfl) ⟨rfl, Or.inl (by decide)⟩ rfl (Nat.le_of_ble_eq_true rfl) (t_324 N (91 : Int32) P) (fun P17 => ?_)
  refine tr_blk 5 (pc' := 159) (rows' := kb_352_148.drop 8) (loc' := [.inr (5, 0, 0, i0), .inr (9, 0, 0, 1), .inl (.int x2), .inl (.int d3), .inl (.int x4)]) (st' := [.inl (.int (x2 + (1 : Int32))), .inr (9, 0, 0, 1), .inr (5, 0, 0, i0)]) (P1 := P17) rfl ⟨trivial, trivial, trivial, trivial, trivial, trivial⟩ ?_
  refine tr_cWV (z := km_289) (av := [.inr (5, 0, 0, i0), .inr (9, 0, 0, 1), .inl (.int (x2 + (1 : Int32)))]) (st' := []) rfl rfl rfl (Nat.le_of_ble_eq_true rfl) ⟨rfl, Or.inl (by decide)⟩ rfl (Nat.le_of_ble_eq_true rfl) (hR (x2 + (1 : Int32)) P17) (fun P18 => ?_)
  refine tr_blk 2 (pc' := 165) (rows' := kb_352_148.drop 11) (loc' := [.inr (5, 0, 0, i0), .inr (9, 0, 0, 1), .inl (.int x2), .inl (.int d3), .inl (.int x4)]) (st' := [.inl (.int (44 : Int32)), .inr (9, 0, 0, 1)]) (P1 := P18) rfl ⟨trivial, trivial, trivial⟩ ?_
  refine tr_cWV (z := km_324) (av := [.inr (9, 0, 0, 1), .inl (.int (44 : Int32))]) (st' := []) rfl rfl rfl (Nat.le_of_ble_eq_true rfl) ⟨rfl, Or.inl (by decide)⟩ rfl (Nat.le_of_ble_eq_true rfl) (t_324 N (44 : Int32) P18) (fun P19 => ?_)
  refine tr_blk 5 (pc' := 173) (rows' := kb_352_148.drop 17) (loc' := [.inr (5, 0, 0, i0), .inr (9, 0, 0, 1), .inl (.int x2), .inl (.int d3), .inl (.int x4)]) (st' := [.inl (.int (x2 + (1 : Int32))), .inr (9, 0, 0, 1), .inr (5, 0, 0, i0)]) (P1 := P19) rfl ⟨trivial, trivial, trivial, trivial, trivial, trivial⟩ ?_
  refine tr_cWV (z := km_289) (av := [.inr (5, 0, 0, i0), .inr (9, 0, 0, 1), .inl (.int (x2 + (1 : Int32)))]) (st' := []) rfl rfl rfl (Nat.le_of_ble_eq_true rfl) ⟨rfl, Or.inl (by decide)⟩ rfl (Nat.le_of_ble_eq_true rfl) (hR (x2 + (1 : Int32)) P19) (fun P20 => ?_)
  refine tr_blk 2 (pc' := 179) (rows' := kb_352_148.drop 20) (loc' := [.inr (5, 0, 0, i0), .inr (9, 0, 0, 1), .inl (.int x2), .inl (.int d3), .inl (.int x4)]) (st' := [.inl (.int (93 : Int32)), .inr (9, 0, 0, 1)]) (P1 := P20) rfl ⟨trivial, trivial, trivial⟩ ?_
  refine tr_cWV (z := km_324) (av := [.inr (9, 0, 0, 1), .inl (.int (93 : Int32))]) (st' := []) rfl rfl rfl (Nat.le_of_ble_eq_true rfl) ⟨rfl, Or.inl (by decide)⟩ rfl (Nat.le_of_ble_eq_true rfl) (t_324 N (93 : Int32) P20) (fun P21 => ?_)
  refine tr_blk 3 (pc' := 187) (rows' := kb_352_148.drop 24) (loc' := [.inr (5, 0, 0, i0), .inr (9, 0, 0, 1), .inl (.int x2), .inl (.int d3), .inl (.int x4)]) (st' := [.inl (.int (8 : Int32)), .inl (.int x4), .inr (5, 0, 0, i0)]) (P1 := P21) rfl ⟨trivial, trivial, trivial, trivial⟩ ?_
  refine tr_if (fun h24 => ?_) (fun h24 => ?_)
  · refine tr_icF (cd := .ne) (fun q => q h24) ?_
    refine tr_blk 1 (pc' := 193) (rows' := kb_352_148.drop 26) (loc' := [.inr (5, 0, 0, i0), .inr (9, 0, 0, 1), .inl (.int x2), .inl (.int d3), .inl (.int x4)]) (st' := [.inl (.int (2004 : Int32)), .inr (5, 0, 0, i0)]) (P1 := P21) rfl ⟨trivial, trivial⟩ ?_
    refine tr_goto ?_
    refine tr_nil (rows2 := kb_352_199) rfl (List.cons_ne_nil _ _) ?_
    refine tr_cWV (z := km_328) (av := [.inr (5, 0, 0, i0), .inl (.int (2004 : Int32))]) (st' := []) rfl rfl rfl (Nat.le_of_ble_eq_true rfl) ⟨rfl, Or.inl (by decide)⟩ rfl (Nat.le_of_ble_eq_true rfl) (t_328 i0 (2004 : Int32) P21) (fun P23 => ?_)
    refine tr_nil (rows2 := kb_352_202) rfl (List.cons_ne_nil _ _) ?_
    exact tr_reV (z := km_352) rfl rfl rfl
  · refine tr_icT (cd := .ne) h24 ?_
    refine tr_nil (rows2 := kb_352_196) rfl (List.cons_ne_nil _ _) ?_
    refine tr_blk 1 (pc' := 199) (rows' := kb_352_196.drop 1) (loc' := [.inr (5, 0, 0, i0), .inr (9, 0, 0, 1), .inl (.int x2), .inl (.int d3), .inl (.int x4)]) (st' := [.inl (.int (2005 : Int32)), .inr (5, 0, 0, i0)]) (P1 := P21) rfl ⟨trivial, trivial⟩ ?_
    refine tr_nil (rows2 := kb_352_199) rfl (List.cons_ne_nil _ _) ?_
    refine tr_cWV (z := km_328) (av := [.inr (5, 0, 0, i0), .inl (.int (2005 : Int32))]) (st' := []) rfl rfl rfl (Nat.le_of_ble_eq_true rfl) ⟨rfl, Or.inl (by decide)⟩ rfl (Nat.le_of_ble_eq_true rfl) (t_328 i0 (2005 : Int32) P21) (fun P22 => ?_)
    refine tr_nil (rows2 := kb_352_202) rfl (List.cons_ne_nil _ _) ?_
    exact tr_reV (z := km_352) rfl rfl rfl
def f_352_118 (i0 : Nat) (N : Nat) (R : Int32 → ab_P → Option ab_P) (x2 : Int32) (x4 : Int32) (P : ab_P) : Option ab_P :=
    if x4 = (10 : Int32) then
      Option.bind (f_324 N (40 : Int32) P) fun P14 =>
      Option.bind (R (x2 + (1 : Int32)) P14) fun P15 =>
      Option.bind (f_324 N (41 : Int32) P15) fun P16 =>
      some P16
    else
    f_352_148 i0 N R x2 x4 P
theorem t_352_118 {xs : Nat × (Nat → Int32)} {d : Nat} (i0 : Nat) (N : Nat) (R : Int32 → ab_P → Option ab_P) (hR : ∀ (a2 : Int32) (P : ab_P), ab_tr xs wV (d + 5) 289 0 [] [.inr (5, 0, 0, i0), .inr (9, 0, 0, 1), .inl (.int a2), ab_top, ab_top] [] P (R a2 P)) : ∀ (x2 : Int32) (x4 : Int32) (d3 : Int32) (P : ab_P), ab_tr xs wV (d + 6) 352 118 [] [.inr (5, 0, 0, i0), .inr (9, 0, 0, 1), .inl (.int x2), .inl (.int d3), .inl (.int x4)] [] P (f_352_118 i0 N R x2 x4 P) := by
  intro x2 x4 d3 P
  unfold f_352_118
  refine tr_nil (rows2 := kb_352_118) rfl (List.cons_ne_nil _ _) ?_
  refine tr_blk 2 (pc' := 122) (rows' := kb_352_118.drop 2) (loc' := [.inr (5, 0, 0, i0), .inr (9, 0, 0, 1), .inl (.int x2), .inl (.int d3), .inl (.int x4)]) (st' := [.inl (.int (10 : Int32)), .inl (.int x4)]) (P1 := P) rfl ⟨trivial, trivial, trivial⟩ ?_
  refine tr_if (fun h25 => ?_) (fun h25 => ?_)
  · refine tr_icF (cd := .ne) (fun q => q h25) ?_
    refine tr_blk 2 (pc' := 128) (rows' := kb_352_118.drop 5) (loc' := [.inr (5, 0, 0, i0), .inr (9, 0, 0, 1), .inl (.int x2), .inl (.int d3), .inl (.int x4)]) (st' := [.inl (.int (40 : Int32)), .inr (9, 0, 0, 1)]) (P1 := P) rfl ⟨trivial, trivial, trivial⟩ ?_
    refine tr_cWV (z := km_324) (av := [.inr (9, 0, 0, 1), .inl (.int (40 : Int32))]) (st' := []) rfl rfl rfl (Nat.le_of_ble_eq_true rfl) ⟨rfl, Or.inl (by decide)⟩ rfl (Nat.le_of_ble_eq_true rfl) (t_324 N (40 : Int32) P) (fun P14 => ?_)
    refine tr_blk 5 (pc' := 136) (rows' := kb_352_118.drop 11) (loc' := [.inr (5, 0, 0, i0), .inr (9, 0, 0, 1), .inl (.int x2), .inl (.int d3), .inl (.int x4)]) (st' := [.inl (.int (x2 + (1 : Int32))), .inr (9, 0, 0, 1), .inr (5, 0, 0, i0)]) (P1 := P14) rfl ⟨trivial, trivial, trivial, trivial, trivial, trivial⟩ ?_
    refine tr_cWV (z := km_289) (av := [.inr (5, 0, 0, i0), .inr (9, 0, 0, 1), .inl (.int (x2 + (1 : Int32)))]) (st' := []) rfl rfl rfl (Nat.le_of_ble_eq_true rfl) ⟨rfl, Or.inl (by decide)⟩ rfl (Nat.le_of_ble_eq_true rfl) (hR (x2 + (1 : Int32)) P14) (fun P15 => ?_)
    refine tr_blk 2 (pc' := 142) (rows' := kb_352_118.drop 14) (loc' := [.inr (5, 0, 0, i0), .inr (9, 0, 0, 1), .inl (.int x2), .inl (.int d3), .inl (.int x4)]) (st' := [.inl (.int (41 : Int32)), .inr (9, 0, 0, 1)]) (P1 := P15) rfl ⟨trivial, trivial, trivial⟩ ?_
    refine tr_cWV (z := km_324) (av := [.inr (9, 0, 0, 1), .inl (.int (41 : Int32))]) (st' := []) rfl rfl rfl (Nat.le_of_ble_eq_true rfl) ⟨rfl, Or.inl (by decide)⟩ rfl (Nat.le_of_ble_eq_true rfl) (t_324 N (41 : Int32) P15) (fun P16 => ?_)
    refine tr_goto ?_
    refine tr_nil (rows2 := kb_352_202) rfl (List.cons_ne_nil _ _) ?_
    exact tr_reV (z := km_352) rfl rfl rfl
  · refine tr_icT (cd := .ne) h25 ?_
    exact t_352_148 i0 N R hR x2 x4 (d3) P
def f_352_98 (i0 : Nat) (N : Nat) (R : Int32 → ab_P → Option ab_P) (x2 : Int32) (x4 : Int32) (P : ab_P) : Option ab_P :=
    if x4 < (8 : Int32) then
      Option.bind (f_328 i0 ((1000 : Int32) + x4) P) fun P13 =>
      some P13
    else
    f_352_118 i0 N R x2 x4 P
theorem t_352_98 {xs : Nat × (Nat → Int32)} {d : Nat} (i0 : Nat) (N : Nat) (R : Int32 → ab_P → Option ab_P) (hR : ∀ (a2 : Int32) (P : ab_P), ab_tr xs wV (d + 5) 289 0 [] [.inr (5, 0, 0, i0), .inr (9, 0, 0, 1), .inl (.int a2), ab_top, ab_top] [] P (R a2 P)) : ∀ (x2 : Int32) (x4 : Int32) (d3 : Int32) (P : ab_P), ab_tr xs wV (d + 6) 352 98 [] [.inr (5, 0, 0, i0), .inr (9, 0, 0, 1), .inl (.int x2), .inl (.int d3), .inl (.int x4)] [] P (f_352_98 i0 N R x2 x4 P) := by
  intro x2 x4 d3 P
  unfold f_352_98
  refine tr_nil (rows2 := kb_352_98) rfl (List.cons_ne_nil _ _) ?_
  refine tr_blk 2 (pc' := 102) (rows' := kb_352_98.drop 2) (loc' := [.inr (5, 0, 0, i0), .inr (9, 0, 0, 1), .inl (.int x2), .inl (.int d3), .inl (.int x4)]) (st' := [.inl (.int (8 : Int32)), .inl (.int x4)]) (P1 := P) rfl ⟨trivial, trivial, trivial⟩ ?_
  refine tr_if (fun h26 => ?_) (fun h26 => ?_)
  · refine tr_icF (cd := .ge) (Int32.not_le.mpr h26) ?_
    refine tr_blk 4 (pc' := 112) (rows' := kb_352_98.drop 7) (loc' := [.inr (5, 0, 0, i0), .inr (9, 0, 0, 1), .inl (.int x2), .inl (.int d3), .inl (.int x4)]) (st' := [.inl (.int ((1000 : Int32) + x4)), .inr (5, 0, 0, i0)]) (P1 := P) rfl ⟨trivial, trivial, trivial, trivial, trivial⟩ ?_
    refine tr_cWV (z := km_328) (av := [.inr (5, 0, 0, i0), .inl (.int ((1000 : Int32) + x4))]) (st' := []) rfl rfl rfl (Nat.le_of_ble_eq_true rfl) ⟨rfl, Or.inl (by decide)⟩ rfl (Nat.le_of_ble_eq_true rfl) (t_328 i0 ((1000 : Int32) + x4) P) (fun P13 => ?_)
    refine tr_goto ?_
    refine tr_nil (rows2 := kb_352_202) rfl (List.cons_ne_nil _ _) ?_
    exact tr_reV (z := km_352) rfl rfl rfl
  · refine tr_icT (cd := .ge) (Int32.not_lt.mp h26) ?_
    exact t_352_118 i0 N R hR x2 x4 (d3) P
def f_352_90 (i0 : Nat) (N : Nat) (R : Int32 → ab_P → Option ab_P) (x2 : Int32) (x4 : Int32) (P : ab_P) : Option ab_P :=
    Option.bind (f_201 P) fun v12 =>
    if v12 = (0 : Int32) then
      f_352_98 i0 N R x2 x4 P
    else
    some P
theorem t_352_90 {xs : Nat × (Nat → Int32)} {d : Nat} (i0 : Nat) (N : Nat) (R : Int32 → ab_P → Option ab_P) (hR : ∀ (a2 : Int32) (P : ab_P), ab_tr xs wV (d + 5) 289 0 [] [.inr (5, 0, 0, i0), .inr (9, 0, 0, 1), .inl (.int a2), ab_top, ab_top] [] P (R a2 P)) : ∀ (x2 : Int32) (x4 : Int32) (d3 : Int32) (P : ab_P), ab_tr xs wV (d + 6) 352 90 [] [.inr (5, 0, 0, i0), .inr (9, 0, 0, 1), .inl (.int x2), .inl (.int d3), .inl (.int x4)] [] P (f_352_90 i0 N R x2 x4 P) := by
  intro x2 x4 d3 P
  unfold f_352_90
  refine tr_nil (rows2 := kb_352_90) rfl (List.cons_ne_nil _ _) ?_
  refine tr_blk 1 (pc' := 91) (rows' := kb_352_90.drop 1) (loc' := [.inr (5, 0, 0, i0), .inr (9, 0, 0, 1), .inl (.int x2), .inl (.int d3), .inl (.int x4)]) (st' := [.inr (9, 0, 0, 1)]) (P1 := P) rfl ⟨trivial, trivial⟩ ?_
  refine tr_cRI (z := km_201) (av := [.inr (9, 0, 0, 1)]) (st' := []) rfl rfl rfl (Nat.le_of_ble_eq_true rfl) ⟨rfl, Or.inl (by decide)⟩ rfl (Nat.le_of_ble_eq_true rfl) (t_201 P) (fun v12 => ?_)
  refine tr_if (fun h27 => ?_) (fun h27 => ?_)
  · refine tr_ifT (cd := .eq) h27 ?_
    exact t_352_98 i0 N R hR x2 x4 (d3) P
  · refine tr_ifF (cd := .eq) h27 ?_
    exact tr_reV (z := km_352) rfl rfl rfl
def f_352_53 (i0 : Nat) (N : Nat) (R : Int32 → ab_P → Option ab_P) (x2 : Int32) (x3 : Int32) (s0 : Int32) (P : ab_P) : Option ab_P :=
    if s0 < (8 : Int32) then
      f_352_90 i0 N R x2 s0 P
    else
    if x2 < (6 : Int32) then
      f_352_90 i0 N R x2 s0 P
    else
    if x3 = (40 : Int32) then
      Option.bind (f_290 (3 : Int32) (P.1 1 3) P) fun P11 =>
      f_352_90 i0 N R x2 s0 P11
    else
    Option.bind (f_290 (3 : Int32) (P.1 1 4) P) fun P10 =>
    f_352_90 i0 N R x2 s0 P10
theorem t_352_53 {xs : Nat × (Nat → Int32)} {d : Nat} (i0 : Nat) (N : Nat) (R : Int32 → ab_P → Option ab_P) (hR : ∀ (a2 : Int32) (P : ab_P), ab_tr xs wV (d + 5) 289 0 [] [.inr (5, 0, 0, i0), .inr (9, 0, 0, 1), .inl (.int a2), ab_top, ab_top] [] P (R a2 P)) : ∀ (x2 : Int32) (x3 : Int32) (s0 : Int32) (P : ab_P), ab_tr xs wV (d + 6) 352 53 [] [.inr (5, 0, 0, i0), .inr (9, 0, 0, 1), .inl (.int x2), .inl (.int x3), ab_top] [.inl (.int s0)] P (f_352_53 i0 N R x2 x3 s0 P) := by
  intro x2 x3 s0 P
  unfold f_352_53
  refine tr_nil (rows2 := kb_352_53) rfl (List.cons_ne_nil _ _) ?_
  refine tr_blk 3 (pc' := 59) (rows' := kb_352_53.drop 3) (loc' := [.inr (5, 0, 0, i0), .inr (9, 0, 0, 1), .inl (.int x2), .inl (.int x3), .inl (.int s0)]) (st' := [.inl (.int (8 : Int32)), .inl (.int s0)]) (P1 := P) rfl ⟨trivial, trivial, trivial, trivial⟩ ?_
  refine tr_if (fun h28 => ?_) (fun h28 => ?_)
  · refine tr_icT (cd := .lt) h28 ?_
    exact t_352_90 i0 N R hR x2 s0 (x3) P
  · refine tr_icF (cd := .lt) h28 ?_
    refine tr_blk 2 (pc' := 65) (rows' := kb_352_53.drop 6) (loc' := [.inr (5, 0, 0, i0), .inr (9, 0, 0, 1), .inl (.int x2), .inl (.int x3), .inl (.int s0)]) (st' := [.inl (.int (6 : Int32)), .inl (.int x2)]) (P1 := P) rfl ⟨trivial, trivial, trivial⟩ ?_
    refine tr_if (fun h29 => ?_) (fun h29 => ?_)
    · refine tr_icT (cd := .lt) h29 ?_
      exact t_352_90 i0 N R hR x2 s0 (x3) P
    · refine tr_icF (cd := .lt) h29 ?_
      refine tr_blk 4 (pc' := 73) (rows' := kb_352_53.drop 11) (loc' := [.inr (5, 0, 0, i0), .inr (9, 0, 0, 1), .inl (.int x2), .inl (.int x3), .inl (.int s0)]) (st' := [.inl (.int (40 : Int32)), .inl (.int x3), .inl (.int (3 : Int32)), .inr (9, 0, 0, 1)]) (P1 := P) rfl ⟨trivial, trivial, trivial, trivial, trivial⟩ ?_
      refine tr_if (fun h30 => ?_) (fun h30 => ?_)
      · refine tr_icF (cd := .ne) (fun q => q h30) ?_
        refine tr_blk 2 (pc' := 80) (rows' := kb_352_53.drop 14) (loc' := [.inr (5, 0, 0, i0), .inr (9, 0, 0, 1), .inl (.int x2), .inl (.int x3), .inl (.int s0)]) (st' := [.inl (.int (P.1 1 3)), .inl (.int (3 : Int32)), .inr (9, 0, 0, 1)]) (P1 := P) rfl ⟨trivial, trivial, trivial⟩ ?_
        refine tr_goto ?_
        refine tr_nil (rows2 := kb_352_87) rfl (List.cons_ne_nil _ _) ?_
        refine tr_cWV (z := km_290) (av := [.inr (9, 0, 0, 1), .inl (.int (3 : Int32)), .inl (.int (P.1 1 3))]) (st' := []) rfl rfl rfl (Nat.le_of_ble_eq_true rfl) ⟨rfl, Or.inl (by decide)⟩ rfl (Nat.le_of_ble_eq_true rfl) (t_290 (3 : Int32) (P.1 1 3) P) (fun P11 => ?_)
        exact t_352_90 i0 N R hR x2 s0 (x3) P11
      · refine tr_icT (cd := .ne) h30 ?_
        refine tr_nil (rows2 := kb_352_83) rfl (List.cons_ne_nil _ _) ?_
        refine tr_blk 2 (pc' := 87) (rows' := kb_352_83.drop 2) (loc' := [.inr (5, 0, 0, i0), .inr (9, 0, 0, 1), .inl (.int x2), .inl (.int x3), .inl (.int s0)]) (st' := [.inl (.int (P.1 1 4)), .inl (.int (3 : Int32)), .inr (9, 0, 0, 1)]) (P1 := P) rfl ⟨trivial, trivial, trivial⟩ ?_
        refine tr_nil (rows2 := kb_352_87) rfl (List.cons_ne_nil _ _) ?_
        refine tr_cWV (z := km_290) (av := [.inr (9, 0, 0, 1), .inl (.int (3 : Int32)), .inl (.int (P.1 1 4))]) (st' := []) rfl rfl rfl (Nat.le_of_ble_eq_true rfl) ⟨rfl, Or.inl (by decide)⟩ rfl (Nat.le_of_ble_eq_true rfl) (t_290 (3 : Int32) (P.1 1 4) P) (fun P10 => ?_)
        exact t_352_90 i0 N R hR x2 s0 (x3) P10
def f_352_36 (i0 : Nat) (N : Nat) (R : Int32 → ab_P → Option ab_P) (x2 : Int32) (x3 : Int32) (P : ab_P) : Option ab_P :=
    if x3 = (40 : Int32) then
      f_352_53 i0 N R x2 x3 (10 : Int32) P
    else
    ab_b2 (f_320_1 N P) fun v9 P8 =>
    f_352_53 i0 N R x2 x3 v9 P8
theorem t_352_36 {xs : Nat × (Nat → Int32)} {d : Nat} (i0 : Nat) (N : Nat) (R : Int32 → ab_P → Option ab_P) (hR : ∀ (a2 : Int32) (P : ab_P), ab_tr xs wV (d + 5) 289 0 [] [.inr (5, 0, 0, i0), .inr (9, 0, 0, 1), .inl (.int a2), ab_top, ab_top] [] P (R a2 P)) : ∀ (x2 : Int32) (x3 : Int32) (P : ab_P), ab_tr xs wV (d + 6) 352 36 [] [.inr (5, 0, 0, i0), .inr (9, 0, 0, 1), .inl (.int x2), .inl (.int x3), ab_top] [] P (f_352_36 i0 N R x2 x3 P) := by
  intro x2 x3 P
  unfold f_352_36
  refine tr_nil (rows2 := kb_352_36) rfl (List.cons_ne_nil _ _) ?_
  refine tr_blk 2 (pc' := 39) (rows' := kb_352_36.drop 2) (loc' := [.inr (5, 0, 0, i0), .inr (9, 0, 0, 1), .inl (.int x2), .inl (.int x3), ab_top]) (st' := [.inl (.int (40 : Int32)), .inl (.int x3)]) (P1 := P) rfl ⟨trivial, trivial, trivial⟩ ?_
  refine tr_if (fun h31 => ?_) (fun h31 => ?_)
  · refine tr_icF (cd := .ne) (fun q => q h31) ?_
    refine tr_blk 1 (pc' := 44) (rows' := kb_352_36.drop 4) (loc' := [.inr (5, 0, 0, i0), .inr (9, 0, 0, 1), .inl (.int x2), .inl (.int x3), ab_top]) (st' := [.inl (.int (10 : Int32))]) (P1 := P) rfl ⟨trivial, trivial⟩ ?_
    refine tr_goto ?_
    exact t_352_53 i0 N R hR x2 x3 (10 : Int32) P
  · refine tr_icT (cd := .ne) h31 ?_
    refine tr_nil (rows2 := kb_352_47) rfl (List.cons_ne_nil _ _) ?_
    refine tr_blk 2 (pc' := 50) (rows' := kb_352_47.drop 2) (loc' := [.inr (5, 0, 0, i0), .inr (9, 0, 0, 1), .inl (.int x2), .inl (.int x3), ab_top]) (st' := [.inr (30, 1, 0, 4), .inr (9, 0, 0, 1)]) (P1 := P) rfl ⟨trivial, trivial, trivial⟩ ?_
    refine tr_cWI (z := km_320) (av := [.inr (9, 0, 0, 1), .inr (30, 1, 0, 4)]) (st' := []) rfl rfl rfl (Nat.le_of_ble_eq_true rfl) ⟨rfl, Or.inl (by decide)⟩ rfl (Nat.le_of_ble_eq_true rfl) (t_320_1 N P) (fun v9 P8 => ?_)
    exact t_352_53 i0 N R hR x2 x3 v9 P8
def f_352_15 (i0 : Nat) (N : Nat) (R : Int32 → ab_P → Option ab_P) (x2 : Int32) (s0 : Int32) (P : ab_P) : Option ab_P :=
    Option.bind (f_351 P s0) fun v4 =>
    if v4 = (0 : Int32) then
      f_352_36 i0 N R x2 s0 P
    else
    ab_b2 (f_323 N (0 : Int32) (999 : Int32) P) fun v6 P5 =>
    Option.bind (f_328 i0 v6 P5) fun P7 =>
    some P7
theorem t_352_15 {xs : Nat × (Nat → Int32)} {d : Nat} (i0 : Nat) (N : Nat) (R : Int32 → ab_P → Option ab_P) (hR : ∀ (a2 : Int32) (P : ab_P), ab_tr xs wV (d + 5) 289 0 [] [.inr (5, 0, 0, i0), .inr (9, 0, 0, 1), .inl (.int a2), ab_top, ab_top] [] P (R a2 P)) : ∀ (x2 : Int32) (s0 : Int32) (P : ab_P), ab_tr xs wV (d + 6) 352 15 [] [.inr (5, 0, 0, i0), .inr (9, 0, 0, 1), .inl (.int x2), ab_top, ab_top] [.inl (.int s0)] P (f_352_15 i0 N R x2 s0 P) := by
  intro x2 s0 P
  unfold f_352_15
  refine tr_nil (rows2 := kb_352_15) rfl (List.cons_ne_nil _ _) ?_
  refine tr_blk 2 (pc' := 17) (rows' := kb_352_15.drop 2) (loc' := [.inr (5, 0, 0, i0), .inr (9, 0, 0, 1), .inl (.int x2), .inl (.int s0), ab_top]) (st' := [.inl (.int s0)]) (P1 := P) rfl ⟨trivial, trivial, trivial⟩ ?_
  refine tr_cRI (z := km_351) (av := [.inl (.int s0)]) (st' := []) rfl rfl rfl (Nat.le_of_ble_eq_true rfl) trivial rfl (Nat.le_of_ble_eq_true rfl) (t_351 P s0) (fun v4 => ?_)
  refine tr_if (fun h32 => ?_) (fun h32 => ?_)
  · refine tr_ifT (cd := .eq) h32 ?_
    exact t_352_36 i0 N R hR x2 s0 P
  · refine tr_ifF (cd := .eq) h32 ?_
    refine tr_blk 4 (pc' := 29) (rows' := kb_352_15.drop 8) (loc' := [.inr (5, 0, 0, i0), .inr (9, 0, 0, 1), .inl (.int x2), .inl (.int s0), ab_top]) (st' := [.inl (.int (999 : Int32)), .inl (.int (0 : Int32)), .inr (9, 0, 0, 1), .inr (5, 0, 0, i0)]) (P1 := P) rfl ⟨trivial, trivial, trivial, trivial, trivial⟩ ?_
    refine tr_cWI (z := km_323) (av := [.inr (9, 0, 0, 1), .inl (.int (0 : Int32)), .inl (.int (999 : Int32))]) (st' := [.inr (5, 0, 0, i0)]) rfl rfl rfl (Nat.le_of_ble_eq_true rfl) ⟨rfl, Or.inl (by decide)⟩ rfl (Nat.le_of_ble_eq_true rfl) (t_323 N (0 : Int32) (999 : Int32) P) (fun v6 P5 => ?_)
    refine tr_cWV (z := km_328) (av := [.inr (5, 0, 0, i0), .inl (.int v6)]) (st' := []) rfl rfl rfl (Nat.le_of_ble_eq_true rfl) ⟨rfl, Or.inl (by decide)⟩ rfl (Nat.le_of_ble_eq_true rfl) (t_328 i0 v6 P5) (fun P7 => ?_)
    exact tr_reV (z := km_352) rfl rfl rfl
def f_352 (i0 : Nat) (N : Nat) (R : Int32 → ab_P → Option ab_P) (a2 : Int32) (P : ab_P) : Option ab_P :=
    Option.bind (f_201 P) fun v1 =>
    if v1 = (0 : Int32) then
      ab_b2 (f_319 N P) fun v3 P2 =>
      f_352_15 i0 N R a2 v3 P2
    else
    f_352_15 i0 N R a2 (-1 : Int32) P
theorem t_352 {xs : Nat × (Nat → Int32)} {d : Nat} (i0 : Nat) (N : Nat) (R : Int32 → ab_P → Option ab_P) (hR : ∀ (a2 : Int32) (P : ab_P), ab_tr xs wV (d + 5) 289 0 [] [.inr (5, 0, 0, i0), .inr (9, 0, 0, 1), .inl (.int a2), ab_top, ab_top] [] P (R a2 P)) : ∀ (a2 : Int32) (P : ab_P), ab_tr xs wV (d + 6) 352 0 [] [.inr (5, 0, 0, i0), .inr (9, 0, 0, 1), .inl (.int a2), ab_top, ab_top] [] P (f_352 i0 N R a2 P) := by
  intro a2 P
  unfold f_352
  refine tr_nil (rows2 := kb_352_0) rfl (List.cons_ne_nil _ _) ?_
  refine tr_blk 1 (pc' := 1) (rows' := kb_352_0.drop 1) (loc' := [.inr (5, 0, 0, i0), .inr (9, 0, 0, 1), .inl (.int a2), ab_top, ab_top]) (st' := [.inr (9, 0, 0, 1)]) (P1 := P) rfl ⟨trivial, trivial⟩ ?_
  refine tr_cRI (z := km_201) (av := [.inr (9, 0, 0, 1)]) (st' := []) rfl rfl rfl (Nat.le_of_ble_eq_true rfl) ⟨rfl, Or.inl (by decide)⟩ rfl (Nat.le_of_ble_eq_true rfl) (t_201 P) (fun v1 => ?_)
  refine tr_if (fun h33 => ?_) (fun h33 => ?_)
  · refine tr_ifT (cd := .eq) h33 ?_
    refine tr_nil (rows2 := kb_352_11) rfl (List.cons_ne_nil _ _) ?_
    refine tr_blk 1 (pc' := 12) (rows' := kb_352_11.drop 1) (loc' := [.inr (5, 0, 0, i0), .inr (9, 0, 0, 1), .inl (.int a2), ab_top, ab_top]) (st' := [.inr (9, 0, 0, 1)]) (P1 := P) rfl ⟨trivial, trivial⟩ ?_
    refine tr_cWI (z := km_319) (av := [.inr (9, 0, 0, 1)]) (st' := []) rfl rfl rfl (Nat.le_of_ble_eq_true rfl) ⟨rfl, Or.inl (by decide)⟩ rfl (Nat.le_of_ble_eq_true rfl) (t_319 N P) (fun v3 P2 => ?_)
    exact t_352_15 i0 N R hR a2 v3 P2
  · refine tr_ifF (cd := .eq) h33 ?_
    refine tr_blk 1 (pc' := 8) (rows' := kb_352_0.drop 4) (loc' := [.inr (5, 0, 0, i0), .inr (9, 0, 0, 1), .inl (.int a2), ab_top, ab_top]) (st' := [.inl (.int (-1 : Int32))]) (P1 := P) rfl ⟨trivial, trivial⟩ ?_
    refine tr_goto ?_
    exact t_352_15 i0 N R hR a2 (-1 : Int32) P
def f_327 (N : Nat) (a1 : Int32) (P : ab_P) : Option (Int32 × ab_P) :=
    if (P.1 1 5) = (0 : Int32) then
      ab_b2 (f_319 N P) fun v2 P1 =>
      if v2 = a1 then
        ab_lt (ab_pI P1 1 3 ((P1.1 1 3) + (1 : Int32))) fun P3 =>
        some ((1 : Int32), P3)
      else
      some ((0 : Int32), P1)
    else
    some ((0 : Int32), P)
theorem t_327 {xs : Nat × (Nat → Int32)} {d : Nat} (N : Nat) : ∀ (a1 : Int32) (P : ab_P), ab_tr xs wI (d + 2) 327 0 [] [.inr (9, 0, 0, 1), .inl (.int a1)] [] P (f_327 N a1 P) := by
  intro a1 P
  unfold f_327
  refine tr_nil (rows2 := kb_327_0) rfl (List.cons_ne_nil _ _) ?_
  refine tr_blk 2 (pc' := 4) (rows' := kb_327_0.drop 2) (loc' := [.inr (9, 0, 0, 1), .inl (.int a1)]) (st' := [.inl (.int (P.1 1 5))]) (P1 := P) rfl ⟨trivial, trivial, trivial⟩ ?_
  refine tr_if (fun h4 => ?_) (fun h4 => ?_)
  · refine tr_ifF (cd := .ne) (fun q => q h4) ?_
    refine tr_blk 1 (pc' := 8) (rows' := kb_327_0.drop 4) (loc' := [.inr (9, 0, 0, 1), .inl (.int a1)]) (st' := [.inr (9, 0, 0, 1)]) (P1 := P) rfl ⟨trivial, trivial⟩ ?_
    refine tr_cWI (z := km_319) (av := [.inr (9, 0, 0, 1)]) (st' := []) rfl rfl rfl (Nat.le_of_ble_eq_true rfl) ⟨rfl, Or.inl (by decide)⟩ rfl (Nat.le_of_ble_eq_true rfl) (t_319 N P) (fun v2 P1 => ?_)
    refine tr_blk 1 (pc' := 12) (rows' := kb_327_0.drop 6) (loc' := [.inr (9, 0, 0, 1), .inl (.int a1)]) (st' := [.inl (.int a1), .inl (.int v2)]) (P1 := P1) rfl ⟨trivial, trivial⟩ ?_
    refine tr_if (fun h5 => ?_) (fun h5 => ?_)
    · refine tr_icT (cd := .eq) h5 ?_
      refine tr_nil (rows2 := kb_327_17) rfl (List.cons_ne_nil _ _) ?_
      refine tr_blk 6 (pc' := 27) (rows' := kb_327_17.drop 6) (loc' := [.inr (9, 0, 0, 1), .inl (.int a1)]) (st' := []) (P1 := (ab_pI P1 1 3 ((P1.1 1 3) + (1 : Int32)))) rfl ⟨trivial, trivial, trivial, trivial, trivial, trivial, trivial⟩ ?_
      refine tr_lt (fun P3 => ?_)
      refine tr_blk 1 (pc' := 28) (rows' := kb_327_17.drop 7) (loc' := [.inr (9, 0, 0, 1), .inl (.int a1)]) (st' := [.inl (.int (1 : Int32))]) (P1 := P3) rfl ⟨trivial, trivial⟩ ?_
      exact tr_reI (z := km_327) rfl ⟨_, rfl, rfl⟩ rfl
    · refine tr_icF (cd := .eq) h5 ?_
      refine tr_nil (rows2 := kb_327_15) rfl (List.cons_ne_nil _ _) ?_
      refine tr_blk 1 (pc' := 16) (rows' := kb_327_15.drop 1) (loc' := [.inr (9, 0, 0, 1), .inl (.int a1)]) (st' := [.inl (.int (0 : Int32))]) (P1 := P1) rfl ⟨trivial, trivial⟩ ?_
      exact tr_reI (z := km_327) rfl ⟨_, rfl, rfl⟩ rfl
  · refine tr_ifT (cd := .ne) h4 ?_
    refine tr_nil (rows2 := kb_327_15) rfl (List.cons_ne_nil _ _) ?_
    refine tr_blk 1 (pc' := 16) (rows' := kb_327_15.drop 1) (loc' := [.inr (9, 0, 0, 1), .inl (.int a1)]) (st' := [.inl (.int (0 : Int32))]) (P1 := P) rfl ⟨trivial, trivial⟩ ?_
    exact tr_reI (z := km_327) rfl ⟨_, rfl, rfl⟩ rfl
def f_326_55 (i0 : Nat) (N : Nat) (R : Int32 → ab_P → Option ab_P) (H8 : Int32 → Int32 → ab_P → Option ab_P) (x2 : Int32) (x3 : Int32) (x4 : Int32) (P : ab_P) : Option ab_P :=
    Option.bind (f_352 i0 N R x2 P) fun P6 =>
    Option.bind (f_328 i0 x4 P6) fun P7 =>
    H8 x2 (x3 + 1) P7
theorem t_326_55 {xs : Nat × (Nat → Int32)} {d : Nat} (i0 : Nat) (N : Nat) (R : Int32 → ab_P → Option ab_P) (hR : ∀ (a2 : Int32) (P : ab_P), ab_tr xs wV (d + 5) 289 0 [] [.inr (5, 0, 0, i0), .inr (9, 0, 0, 1), .inl (.int a2), ab_top, ab_top] [] P (R a2 P)) (H8 : Int32 → Int32 → ab_P → Option ab_P) (hH8 : ∀ (x2 : Int32) (x3 : Int32) (d4 : ab_V) (P : ab_P), ab_tr xs wV (d + 7) 326 8 [] [.inr (5, 0, 0, i0), .inr (9, 0, 0, 1), .inl (.int x2), .inl (.int x3), d4] [] P (H8 x2 x3 P)) : ∀ (x2 : Int32) (x3 : Int32) (x4 : Int32) (P : ab_P), ab_tr xs wV (d + 7) 326 55 [] [.inr (5, 0, 0, i0), .inr (9, 0, 0, 1), .inl (.int x2), .inl (.int x3), .inl (.int x4)] [] P (f_326_55 i0 N R H8 x2 x3 x4 P) := by
  intro x2 x3 x4 P
  unfold f_326_55
  refine tr_nil (rows2 := kb_326_55) rfl (List.cons_ne_nil _ _) ?_
  refine tr_blk 3 (pc' := 58) (rows' := kb_326_55.drop 3) (loc' := [.inr (5, 0, 0, i0), .inr (9, 0, 0, 1), .inl (.int x2), .inl (.int x3), .inl (.int x4)]) (st' := [.inl (.int x2), .inr (9, 0, 0, 1), .inr (5, 0, 0, i0)]) (P1 := P) rfl ⟨trivial, trivial, trivial, trivial⟩ ?_
  refine tr_cWV (z := km_352) (av := [.inr (5, 0, 0, i0), .inr (9, 0, 0, 1), .inl (.int x2)]) (st' := []) rfl rfl rfl (Nat.le_of_ble_eq_true rfl) ⟨rfl, Or.inl (by decide)⟩ rfl (Nat.le_of_ble_eq_true rfl) (t_352 i0 N R hR x2 P) (fun P6 => ?_)
  refine tr_blk 2 (pc' := 64) (rows' := kb_326_55.drop 6) (loc' := [.inr (5, 0, 0, i0), .inr (9, 0, 0, 1), .inl (.int x2), .inl (.int x3), .inl (.int x4)]) (st' := [.inl (.int x4), .inr (5, 0, 0, i0)]) (P1 := P6) rfl ⟨trivial, trivial, trivial⟩ ?_
  refine tr_cWV (z := km_328) (av := [.inr (5, 0, 0, i0), .inl (.int x4)]) (st' := []) rfl rfl rfl (Nat.le_of_ble_eq_true rfl) ⟨rfl, Or.inl (by decide)⟩ rfl (Nat.le_of_ble_eq_true rfl) (t_328 i0 x4 P6) (fun P7 => ?_)
  refine tr_blk 1 (pc' := 70) (rows' := kb_326_55.drop 8) (loc' := [.inr (5, 0, 0, i0), .inr (9, 0, 0, 1), .inl (.int x2), .inl (.int (x3 + 1)), .inl (.int x4)]) (st' := []) (P1 := P7) rfl ⟨trivial, trivial⟩ ?_
  refine tr_goto ?_
  exact hH8 x2 (x3 + 1) (.inl (.int x4)) P7
def f_326_8 (i0 : Nat) (N : Nat) (R : Int32 → ab_P → Option ab_P) : Nat → Int32 → Int32 → ab_P → Option ab_P
  | 0, _, _, _ => none
  | n + 1, x2, x3, P =>
    if x3 < (150 : Int32) then
      ab_b2 (f_327 N (42 : Int32) P) fun v3 P2 =>
      if v3 = (0 : Int32) then
        ab_b2 (f_327 N (47 : Int32) P2) fun v5 P4 =>
        if v5 = (0 : Int32) then
          some P4
        else
        f_326_55 i0 N R (fun y0 y1 y2 => f_326_8 i0 N R n y0 y1 y2) x2 x3 (2003 : Int32) P4
      else
      f_326_55 i0 N R (fun y0 y1 y2 => f_326_8 i0 N R n y0 y1 y2) x2 x3 (2002 : Int32) P2
    else
    some P
theorem t_326_8 {xs : Nat × (Nat → Int32)} {d : Nat} (i0 : Nat) (N : Nat) (R : Int32 → ab_P → Option ab_P) (hR : ∀ (a2 : Int32) (P : ab_P), ab_tr xs wV (d + 5) 289 0 [] [.inr (5, 0, 0, i0), .inr (9, 0, 0, 1), .inl (.int a2), ab_top, ab_top] [] P (R a2 P)) : ∀ n : Nat, ∀ (x2 : Int32) (x3 : Int32) (d4 : ab_V) (P : ab_P), ab_tr xs wV (d + 7) 326 8 [] [.inr (5, 0, 0, i0), .inr (9, 0, 0, 1), .inl (.int x2), .inl (.int x3), d4] [] P (f_326_8 i0 N R n x2 x3 P) := by
  intro n
  induction n with
  | zero => intro x2 x3 d4 P; exact tr_no
  | succ n ih =>
    intro x2 x3 d4 P
    refine tr_nil (rows2 := kb_326_8) rfl (List.cons_ne_nil _ _) ?_
    refine tr_blk 2 (pc' := 12) (rows' := kb_326_8.drop 2) (loc' := [.inr (5, 0, 0, i0), .inr (9, 0, 0, 1), .inl (.int x2), .inl (.int x3), d4]) (st' := [.inl (.int (150 : Int32)), .inl (.int x3)]) (P1 := P) rfl ⟨trivial, trivial, trivial⟩ ?_
    refine tr_if (fun h8 => ?_) (fun h8 => ?_)
    · refine tr_icF (cd := .ge) (Int32.not_le.mpr h8) ?_
      refine tr_blk 2 (pc' := 18) (rows' := kb_326_8.drop 5) (loc' := [.inr (5, 0, 0, i0), .inr (9, 0, 0, 1), .inl (.int x2), .inl (.int x3), d4]) (st' := [.inl (.int (42 : Int32)), .inr (9, 0, 0, 1)]) (P1 := P) rfl ⟨trivial, trivial, trivial⟩ ?_
      refine tr_cWI (z := km_327) (av := [.inr (9, 0, 0, 1), .inl (.int (42 : Int32))]) (st' := []) rfl rfl rfl (Nat.le_of_ble_eq_true rfl) ⟨rfl, Or.inl (by decide)⟩ rfl (Nat.le_of_ble_eq_true rfl) (t_327 N (42 : Int32) P) (fun v3 P2 => ?_)
      refine tr_if (fun h9 => ?_) (fun h9 => ?_)
      · refine tr_ifT (cd := .eq) h9 ?_
        refine tr_nil (rows2 := kb_326_30) rfl (List.cons_ne_nil _ _) ?_
        refine tr_blk 2 (pc' := 33) (rows' := kb_326_30.drop 2) (loc' := [.inr (5, 0, 0, i0), .inr (9, 0, 0, 1), .inl (.int x2), .inl (.int x3), d4]) (st' := [.inl (.int (47 : Int32)), .inr (9, 0, 0, 1)]) (P1 := P2) rfl ⟨trivial, trivial, trivial⟩ ?_
        refine tr_cWI (z := km_327) (av := [.inr (9, 0, 0, 1), .inl (.int (47 : Int32))]) (st' := []) rfl rfl rfl (Nat.le_of_ble_eq_true rfl) ⟨rfl, Or.inl (by decide)⟩ rfl (Nat.le_of_ble_eq_true rfl) (t_327 N (47 : Int32) P2) (fun v5 P4 => ?_)
        refine tr_if (fun h10 => ?_) (fun h10 => ?_)
        · refine tr_ifT (cd := .eq) h10 ?_
          refine tr_nil (rows2 := kb_326_45) rfl (List.cons_ne_nil _ _) ?_
          refine tr_blk 1 (pc' := 46) (rows' := kb_326_45.drop 1) (loc' := [.inr (5, 0, 0, i0), .inr (9, 0, 0, 1), .inl (.int x2), .inl (.int x3), d4]) (st' := [.inl (.int (-1 : Int32))]) (P1 := P4) rfl ⟨trivial, trivial⟩ ?_
          refine tr_nil (rows2 := kb_326_46) rfl (List.cons_ne_nil _ _) ?_
          refine tr_blk 3 (pc' := 51) (rows' := kb_326_46.drop 3) (loc' := [.inr (5, 0, 0, i0), .inr (9, 0, 0, 1), .inl (.int x2), .inl (.int x3), .inl (.int (-1 : Int32))]) (st' := [.inl (.int (-1 : Int32)), .inl (.int (-1 : Int32))]) (P1 := P4) rfl ⟨trivial, trivial, trivial, trivial⟩ ?_
          refine tr_icF (cd := .ne) (ab_cdF (by decide)) ?_
          exact tr_reV (z := km_326) rfl rfl rfl
        · refine tr_ifF (cd := .eq) h10 ?_
          refine tr_blk 1 (pc' := 42) (rows' := kb_326_30.drop 5) (loc' := [.inr (5, 0, 0, i0), .inr (9, 0, 0, 1), .inl (.int x2), .inl (.int x3), d4]) (st' := [.inl (.int (2003 : Int32))]) (P1 := P4) rfl ⟨trivial, trivial⟩ ?_
          refine tr_goto ?_
          refine tr_nil (rows2 := kb_326_46) rfl (List.cons_ne_nil _ _) ?_
          refine tr_blk 3 (pc' := 51) (rows' := kb_326_46.drop 3) (loc' := [.inr (5, 0, 0, i0), .inr (9, 0, 0, 1), .inl (.int x2), .inl (.int x3), .inl (.int (2003 : Int32))]) (st' := [.inl (.int (-1 : Int32)), .inl (.int (2003 : Int32))]) (P1 := P4) rfl ⟨trivial, trivial, trivial, trivial⟩ ?_
          refine tr_icT (cd := .ne) (ab_cdT (by decide)) ?_
          exact t_326_55 i0 N R hR _ ih x2 x3 (2003 : Int32) P4
      · refine tr_ifF (cd := .eq) h9 ?_
        refine tr_blk 1 (pc' := 27) (rows' := kb_326_8.drop 8) (loc' := [.inr (5, 0, 0, i0), .inr (9, 0, 0, 1), .inl (.int x2), .inl (.int x3), d4]) (st' := [.inl (.int (2002 : Int32))]) (P1 := P2) rfl ⟨trivial, trivial⟩ ?_
        refine tr_goto ?_
        refine tr_nil (rows2 := kb_326_46) rfl (List.cons_ne_nil _ _) ?_
        refine tr_blk 3 (pc' := 51) (rows' := kb_326_46.drop 3) (loc' := [.inr (5, 0, 0, i0), .inr (9, 0, 0, 1), .inl (.int x2), .inl (.int x3), .inl (.int (2002 : Int32))]) (st' := [.inl (.int (-1 : Int32)), .inl (.int (2002 : Int32))]) (P1 := P2) rfl ⟨trivial, trivial, trivial, trivial⟩ ?_
        refine tr_icT (cd := .ne) (ab_cdT (by decide)) ?_
        exact t_326_55 i0 N R hR _ ih x2 x3 (2002 : Int32) P2
    · refine tr_icT (cd := .ge) (Int32.not_lt.mp h8) ?_
      refine tr_nil (rows2 := kb_326_73) rfl (List.cons_ne_nil _ _) ?_
      exact tr_reV (z := km_326) rfl rfl rfl
def f_326 (i0 : Nat) (N : Nat) (R : Int32 → ab_P → Option ab_P) (a2 : Int32) (P : ab_P) : Option ab_P :=
    Option.bind (f_352 i0 N R a2 P) fun P1 =>
    f_326_8 i0 N R N a2 (0 : Int32) P1
theorem t_326 {xs : Nat × (Nat → Int32)} {d : Nat} (i0 : Nat) (N : Nat) (R : Int32 → ab_P → Option ab_P) (hR : ∀ (a2 : Int32) (P : ab_P), ab_tr xs wV (d + 5) 289 0 [] [.inr (5, 0, 0, i0), .inr (9, 0, 0, 1), .inl (.int a2), ab_top, ab_top] [] P (R a2 P)) : ∀ (a2 : Int32) (P : ab_P), ab_tr xs wV (d + 7) 326 0 [] [.inr (5, 0, 0, i0), .inr (9, 0, 0, 1), .inl (.int a2), ab_top, ab_top] [] P (f_326 i0 N R a2 P) := by
  intro a2 P
  unfold f_326
  refine tr_nil (rows2 := kb_326_0) rfl (List.cons_ne_nil _ _) ?_
  refine tr_blk 3 (pc' := 3) (rows' := kb_326_0.drop 3) (loc' := [.inr (5, 0, 0, i0), .inr (9, 0, 0, 1), .inl (.int a2), ab_top, ab_top]) (st' := [.inl (.int a2), .inr (9, 0, 0, 1), .inr (5, 0, 0, i0)]) (P1 := P) rfl ⟨trivial, trivial, trivial, trivial⟩ ?_
  refine tr_cWV (z := km_352) (av := [.inr (5, 0, 0, i0), .inr (9, 0, 0, 1), .inl (.int a2)]) (st' := []) rfl rfl rfl (Nat.le_of_ble_eq_true rfl) ⟨rfl, Or.inl (by decide)⟩ rfl (Nat.le_of_ble_eq_true rfl) (t_352 i0 N R hR a2 P) (fun P1 => ?_)
  refine tr_blk 2 (pc' := 8) (rows' := kb_326_0.drop 6) (loc' := [.inr (5, 0, 0, i0), .inr (9, 0, 0, 1), .inl (.int a2), .inl (.int (0 : Int32)), ab_top]) (st' := []) (P1 := P1) rfl ⟨trivial, trivial, trivial⟩ ?_
  exact t_326_8 i0 N R hR N a2 (0 : Int32) (ab_top) P1
def f_289_55 (i0 : Nat) (N : Nat) (R : Int32 → ab_P → Option ab_P) (H8 : Int32 → Int32 → ab_P → Option ab_P) (x2 : Int32) (x3 : Int32) (x4 : Int32) (P : ab_P) : Option ab_P :=
    Option.bind (f_326 i0 N R x2 P) fun P6 =>
    Option.bind (f_328 i0 x4 P6) fun P7 =>
    H8 x2 (x3 + 1) P7
theorem t_289_55 {xs : Nat × (Nat → Int32)} {d : Nat} (i0 : Nat) (N : Nat) (R : Int32 → ab_P → Option ab_P) (hR : ∀ (a2 : Int32) (P : ab_P), ab_tr xs wV (d + 5) 289 0 [] [.inr (5, 0, 0, i0), .inr (9, 0, 0, 1), .inl (.int a2), ab_top, ab_top] [] P (R a2 P)) (H8 : Int32 → Int32 → ab_P → Option ab_P) (hH8 : ∀ (x2 : Int32) (x3 : Int32) (d4 : ab_V) (P : ab_P), ab_tr xs wV (d + 8) 289 8 [] [.inr (5, 0, 0, i0), .inr (9, 0, 0, 1), .inl (.int x2), .inl (.int x3), d4] [] P (H8 x2 x3 P)) : ∀ (x2 : Int32) (x3 : Int32) (x4 : Int32) (P : ab_P), ab_tr xs wV (d + 8) 289 55 [] [.inr (5, 0, 0, i0), .inr (9, 0, 0, 1), .inl (.int x2), .inl (.int x3), .inl (.int x4)] [] P (f_289_55 i0 N R H8 x2 x3 x4 P) := by
  intro x2 x3 x4 P
  unfold f_289_55
  refine tr_nil (rows2 := kb_289_55) rfl (List.cons_ne_nil _ _) ?_
  refine tr_blk 3 (pc' := 58) (rows' := kb_289_55.drop 3) (loc' := [.inr (5, 0, 0, i0), .inr (9, 0, 0, 1), .inl (.int x2), .inl (.int x3), .inl (.int x4)]) (st' := [.inl (.int x2), .inr (9, 0, 0, 1), .inr (5, 0, 0, i0)]) (P1 := P) rfl ⟨trivial, trivial, trivial, trivial⟩ ?_
  refine tr_cWV (z := km_326) (av := [.inr (5, 0, 0, i0), .inr (9, 0, 0, 1), .inl (.int x2)]) (st' := []) rfl rfl rfl (Nat.le_of_ble_eq_true rfl) ⟨rfl, Or.inl (by decide)⟩ rfl (Nat.le_of_ble_eq_true rfl) (t_326 i0 N R hR x2 P) (fun P6 => ?_)
  refine tr_blk 2 (pc' := 64) (rows' := kb_289_55.drop 6) (loc' := [.inr (5, 0, 0, i0), .inr (9, 0, 0, 1), .inl (.int x2), .inl (.int x3), .inl (.int x4)]) (st' := [.inl (.int x4), .inr (5, 0, 0, i0)]) (P1 := P6) rfl ⟨trivial, trivial, trivial⟩ ?_
  refine tr_cWV (z := km_328) (av := [.inr (5, 0, 0, i0), .inl (.int x4)]) (st' := []) rfl rfl rfl (Nat.le_of_ble_eq_true rfl) ⟨rfl, Or.inl (by decide)⟩ rfl (Nat.le_of_ble_eq_true rfl) (t_328 i0 x4 P6) (fun P7 => ?_)
  refine tr_blk 1 (pc' := 70) (rows' := kb_289_55.drop 8) (loc' := [.inr (5, 0, 0, i0), .inr (9, 0, 0, 1), .inl (.int x2), .inl (.int (x3 + 1)), .inl (.int x4)]) (st' := []) (P1 := P7) rfl ⟨trivial, trivial⟩ ?_
  refine tr_goto ?_
  exact hH8 x2 (x3 + 1) (.inl (.int x4)) P7
def f_289_8 (i0 : Nat) (N : Nat) (R : Int32 → ab_P → Option ab_P) : Nat → Int32 → Int32 → ab_P → Option ab_P
  | 0, _, _, _ => none
  | n + 1, x2, x3, P =>
    if x3 < (150 : Int32) then
      ab_b2 (f_327 N (43 : Int32) P) fun v3 P2 =>
      if v3 = (0 : Int32) then
        ab_b2 (f_327 N (45 : Int32) P2) fun v5 P4 =>
        if v5 = (0 : Int32) then
          some P4
        else
        f_289_55 i0 N R (fun y0 y1 y2 => f_289_8 i0 N R n y0 y1 y2) x2 x3 (2001 : Int32) P4
      else
      f_289_55 i0 N R (fun y0 y1 y2 => f_289_8 i0 N R n y0 y1 y2) x2 x3 (2000 : Int32) P2
    else
    some P
theorem t_289_8 {xs : Nat × (Nat → Int32)} {d : Nat} (i0 : Nat) (N : Nat) (R : Int32 → ab_P → Option ab_P) (hR : ∀ (a2 : Int32) (P : ab_P), ab_tr xs wV (d + 5) 289 0 [] [.inr (5, 0, 0, i0), .inr (9, 0, 0, 1), .inl (.int a2), ab_top, ab_top] [] P (R a2 P)) : ∀ n : Nat, ∀ (x2 : Int32) (x3 : Int32) (d4 : ab_V) (P : ab_P), ab_tr xs wV (d + 8) 289 8 [] [.inr (5, 0, 0, i0), .inr (9, 0, 0, 1), .inl (.int x2), .inl (.int x3), d4] [] P (f_289_8 i0 N R n x2 x3 P) := by
  intro n
  induction n with
  | zero => intro x2 x3 d4 P; exact tr_no
  | succ n ih =>
    intro x2 x3 d4 P
    refine tr_nil (rows2 := kb_289_8) rfl (List.cons_ne_nil _ _) ?_
    refine tr_blk 2 (pc' := 12) (rows' := kb_289_8.drop 2) (loc' := [.inr (5, 0, 0, i0), .inr (9, 0, 0, 1), .inl (.int x2), .inl (.int x3), d4]) (st' := [.inl (.int (150 : Int32)), .inl (.int x3)]) (P1 := P) rfl ⟨trivial, trivial, trivial⟩ ?_
    refine tr_if (fun h8 => ?_) (fun h8 => ?_)
    · refine tr_icF (cd := .ge) (Int32.not_le.mpr h8) ?_
      refine tr_blk 2 (pc' := 18) (rows' := kb_289_8.drop 5) (loc' := [.inr (5, 0, 0, i0), .inr (9, 0, 0, 1), .inl (.int x2), .inl (.int x3), d4]) (st' := [.inl (.int (43 : Int32)), .inr (9, 0, 0, 1)]) (P1 := P) rfl ⟨trivial, trivial, trivial⟩ ?_
      refine tr_cWI (z := km_327) (av := [.inr (9, 0, 0, 1), .inl (.int (43 : Int32))]) (st' := []) rfl rfl rfl (Nat.le_of_ble_eq_true rfl) ⟨rfl, Or.inl (by decide)⟩ rfl (Nat.le_of_ble_eq_true rfl) (t_327 N (43 : Int32) P) (fun v3 P2 => ?_)
      refine tr_if (fun h9 => ?_) (fun h9 => ?_)
      · refine tr_ifT (cd := .eq) h9 ?_
        refine tr_nil (rows2 := kb_289_30) rfl (List.cons_ne_nil _ _) ?_
        refine tr_blk 2 (pc' := 33) (rows' := kb_289_30.drop 2) (loc' := [.inr (5, 0, 0, i0), .inr (9, 0, 0, 1), .inl (.int x2), .inl (.int x3), d4]) (st' := [.inl (.int (45 : Int32)), .inr (9, 0, 0, 1)]) (P1 := P2) rfl ⟨trivial, trivial, trivial⟩ ?_
        refine tr_cWI (z := km_327) (av := [.inr (9, 0, 0, 1), .inl (.int (45 : Int32))]) (st' := []) rfl rfl rfl (Nat.le_of_ble_eq_true rfl) ⟨rfl, Or.inl (by decide)⟩ rfl (Nat.le_of_ble_eq_true rfl) (t_327 N (45 : Int32) P2) (fun v5 P4 => ?_)
        refine tr_if (fun h10 => ?_) (fun h10 => ?_)
        · refine tr_ifT (cd := .eq) h10 ?_
          refine tr_nil (rows2 := kb_289_45) rfl (List.cons_ne_nil _ _) ?_
          refine tr_blk 1 (pc' := 46) (rows' := kb_289_45.drop 1) (loc' := [.inr (5, 0, 0, i0), .inr (9, 0, 0, 1), .inl (.int x2), .inl (.int x3), d4]) (st' := [.inl (.int (-1 : Int32))]) (P1 := P4) rfl ⟨trivial, trivial⟩ ?_
          refine tr_nil (rows2 := kb_289_46) rfl (List.cons_ne_nil _ _) ?_
          refine tr_blk 3 (pc' := 51) (rows' := kb_289_46.drop 3) (loc' := [.inr (5, 0, 0, i0), .inr (9, 0, 0, 1), .inl (.int x2), .inl (.int x3), .inl (.int (-1 : Int32))]) (st' := [.inl (.int (-1 : Int32)), .inl (.int (-1 : Int32))]) (P1 := P4) rfl ⟨trivial, trivial, trivial, trivial⟩ ?_
          refine tr_icF (cd := .ne) (ab_cdF (by decide)) ?_
          exact tr_reV (z := km_289) rfl rfl rfl
        · refine tr_ifF (cd := .eq) h10 ?_
          refine tr_blk 1 (pc' := 42) (rows' := kb_289_30.drop 5) (loc' := [.inr (5, 0, 0, i0), .inr (9, 0, 0, 1), .inl (.int x2), .inl (.int x3), d4]) (st' := [.inl (.int (2001 : Int32))]) (P1 := P4) rfl ⟨trivial, trivial⟩ ?_
          refine tr_goto ?_
          refine tr_nil (rows2 := kb_289_46) rfl (List.cons_ne_nil _ _) ?_
          refine tr_blk 3 (pc' := 51) (rows' := kb_289_46.drop 3) (loc' := [.inr (5, 0, 0, i0), .inr (9, 0, 0, 1), .inl (.int x2), .inl (.int x3), .inl (.int (2001 : Int32))]) (st' := [.inl (.int (-1 : Int32)), .inl (.int (2001 : Int32))]) (P1 := P4) rfl ⟨trivial, trivial, trivial, trivial⟩ ?_
          refine tr_icT (cd := .ne) (ab_cdT (by decide)) ?_
          exact t_289_55 i0 N R hR _ ih x2 x3 (2001 : Int32) P4
      · refine tr_ifF (cd := .eq) h9 ?_
        refine tr_blk 1 (pc' := 27) (rows' := kb_289_8.drop 8) (loc' := [.inr (5, 0, 0, i0), .inr (9, 0, 0, 1), .inl (.int x2), .inl (.int x3), d4]) (st' := [.inl (.int (2000 : Int32))]) (P1 := P2) rfl ⟨trivial, trivial⟩ ?_
        refine tr_goto ?_
        refine tr_nil (rows2 := kb_289_46) rfl (List.cons_ne_nil _ _) ?_
        refine tr_blk 3 (pc' := 51) (rows' := kb_289_46.drop 3) (loc' := [.inr (5, 0, 0, i0), .inr (9, 0, 0, 1), .inl (.int x2), .inl (.int x3), .inl (.int (2000 : Int32))]) (st' := [.inl (.int (-1 : Int32)), .inl (.int (2000 : Int32))]) (P1 := P2) rfl ⟨trivial, trivial, trivial, trivial⟩ ?_
        refine tr_icT (cd := .ne) (ab_cdT (by decide)) ?_
        exact t_289_55 i0 N R hR _ ih x2 x3 (2000 : Int32) P2
    · refine tr_icT (cd := .ge) (Int32.not_lt.mp h8) ?_
      refine tr_nil (rows2 := kb_289_73) rfl (List.cons_ne_nil _ _) ?_
      exact tr_reV (z := km_289) rfl rfl rfl
def f_289 (i0 : Nat) (N : Nat) : Nat → Int32 → ab_P → Option ab_P
  | 0, _, _ => none
  | n + 1, a2, P =>
    Option.bind (f_326 i0 N (fun y0 y1 => f_289 i0 N n y0 y1) a2 P) fun P1 =>
    f_289_8 i0 N (fun y0 y1 => f_289 i0 N n y0 y1) N a2 (0 : Int32) P1
theorem t_289 {xs : Nat × (Nat → Int32)} (i0 : Nat) (N : Nat) : ∀ (n d : Nat) (a2 : Int32) (P : ab_P), ab_tr xs wV (d + 3 * n + 5) 289 0 [] [.inr (5, 0, 0, i0), .inr (9, 0, 0, 1), .inl (.int a2), ab_top, ab_top] [] P (f_289 i0 N n a2 P) := by
  intro n
  induction n with
  | zero => intro d a2 P; exact tr_no
  | succ n ih =>
    intro d a2 P
    refine tr_up (d1 := (d + 3 * n) + 8) (by omega) ?_
    refine tr_nil (rows2 := kb_289_0) rfl (List.cons_ne_nil _ _) ?_
    refine tr_blk 3 (pc' := 3) (rows' := kb_289_0.drop 3) (loc' := [.inr (5, 0, 0, i0), .inr (9, 0, 0, 1), .inl (.int a2), ab_top, ab_top]) (st' := [.inl (.int a2), .inr (9, 0, 0, 1), .inr (5, 0, 0, i0)]) (P1 := P) rfl ⟨trivial, trivial, trivial, trivial⟩ ?_
    refine tr_cWV (z := km_326) (av := [.inr (5, 0, 0, i0), .inr (9, 0, 0, 1), .inl (.int a2)]) (st' := []) rfl rfl rfl (Nat.le_of_ble_eq_true rfl) ⟨rfl, Or.inl (by decide)⟩ rfl (Nat.le_of_ble_eq_true rfl) (t_326 i0 N (fun y0 y1 => f_289 i0 N n y0 y1) (ih d) a2 P) (fun P1 => ?_)
    refine tr_blk 2 (pc' := 8) (rows' := kb_289_0.drop 6) (loc' := [.inr (5, 0, 0, i0), .inr (9, 0, 0, 1), .inl (.int a2), .inl (.int (0 : Int32)), ab_top]) (st' := []) (P1 := P1) rfl ⟨trivial, trivial, trivial⟩ ?_
    exact t_289_8 i0 N (fun y0 y1 => f_289 i0 N n y0 y1) (ih d) N a2 (0 : Int32) (ab_top) P1
theorem tq_289 {xs : Nat × (Nat → Int32)} {d : Nat} (i0 : Nat) (K : Nat) (N : Nat) (hd : 3 * K ≤ d) (a2 : Int32) (P : ab_P) : ab_tr xs wV (d + 5) 289 0 [] [.inr (5, 0, 0, i0), .inr (9, 0, 0, 1), .inl (.int a2), ab_top, ab_top] [] P (f_289 i0 N K a2 P) := by
  have h := t_289 (xs := xs) i0 N K (d - 3 * K) a2 P
  rw [Nat.sub_add_cancel hd] at h
  exact h
def f_210 (i0 : Nat) (K : Nat) (N : Nat) (P : ab_P) : Option ab_P :=
    ab_lt (ab_pI P i0 1 (0 : Int32)) fun P1 =>
    Option.bind (f_289 i0 N K (0 : Int32) P1) fun P2 =>
    ab_b2 (f_282 N P2) fun v4 P3 =>
    if v4 = (0 : Int32) then
      some P3
    else
    Option.bind (f_290 (1 : Int32) (P3.1 1 3) P3) fun P5 =>
    some P5
theorem t_210 {xs : Nat × (Nat → Int32)} {d : Nat} (i0 : Nat) (K : Nat) (N : Nat) (hd : 3 * K ≤ d) : ∀ (P : ab_P), ab_tr xs wV (d + 6) 210 0 [] [.inr (5, 0, 0, i0), .inr (9, 0, 0, 1)] [] P (f_210 i0 K N P) := by
  intro P
  unfold f_210
  refine tr_nil (rows2 := kb_210_0) rfl (List.cons_ne_nil _ _) ?_
  refine tr_blk 3 (pc' := 5) (rows' := kb_210_0.drop 3) (loc' := [.inr (5, 0, 0, i0), .inr (9, 0, 0, 1)]) (st' := []) (P1 := (ab_pI P i0 1 (0 : Int32))) rfl ⟨trivial, trivial, trivial, trivial⟩ ?_
  refine tr_lt (fun P1 => ?_)
  refine tr_blk 3 (pc' := 8) (rows' := kb_210_0.drop 6) (loc' := [.inr (5, 0, 0, i0), .inr (9, 0, 0, 1)]) (st' := [.inl (.int (0 : Int32)), .inr (9, 0, 0, 1), .inr (5, 0, 0, i0)]) (P1 := P1) rfl ⟨trivial, trivial, trivial, trivial⟩ ?_
  refine tr_cWV (z := km_289) (av := [.inr (5, 0, 0, i0), .inr (9, 0, 0, 1), .inl (.int (0 : Int32))]) (st' := []) rfl rfl rfl (Nat.le_of_ble_eq_true rfl) ⟨rfl, Or.inl (by decide)⟩ rfl (Nat.le_of_ble_eq_true rfl) (tq_289 i0 K N (by omega) (0 : Int32) P1) (fun P2 => ?_)
  refine tr_blk 1 (pc' := 12) (rows' := kb_210_0.drop 8) (loc' := [.inr (5, 0, 0, i0), .inr (9, 0, 0, 1)]) (st' := [.inr (9, 0, 0, 1)]) (P1 := P2) rfl ⟨trivial, trivial⟩ ?_
  refine tr_cWI (z := km_282) (av := [.inr (9, 0, 0, 1)]) (st' := []) rfl rfl rfl (Nat.le_of_ble_eq_true rfl) ⟨rfl, Or.inl (by decide)⟩ rfl (Nat.le_of_ble_eq_true rfl) (t_282 N P2) (fun v4 P3 => ?_)
  refine tr_if (fun h6 => ?_) (fun h6 => ?_)
  · refine tr_ifT (cd := .eq) h6 ?_
    refine tr_nil (rows2 := kb_210_27) rfl (List.cons_ne_nil _ _) ?_
    exact tr_reV (z := km_210) rfl rfl rfl
  · refine tr_ifF (cd := .eq) h6 ?_
    refine tr_blk 4 (pc' := 24) (rows' := kb_210_0.drop 14) (loc' := [.inr (5, 0, 0, i0), .inr (9, 0, 0, 1)]) (st' := [.inl (.int (P3.1 1 3)), .inl (.int (1 : Int32)), .inr (9, 0, 0, 1)]) (P1 := P3) rfl ⟨trivial, trivial, trivial, trivial, trivial⟩ ?_
    refine tr_cWV (z := km_290) (av := [.inr (9, 0, 0, 1), .inl (.int (1 : Int32)), .inl (.int (P3.1 1 3))]) (st' := []) rfl rfl rfl (Nat.le_of_ble_eq_true rfl) ⟨rfl, Or.inl (by decide)⟩ rfl (Nat.le_of_ble_eq_true rfl) (t_290 (1 : Int32) (P3.1 1 3) P3) (fun P5 => ?_)
    refine tr_nil (rows2 := kb_210_27) rfl (List.cons_ne_nil _ _) ?_
    exact tr_reV (z := km_210) rfl rfl rfl
def f_211 (i0 : Nat) (i1 : Nat) (P : ab_P) : Option ab_P :=
    ab_lt (ab_pC P (i0 + 1) (P.1 (i1 + 1)) 0 0 150) fun P1 =>
    ab_lt (ab_pI P1 i0 1 (P1.1 i1 1)) fun P2 =>
    some P2
theorem t_211 {xs : Nat × (Nat → Int32)} {d : Nat} (i0 : Nat) (i1 : Nat) : ∀ (P : ab_P), ab_tr xs wV (d + 0) 211 0 [] [.inr (5, 0, 0, i0), .inr (5, 0, 0, i1)] [] P (f_211 i0 i1 P) := by
  intro P
  unfold f_211
  refine tr_nil (rows2 := kb_211_0) rfl (List.cons_ne_nil _ _) ?_
  refine tr_blk 8 (pc' := 16) (rows' := kb_211_0.drop 8) (loc' := [.inr (5, 0, 0, i0), .inr (5, 0, 0, i1)]) (st' := []) (P1 := (ab_pC P (i0 + 1) (P.1 (i1 + 1)) 0 0 150)) rfl ⟨trivial, trivial, trivial, trivial, trivial, trivial, trivial, (by decide), trivial⟩ ?_
  refine tr_lt (fun P1 => ?_)
  refine tr_blk 4 (pc' := 24) (rows' := kb_211_0.drop 12) (loc' := [.inr (5, 0, 0, i0), .inr (5, 0, 0, i1)]) (st' := []) (P1 := (ab_pI P1 i0 1 (P1.1 i1 1))) rfl ⟨trivial, trivial, trivial, trivial, trivial⟩ ?_
  refine tr_lt (fun P2 => ?_)
  exact tr_reV (z := km_211) rfl rfl rfl
def f_118 (K : Nat) (N : Nat) (a1 : Int32) (P : ab_P) : Option ((Int32 ⊕ Fin 3) × ab_P) :=
    ab_x2 (f_198 a1 (150 : Int32) P) (fun _ P1 =>
    Option.bind (f_199 a1 P1) fun P2 =>
    Option.bind (f_210 18 K N P2) fun P3 =>
    Option.bind (f_201 P3) fun v4 =>
    if v4 = (0 : Int32) then
      Option.bind (f_211 15 18 P3) fun P5 =>
      some (.inl (1 : Int32), P5)
    else
    some (.inl ((P3.1 1 5) - (10 : Int32)), P3)) (fun q => q)
theorem t_118 {xs : Nat × (Nat → Int32)} {d : Nat} (K : Nat) (N : Nat) (hd : 3 * K ≤ d) : ∀ (a1 : Int32) (P : ab_P), ab_tr xs xI (d + 7) 118 0 [] [.inr (11, 0, 0, 0), .inl (.int a1)] [] P (f_118 K N a1 P) := by
  intro a1 P
  unfold f_118
  refine tr_nil (rows2 := kb_118_0) rfl (List.cons_ne_nil _ _) ?_
  refine tr_blk 3 (pc' := 5) (rows' := kb_118_0.drop 3) (loc' := [.inr (11, 0, 0, 0), .inl (.int a1)]) (st' := [.inl (.int (150 : Int32)), .inl (.int a1), .inr (11, 0, 0, 0)]) (P1 := P) rfl ⟨trivial, trivial, trivial, trivial⟩ ?_
  refine tr_cax (fun _ => none) (zi := km_118) (fun _ => rfl) (fun _ _ => rfl) rfl rfl (z := km_198) (av := [.inr (11, 0, 0, 0), .inl (.int a1), .inl (.int (150 : Int32))]) (st' := []) rfl rfl rfl (Nat.le_of_ble_eq_true rfl) ⟨rfl, Or.inl (by decide)⟩ rfl (Nat.le_of_ble_eq_true rfl) (t_198 a1 (150 : Int32) P) (fun _ P1 => ?_)
  refine tr_blk 3 (pc' := 13) (rows' := kb_118_0.drop 7) (loc' := [.inr (11, 0, 0, 0), .inl (.int a1)]) (st' := [.inl (.int a1), .inr (9, 0, 0, 1)]) (P1 := P1) rfl ⟨trivial, trivial, trivial, trivial⟩ ?_
  refine tr_cWV (z := km_199) (av := [.inr (9, 0, 0, 1), .inl (.int a1)]) (st' := []) rfl rfl rfl (Nat.le_of_ble_eq_true rfl) ⟨rfl, Or.inl (by decide)⟩ rfl (Nat.le_of_ble_eq_true rfl) (t_199 a1 P1) (fun P2 => ?_)
  refine tr_blk 4 (pc' := 24) (rows' := kb_118_0.drop 12) (loc' := [.inr (11, 0, 0, 0), .inl (.int a1)]) (st' := [.inr (9, 0, 0, 1), .inr (5, 0, 0, 18)]) (P1 := P2) rfl ⟨trivial, trivial, trivial, trivial, trivial⟩ ?_
  refine tr_cWV (z := km_210) (av := [.inr (5, 0, 0, 18), .inr (9, 0, 0, 1)]) (st' := []) rfl rfl rfl (Nat.le_of_ble_eq_true rfl) ⟨rfl, Or.inl (by decide)⟩ rfl (Nat.le_of_ble_eq_true rfl) (t_210 18 K N (by omega) P2) (fun P3 => ?_)
  refine tr_blk 2 (pc' := 31) (rows' := kb_118_0.drop 15) (loc' := [.inr (11, 0, 0, 0), .inl (.int a1)]) (st' := [.inr (9, 0, 0, 1)]) (P1 := P3) rfl ⟨trivial, trivial, trivial⟩ ?_
  refine tr_cRI (z := km_201) (av := [.inr (9, 0, 0, 1)]) (st' := []) rfl rfl rfl (Nat.le_of_ble_eq_true rfl) ⟨rfl, Or.inl (by decide)⟩ rfl (Nat.le_of_ble_eq_true rfl) (t_201 P3) (fun v4 => ?_)
  refine tr_if (fun h6 => ?_) (fun h6 => ?_)
  · refine tr_ifT (cd := .eq) h6 ?_
    refine tr_nil (rows2 := kb_118_48) rfl (List.cons_ne_nil _ _) ?_
    refine tr_blk 4 (pc' := 56) (rows' := kb_118_48.drop 4) (loc' := [.inr (11, 0, 0, 0), .inl (.int a1)]) (st' := [.inr (5, 0, 0, 18), .inr (5, 0, 0, 15)]) (P1 := P3) rfl ⟨trivial, trivial, trivial, trivial, trivial⟩ ?_
    refine tr_cWV (z := km_211) (av := [.inr (5, 0, 0, 15), .inr (5, 0, 0, 18)]) (st' := []) rfl rfl rfl (Nat.le_of_ble_eq_true rfl) ⟨rfl, Or.inl (by decide)⟩ rfl (Nat.le_of_ble_eq_true rfl) (t_211 15 18 P3) (fun P5 => ?_)
    refine tr_blk 1 (pc' := 60) (rows' := kb_118_48.drop 6) (loc' := [.inr (11, 0, 0, 0), .inl (.int a1)]) (st' := [.inl (.int (1 : Int32))]) (P1 := P5) rfl ⟨trivial, trivial⟩ ?_
    exact tr_reI (z := km_118) rfl ⟨_, rfl, rfl⟩ rfl
  · refine tr_ifF (cd := .eq) h6 ?_
    refine tr_blk 5 (pc' := 47) (rows' := kb_118_0.drop 22) (loc' := [.inr (11, 0, 0, 0), .inl (.int a1)]) (st' := [.inl (.int ((P3.1 1 5) - (10 : Int32)))]) (P1 := P3) rfl ⟨trivial, trivial, trivial, trivial, trivial, trivial⟩ ?_
    exact tr_reI (z := km_118) rfl ⟨_, rfl, rfl⟩ rfl
def f_8_1 (K : Nat) (N : Nat) (a1 : Int32) (P : ab_P) : Option (Int32 × ab_P) :=
    ab_h2 (f_118 K N a1 P) (fun v2 P1 =>
    ab_lt (ab_pL P1 570 0 (v2).toInt64) fun P3 =>
    some ((0 : Int32), P3))
    (fun _ => none) (fun P9 => some ((1 : Int32), P9)) (fun _ => none)
theorem t_8_1 {xs : Nat × (Nat → Int32)} {d : Nat} (K : Nat) (N : Nat) (hd : 3 * K ≤ d) : ∀ (a1 : Int32) (P : ab_P), ab_tr xs wI (d + 8) 8 0 [] [.inr (11, 0, 0, 0), .inl (.int a1), .inr (22, 1, 0, 570), ab_top] [] P (f_8_1 K N a1 P) := by
  intro a1 P
  unfold f_8_1
  refine tr_nil (rows2 := kb_8_0) rfl (List.cons_ne_nil _ _) ?_
  refine tr_blk 4 (pc' := 4) (rows' := kb_8_0.drop 4) (loc' := [.inr (11, 0, 0, 0), .inl (.int a1), .inr (22, 1, 0, 570), ab_top]) (st' := [.inl (.int a1), .inr (11, 0, 0, 0), .inl (.int (0 : Int32)), .inr (22, 1, 0, 570)]) (P1 := P) rfl ⟨trivial, trivial, trivial, trivial, trivial⟩ ?_
  refine tr_cah (fun b => some (.inl (.int b))) (zi := km_8) (fun _ => rfl) rfl (z := km_118) (av := [.inr (11, 0, 0, 0), .inl (.int a1)]) (st' := [.inl (.int (0 : Int32)), .inr (22, 1, 0, 570)]) rfl rfl rfl (Nat.le_of_ble_eq_true rfl) ⟨rfl, Or.inl (by decide)⟩ rfl (Nat.le_of_ble_eq_true rfl) (t_118 K N (by omega) a1 P) (fun v2 P1 => ?_) ?_ ?_ ?_
  · refine tr_blk 2 (pc' := 9) (rows' := kb_8_0.drop 7) (loc' := [.inr (11, 0, 0, 0), .inl (.int a1), .inr (22, 1, 0, 570), ab_top]) (st' := []) (P1 := (ab_pL P1 570 0 (v2).toInt64)) rfl ⟨trivial, (ab_vi (by decide)), trivial⟩ ?_
    refine tr_lt (fun P3 => ?_)
    refine tr_goto ?_
    refine tr_nil (rows2 := kb_8_15) rfl (List.cons_ne_nil _ _) ?_
    refine tr_blk 1 (pc' := 16) (rows' := kb_8_15.drop 1) (loc' := [.inr (11, 0, 0, 0), .inl (.int a1), .inr (22, 1, 0, 570), ab_top]) (st' := [.inl (.int (0 : Int32))]) (P1 := P3) rfl ⟨trivial, trivial⟩ ?_
    exact tr_reI (z := km_8) rfl ⟨_, rfl, rfl⟩ rfl
  · exact fun _ => rfl
  · exact fun _ => tr_han (rows2 := kb_8_12) (z := km_8) _ (fun q => [.inr (11, 0, 0, 0), .inl (.int a1), .inr (22, 1, 0, 570), .inr (40, 1, 0, q)]) rfl (List.cons_ne_nil _ _) (fun q => rfl) ⟨trivial, trivial, trivial⟩ rfl ⟨_, rfl, rfl⟩ rfl
  · exact fun _ => rfl
def f_353 (N : Nat) (a1 : Int32) (a2 : Int32) (a3 : Int32) (a4 : Int32) (a5 : Int32) (a6 : Int32) (a7 : Int32) (a8 : Int32) (P : ab_P) : Option (Int32 × ab_P) :=
    ab_b2 (f_206 N a1 a2 a3 a4 a5 a6 a7 a8 P) fun v2 P1 =>
    if v2 = (0 : Int32) then
      if vp_nar .boolean v2 = v2 then
      some (v2, P1)
      else none
    else
    Option.bind (f_207 N P1) fun P4 =>
    if vp_nar .boolean v2 = v2 then
    some (v2, P4)
    else none
theorem t_353 {xs : Nat × (Nat → Int32)} {d : Nat} (N : Nat) : ∀ (a1 : Int32) (a2 : Int32) (a3 : Int32) (a4 : Int32) (a5 : Int32) (a6 : Int32) (a7 : Int32) (a8 : Int32) (P : ab_P), ab_tr xs wI (d + 4) 353 0 [] [.inr (12, 0, 0, 72), .inl (.int a1), .inl (.int a2), .inl (.int a3), .inl (.int a4), .inl (.int a5), .inl (.int a6), .inl (.int a7), .inl (.int a8), ab_top] [] P (f_353 N a1 a2 a3 a4 a5 a6 a7 a8 P) := by
  intro a1 a2 a3 a4 a5 a6 a7 a8 P
  unfold f_353
  refine tr_nil (rows2 := kb_353_0) rfl (List.cons_ne_nil _ _) ?_
  refine tr_blk 9 (pc' := 14) (rows' := kb_353_0.drop 9) (loc' := [.inr (12, 0, 0, 72), .inl (.int a1), .inl (.int a2), .inl (.int a3), .inl (.int a4), .inl (.int a5), .inl (.int a6), .inl (.int a7), .inl (.int a8), ab_top]) (st' := [.inl (.int a8), .inl (.int a7), .inl (.int a6), .inl (.int a5), .inl (.int a4), .inl (.int a3), .inl (.int a2), .inl (.int a1), .inr (12, 0, 0, 72)]) (P1 := P) rfl ⟨trivial, trivial, trivial, trivial, trivial, trivial, trivial, trivial, trivial, trivial⟩ ?_
  refine tr_cWI (z := km_206) (av := [.inr (12, 0, 0, 72), .inl (.int a1), .inl (.int a2), .inl (.int a3), .inl (.int a4), .inl (.int a5), .inl (.int a6), .inl (.int a7), .inl (.int a8)]) (st' := []) rfl rfl rfl (Nat.le_of_ble_eq_true rfl) ⟨rfl, Or.inl (by decide)⟩ rfl (Nat.le_of_ble_eq_true rfl) (t_206 N a1 a2 a3 a4 a5 a6 a7 a8 P) (fun v2 P1 => ?_)
  refine tr_blk 2 (pc' := 21) (rows' := kb_353_0.drop 12) (loc' := [.inr (12, 0, 0, 72), .inl (.int a1), .inl (.int a2), .inl (.int a3), .inl (.int a4), .inl (.int a5), .inl (.int a6), .inl (.int a7), .inl (.int a8), .inl (.int v2)]) (st' := [.inl (.int v2)]) (P1 := P1) rfl ⟨trivial, trivial, trivial⟩ ?_
  refine tr_if (fun h6 => ?_) (fun h6 => ?_)
  · refine tr_ifT (cd := .eq) h6 ?_
    refine tr_nil (rows2 := kb_353_28) rfl (List.cons_ne_nil _ _) ?_
    refine tr_gd (fun h3 => ?_)
    refine tr_blk 1 (pc' := 30) (rows' := kb_353_28.drop 1) (loc' := [.inr (12, 0, 0, 72), .inl (.int a1), .inl (.int a2), .inl (.int a3), .inl (.int a4), .inl (.int a5), .inl (.int a6), .inl (.int a7), .inl (.int a8), .inl (.int v2)]) (st' := [.inl (.int v2)]) (P1 := P1) rfl ⟨trivial, trivial⟩ ?_
    exact tr_reI (z := km_353) rfl ⟨_, rfl, ab_nar (by decide) h3⟩ rfl
  · refine tr_ifF (cd := .eq) h6 ?_
    refine tr_blk 1 (pc' := 25) (rows' := kb_353_0.drop 14) (loc' := [.inr (12, 0, 0, 72), .inl (.int a1), .inl (.int a2), .inl (.int a3), .inl (.int a4), .inl (.int a5), .inl (.int a6), .inl (.int a7), .inl (.int a8), .inl (.int v2)]) (st' := [.inr (12, 0, 0, 72)]) (P1 := P1) rfl ⟨trivial, trivial⟩ ?_
    refine tr_cWV (z := km_207) (av := [.inr (12, 0, 0, 72)]) (st' := []) rfl rfl rfl (Nat.le_of_ble_eq_true rfl) ⟨rfl, Or.inl (by decide)⟩ rfl (Nat.le_of_ble_eq_true rfl) (t_207 N P1) (fun P4 => ?_)
    refine tr_nil (rows2 := kb_353_28) rfl (List.cons_ne_nil _ _) ?_
    refine tr_gd (fun h5 => ?_)
    refine tr_blk 1 (pc' := 30) (rows' := kb_353_28.drop 1) (loc' := [.inr (12, 0, 0, 72), .inl (.int a1), .inl (.int a2), .inl (.int a3), .inl (.int a4), .inl (.int a5), .inl (.int a6), .inl (.int a7), .inl (.int a8), .inl (.int v2)]) (st' := [.inl (.int v2)]) (P1 := P4) rfl ⟨trivial, trivial⟩ ?_
    exact tr_reI (z := km_353) rfl ⟨_, rfl, ab_nar (by decide) h5⟩ rfl
def f_330 (N : Nat) (P : ab_P) : Option (Int32 × ab_P) :=
    ab_b2 (f_353 N (19 : Int32) (9 : Int32) (26 : Int32) (5 : Int32) (0 : Int32) (0 : Int32) (0 : Int32) (0 : Int32) P) fun v2 P1 =>
    if v2 = (0 : Int32) then
      ab_b2 (f_353 N (1 : Int32) (7 : Int32) (5 : Int32) (0 : Int32) (0 : Int32) (0 : Int32) (0 : Int32) (0 : Int32) P1) fun v4 P3 =>
      if v4 = (0 : Int32) then
        ab_b2 (f_353 N (20 : Int32) (5 : Int32) (13 : Int32) (16 : Int32) (5 : Int32) (18 : Int32) (0 : Int32) (0 : Int32) P3) fun v6 P5 =>
        if v6 = (0 : Int32) then
          ab_b2 (f_353 N (8 : Int32) (5 : Int32) (1 : Int32) (20 : Int32) (0 : Int32) (0 : Int32) (0 : Int32) (0 : Int32) P5) fun v8 P7 =>
          if v8 = (0 : Int32) then
            ab_b2 (f_353 N (16 : Int32) (1 : Int32) (19 : Int32) (19 : Int32) (5 : Int32) (4 : Int32) (0 : Int32) (0 : Int32) P7) fun v10 P9 =>
            if v10 = (0 : Int32) then
              ab_b2 (f_353 N (20 : Int32) (15 : Int32) (12 : Int32) (4 : Int32) (0 : Int32) (0 : Int32) (0 : Int32) (0 : Int32) P9) fun v12 P11 =>
              if v12 = (0 : Int32) then
                ab_b2 (f_353 N (4 : Int32) (1 : Int32) (25 : Int32) (0 : Int32) (0 : Int32) (0 : Int32) (0 : Int32) (0 : Int32) P11) fun v14 P13 =>
                if v14 = (0 : Int32) then
                  ab_b2 (f_353 N (8 : Int32) (5 : Int32) (12 : Int32) (4 : Int32) (0 : Int32) (0 : Int32) (0 : Int32) (0 : Int32) P13) fun v16 P15 =>
                  if v16 = (0 : Int32) then
                    some ((-1 : Int32), P15)
                  else
                  some ((7 : Int32), P15)
                else
                some ((6 : Int32), P13)
              else
              some ((5 : Int32), P11)
            else
            some ((4 : Int32), P9)
          else
          some ((3 : Int32), P7)
        else
        some ((2 : Int32), P5)
      else
      some ((1 : Int32), P3)
    else
    some ((0 : Int32), P1)
theorem t_330 {xs : Nat × (Nat → Int32)} {d : Nat} (N : Nat) : ∀ (P : ab_P), ab_tr xs wI (d + 5) 330 0 [] [.inr (12, 0, 0, 72)] [] P (f_330 N P) := by
  intro P
  unfold f_330
  refine tr_nil (rows2 := kb_330_0) rfl (List.cons_ne_nil _ _) ?_
  refine tr_blk 9 (pc' := 12) (rows' := kb_330_0.drop 9) (loc' := [.inr (12, 0, 0, 72)]) (st' := [.inl (.int (0 : Int32)), .inl (.int (0 : Int32)), .inl (.int (0 : Int32)), .inl (.int (0 : Int32)), .inl (.int (5 : Int32)), .inl (.int (26 : Int32)), .inl (.int (9 : Int32)), .inl (.int (19 : Int32)), .inr (12, 0, 0, 72)]) (P1 := P) rfl ⟨trivial, trivial, trivial, trivial, trivial, trivial, trivial, trivial, trivial, trivial⟩ ?_
  refine tr_cWI (z := km_353) (av := [.inr (12, 0, 0, 72), .inl (.int (19 : Int32)), .inl (.int (9 : Int32)), .inl (.int (26 : Int32)), .inl (.int (5 : Int32)), .inl (.int (0 : Int32)), .inl (.int (0 : Int32)), .inl (.int (0 : Int32)), .inl (.int (0 : Int32))]) (st' := []) rfl rfl rfl (Nat.le_of_ble_eq_true rfl) ⟨rfl, Or.inl (by decide)⟩ rfl (Nat.le_of_ble_eq_true rfl) (t_353 N (19 : Int32) (9 : Int32) (26 : Int32) (5 : Int32) (0 : Int32) (0 : Int32) (0 : Int32) (0 : Int32) P) (fun v2 P1 => ?_)
  refine tr_if (fun h17 => ?_) (fun h17 => ?_)
  · refine tr_ifT (cd := .eq) h17 ?_
    refine tr_nil (rows2 := kb_330_20) rfl (List.cons_ne_nil _ _) ?_
    refine tr_blk 9 (pc' := 30) (rows' := kb_330_20.drop 9) (loc' := [.inr (12, 0, 0, 72)]) (st' := [.inl (.int (0 : Int32)), .inl (.int (0 : Int32)), .inl (.int (0 : Int32)), .inl (.int (0 : Int32)), .inl (.int (0 : Int32)), .inl (.int (5 : Int32)), .inl (.int (7 : Int32)), .inl (.int (1 : Int32)), .inr (12, 0, 0, 72)]) (P1 := P1) rfl ⟨trivial, trivial, trivial, trivial, trivial, trivial, trivial, trivial, trivial, trivial⟩ ?_
    refine tr_cWI (z := km_353) (av := [.inr (12, 0, 0, 72), .inl (.int (1 : Int32)), .inl (.int (7 : Int32)), .inl (.int (5 : Int32)), .inl (.int (0 : Int32)), .inl (.int (0 : Int32)), .inl (.int (0 : Int32)), .inl (.int (0 : Int32)), .inl (.int (0 : Int32))]) (st' := []) rfl rfl rfl (Nat.le_of_ble_eq_true rfl) ⟨rfl, Or.inl (by decide)⟩ rfl (Nat.le_of_ble_eq_true rfl) (t_353 N (1 : Int32) (7 : Int32) (5 : Int32) (0 : Int32) (0 : Int32) (0 : Int32) (0 : Int32) (0 : Int32) P1) (fun v4 P3 => ?_)
    refine tr_if (fun h18 => ?_) (fun h18 => ?_)
    · refine tr_ifT (cd := .eq) h18 ?_
      refine tr_nil (rows2 := kb_330_38) rfl (List.cons_ne_nil _ _) ?_
      refine tr_blk 9 (pc' := 51) (rows' := kb_330_38.drop 9) (loc' := [.inr (12, 0, 0, 72)]) (st' := [.inl (.int (0 : Int32)), .inl (.int (0 : Int32)), .inl (.int (18 : Int32)), .inl (.int (5 : Int32)), .inl (.int (16 : Int32)), .inl (.int (13 : Int32)), .inl (.int (5 : Int32)), .inl (.int (20 : Int32)), .inr (12, 0, 0, 72)]) (P1 := P3) rfl ⟨trivial, trivial, trivial, trivial, trivial, trivial, trivial, trivial, trivial, trivial⟩ ?_
      refine tr_cWI (z := km_353) (av := [.inr (12, 0, 0, 72), .inl (.int (20 : Int32)), .inl (.int (5 : Int32)), .inl (.int (13 : Int32)), .inl (.int (16 : Int32)), .inl (.int (5 : Int32)), .inl (.int (18 : Int32)), .inl (.int (0 : Int32)), .inl (.int (0 : Int32))]) (st' := []) rfl rfl rfl (Nat.le_of_ble_eq_true rfl) ⟨rfl, Or.inl (by decide)⟩ rfl (Nat.le_of_ble_eq_true rfl) (t_353 N (20 : Int32) (5 : Int32) (13 : Int32) (16 : Int32) (5 : Int32) (18 : Int32) (0 : Int32) (0 : Int32) P3) (fun v6 P5 => ?_)
      refine tr_if (fun h19 => ?_) (fun h19 => ?_)
      · refine tr_ifT (cd := .eq) h19 ?_
        refine tr_nil (rows2 := kb_330_59) rfl (List.cons_ne_nil _ _) ?_
        refine tr_blk 9 (pc' := 70) (rows' := kb_330_59.drop 9) (loc' := [.inr (12, 0, 0, 72)]) (st' := [.inl (.int (0 : Int32)), .inl (.int (0 : Int32)), .inl (.int (0 : Int32)), .inl (.int (0 : Int32)), .inl (.int (20 : Int32)), .inl (.int (1 : Int32)), .inl (.int (5 : Int32)), .inl (.int (8 : Int32)), .inr (12, 0, 0, 72)]) (P1 := P5) rfl ⟨trivial, trivial, trivial, trivial, trivial, trivial, trivial, trivial, trivial, trivial⟩ ?_
        refine tr_cWI (z := km_353) (av := [.inr (12, 0, 0, 72), .inl (.int (8 : Int32)), .inl (.int (5 : Int32)), .inl (.int (1 : Int32)), .inl (.int (20 : Int32)), .inl (.int (0 : Int32)), .inl (.int (0 : Int32)), .inl (.int (0 : Int32)), .inl (.int (0 : Int32))]) (st' := []) rfl rfl rfl (Nat.le_of_ble_eq_true rfl) ⟨rfl, Or.inl (by decide)⟩ rfl (Nat.le_of_ble_eq_true rfl) (t_353 N (8 : Int32) (5 : Int32) (1 : Int32) (20 : Int32) (0 : Int32) (0 : Int32) (0 : Int32) (0 : Int32) P5) (fun v8 P7 => ?_)
        refine tr_if (fun h20 => ?_) (fun h20 => ?_)
        · refine tr_ifT (cd := .eq) h20 ?_
          refine tr_nil (rows2 := kb_330_78) rfl (List.cons_ne_nil _ _) ?_
          refine tr_blk 9 (pc' := 90) (rows' := kb_330_78.drop 9) (loc' := [.inr (12, 0, 0, 72)]) (st' := [.inl (.int (0 : Int32)), .inl (.int (0 : Int32)), .inl (.int (4 : Int32)), .inl (.int (5 : Int32)), .inl (.int (19 : Int32)), .inl (.int (19 : Int32)), .inl (.int (1 : Int32)), .inl (.int (16 : Int32)), .inr (12, 0, 0, 72)]) (P1 := P7) rfl ⟨trivial, trivial, trivial, trivial, trivial, trivial, trivial, trivial, trivial, trivial⟩ ?_
          refine tr_cWI (z := km_353) (av := [.inr (12, 0, 0, 72), .inl (.int (16 : Int32)), .inl (.int (1 : Int32)), .inl (.int (19 : Int32)), .inl (.int (19 : Int32)), .inl (.int (5 : Int32)), .inl (.int (4 : Int32)), .inl (.int (0 : Int32)), .inl (.int (0 : Int32))]) (st' := []) rfl rfl rfl (Nat.le_of_ble_eq_true rfl) ⟨rfl, Or.inl (by decide)⟩ rfl (Nat.le_of_ble_eq_true rfl) (t_353 N (16 : Int32) (1 : Int32) (19 : Int32) (19 : Int32) (5 : Int32) (4 : Int32) (0 : Int32) (0 : Int32) P7) (fun v10 P9 => ?_)
          refine tr_if (fun h21 => ?_) (fun h21 => ?_)
          · refine tr_ifT (cd := .eq) h21 ?_
            refine tr_nil (rows2 := kb_330_98) rfl (List.cons_ne_nil _ _) ?_
            refine tr_blk 9 (pc' := 110) (rows' := kb_330_98.drop 9) (loc' := [.inr (12, 0, 0, 72)]) (st' := [.inl (.int (0 : Int32)), .inl (.int (0 : Int32)), .inl (.int (0 : Int32)), .inl (.int (0 : Int32)), .inl (.int (4 : Int32)), .inl (.int (12 : Int32)), .inl (.int (15 : Int32)), .inl (.int (20 : Int32)), .inr (12, 0, 0, 72)]) (P1 := P9) rfl ⟨trivial, trivial, trivial, trivial, trivial, trivial, trivial, trivial, trivial, trivial⟩ ?_
            refine tr_cWI (z := km_353) (av := [.inr (12, 0, 0, 72), .inl (.int (20 : Int32)), .inl (.int (15 : Int32)), .inl (.int (12 : Int32)), .inl (.int (4 : Int32)), .inl (.int (0 : Int32)), .inl (.int (0 : Int32)), .inl (.int (0 : Int32)), .inl (.int (0 : Int32))]) (st' := []) rfl rfl rfl (Nat.le_of_ble_eq_true rfl) ⟨rfl, Or.inl (by decide)⟩ rfl (Nat.le_of_ble_eq_true rfl) (t_353 N (20 : Int32) (15 : Int32) (12 : Int32) (4 : Int32) (0 : Int32) (0 : Int32) (0 : Int32) (0 : Int32) P9) (fun v12 P11 => ?_)
            refine tr_if (fun h22 => ?_) (fun h22 => ?_)
            · refine tr_ifT (cd := .eq) h22 ?_
              refine tr_nil (rows2 := kb_330_118) rfl (List.cons_ne_nil _ _) ?_
              refine tr_blk 9 (pc' := 128) (rows' := kb_330_118.drop 9) (loc' := [.inr (12, 0, 0, 72)]) (st' := [.inl (.int (0 : Int32)), .inl (.int (0 : Int32)), .inl (.int (0 : Int32)), .inl (.int (0 : Int32)), .inl (.int (0 : Int32)), .inl (.int (25 : Int32)), .inl (.int (1 : Int32)), .inl (.int (4 : Int32)), .inr (12, 0, 0, 72)]) (P1 := P11) rfl ⟨trivial, trivial, trivial, trivial, trivial, trivial, trivial, trivial, trivial, trivial⟩ ?_
              refine tr_cWI (z := km_353) (av := [.inr (12, 0, 0, 72), .inl (.int (4 : Int32)), .inl (.int (1 : Int32)), .inl (.int (25 : Int32)), .inl (.int (0 : Int32)), .inl (.int (0 : Int32)), .inl (.int (0 : Int32)), .inl (.int (0 : Int32)), .inl (.int (0 : Int32))]) (st' := []) rfl rfl rfl (Nat.le_of_ble_eq_true rfl) ⟨rfl, Or.inl (by decide)⟩ rfl (Nat.le_of_ble_eq_true rfl) (t_353 N (4 : Int32) (1 : Int32) (25 : Int32) (0 : Int32) (0 : Int32) (0 : Int32) (0 : Int32) (0 : Int32) P11) (fun v14 P13 => ?_)
              refine tr_if (fun h23 => ?_) (fun h23 => ?_)
              · refine tr_ifT (cd := .eq) h23 ?_
                refine tr_nil (rows2 := kb_330_137) rfl (List.cons_ne_nil _ _) ?_
                refine tr_blk 9 (pc' := 148) (rows' := kb_330_137.drop 9) (loc' := [.inr (12, 0, 0, 72)]) (st' := [.inl (.int (0 : Int32)), .inl (.int (0 : Int32)), .inl (.int (0 : Int32)), .inl (.int (0 : Int32)), .inl (.int (4 : Int32)), .inl (.int (12 : Int32)), .inl (.int (5 : Int32)), .inl (.int (8 : Int32)), .inr (12, 0, 0, 72)]) (P1 := P13) rfl ⟨trivial, trivial, trivial, trivial, trivial, trivial, trivial, trivial, trivial, trivial⟩ ?_
                refine tr_cWI (z := km_353) (av := [.inr (12, 0, 0, 72), .inl (.int (8 : Int32)), .inl (.int (5 : Int32)), .inl (.int (12 : Int32)), .inl (.int (4 : Int32)), .inl (.int (0 : Int32)), .inl (.int (0 : Int32)), .inl (.int (0 : Int32)), .inl (.int (0 : Int32))]) (st' := []) rfl rfl rfl (Nat.le_of_ble_eq_true rfl) ⟨rfl, Or.inl (by decide)⟩ rfl (Nat.le_of_ble_eq_true rfl) (t_353 N (8 : Int32) (5 : Int32) (12 : Int32) (4 : Int32) (0 : Int32) (0 : Int32) (0 : Int32) (0 : Int32) P13) (fun v16 P15 => ?_)
                refine tr_if (fun h24 => ?_) (fun h24 => ?_)
                · refine tr_ifT (cd := .eq) h24 ?_
                  refine tr_nil (rows2 := kb_330_159) rfl (List.cons_ne_nil _ _) ?_
                  refine tr_blk 1 (pc' := 160) (rows' := kb_330_159.drop 1) (loc' := [.inr (12, 0, 0, 72)]) (st' := [.inl (.int (-1 : Int32))]) (P1 := P15) rfl ⟨trivial, trivial⟩ ?_
                  refine tr_nil (rows2 := kb_330_160) rfl (List.cons_ne_nil _ _) ?_
                  exact tr_reI (z := km_330) rfl ⟨_, rfl, rfl⟩ rfl
                · refine tr_ifF (cd := .eq) h24 ?_
                  refine tr_blk 1 (pc' := 156) (rows' := kb_330_137.drop 12) (loc' := [.inr (12, 0, 0, 72)]) (st' := [.inl (.int (7 : Int32))]) (P1 := P15) rfl ⟨trivial, trivial⟩ ?_
                  refine tr_goto ?_
                  refine tr_nil (rows2 := kb_330_160) rfl (List.cons_ne_nil _ _) ?_
                  exact tr_reI (z := km_330) rfl ⟨_, rfl, rfl⟩ rfl
              · refine tr_ifF (cd := .eq) h23 ?_
                refine tr_blk 1 (pc' := 136) (rows' := kb_330_118.drop 12) (loc' := [.inr (12, 0, 0, 72)]) (st' := [.inl (.int (6 : Int32))]) (P1 := P13) rfl ⟨trivial, trivial⟩ ?_
                exact tr_reI (z := km_330) rfl ⟨_, rfl, rfl⟩ rfl
            · refine tr_ifF (cd := .eq) h22 ?_
              refine tr_blk 1 (pc' := 117) (rows' := kb_330_98.drop 12) (loc' := [.inr (12, 0, 0, 72)]) (st' := [.inl (.int (5 : Int32))]) (P1 := P11) rfl ⟨trivial, trivial⟩ ?_
              exact tr_reI (z := km_330) rfl ⟨_, rfl, rfl⟩ rfl
          · refine tr_ifF (cd := .eq) h21 ?_
            refine tr_blk 1 (pc' := 97) (rows' := kb_330_78.drop 12) (loc' := [.inr (12, 0, 0, 72)]) (st' := [.inl (.int (4 : Int32))]) (P1 := P9) rfl ⟨trivial, trivial⟩ ?_
            exact tr_reI (z := km_330) rfl ⟨_, rfl, rfl⟩ rfl
        · refine tr_ifF (cd := .eq) h20 ?_
          refine tr_blk 1 (pc' := 77) (rows' := kb_330_59.drop 12) (loc' := [.inr (12, 0, 0, 72)]) (st' := [.inl (.int (3 : Int32))]) (P1 := P7) rfl ⟨trivial, trivial⟩ ?_
          exact tr_reI (z := km_330) rfl ⟨_, rfl, rfl⟩ rfl
      · refine tr_ifF (cd := .eq) h19 ?_
        refine tr_blk 1 (pc' := 58) (rows' := kb_330_38.drop 12) (loc' := [.inr (12, 0, 0, 72)]) (st' := [.inl (.int (2 : Int32))]) (P1 := P5) rfl ⟨trivial, trivial⟩ ?_
        exact tr_reI (z := km_330) rfl ⟨_, rfl, rfl⟩ rfl
    · refine tr_ifF (cd := .eq) h18 ?_
      refine tr_blk 1 (pc' := 37) (rows' := kb_330_20.drop 12) (loc' := [.inr (12, 0, 0, 72)]) (st' := [.inl (.int (1 : Int32))]) (P1 := P3) rfl ⟨trivial, trivial⟩ ?_
      exact tr_reI (z := km_330) rfl ⟨_, rfl, rfl⟩ rfl
  · refine tr_ifF (cd := .eq) h17 ?_
    refine tr_blk 1 (pc' := 19) (rows' := kb_330_0.drop 12) (loc' := [.inr (12, 0, 0, 72)]) (st' := [.inl (.int (0 : Int32))]) (P1 := P1) rfl ⟨trivial, trivial⟩ ?_
    exact tr_reI (z := km_330) rfl ⟨_, rfl, rfl⟩ rfl
def f_213 (a1 : Int32) (a2 : Int32) (P : ab_P) : Option ab_P :=
    if (P.1 72 5) = (0 : Int32) then
      if ab_gi (P.1 72 17) 160 then
      ab_lt (ab_pI P (265 + 1 + ((P.1 72 17)).toNatClampNeg) 0 a1) fun P2 =>
      if ab_gi (P2.1 72 17) 160 then
      ab_lt (ab_pI P2 (265 + 1 + ((P2.1 72 17)).toNatClampNeg) 1 a2) fun P4 =>
      ab_lt (ab_pI P4 72 17 ((P4.1 72 17) + (1 : Int32))) fun P5 =>
      some P5
      else none
      else none
    else
    some P
theorem t_213 {xs : Nat × (Nat → Int32)} {d : Nat} : ∀ (a1 : Int32) (a2 : Int32) (P : ab_P), ab_tr xs wV (d + 0) 213 0 [] [.inr (12, 0, 0, 72), .inl (.int a1), .inl (.int a2)] [] P (f_213 a1 a2 P) := by
  intro a1 a2 P
  unfold f_213
  refine tr_nil (rows2 := kb_213_0) rfl (List.cons_ne_nil _ _) ?_
  refine tr_blk 2 (pc' := 4) (rows' := kb_213_0.drop 2) (loc' := [.inr (12, 0, 0, 72), .inl (.int a1), .inl (.int a2)]) (st' := [.inl (.int (P.1 72 5))]) (P1 := P) rfl ⟨trivial, trivial, trivial⟩ ?_
  refine tr_if (fun h6 => ?_) (fun h6 => ?_)
  · refine tr_ifT (cd := .eq) h6 ?_
    refine tr_nil (rows2 := kb_213_8) rfl (List.cons_ne_nil _ _) ?_
    refine tr_gd (fun h1 => ?_)
    refine tr_blk 8 (pc' := 20) (rows' := kb_213_8.drop 8) (loc' := [.inr (12, 0, 0, 72), .inl (.int a1), .inl (.int a2)]) (st' := []) (P1 := (ab_pI P (265 + 1 + ((P.1 72 17)).toNatClampNeg) 0 a1)) rfl ⟨trivial, trivial, trivial, trivial, ⟨h1, ab_grl h1⟩, trivial, trivial, (ab_vi (by decide)), trivial⟩ ?_
    refine tr_lt (fun P2 => ?_)
    refine tr_gd (fun h3 => ?_)
    refine tr_blk 8 (pc' := 32) (rows' := kb_213_8.drop 16) (loc' := [.inr (12, 0, 0, 72), .inl (.int a1), .inl (.int a2)]) (st' := []) (P1 := (ab_pI P2 (265 + 1 + ((P2.1 72 17)).toNatClampNeg) 1 a2)) rfl ⟨trivial, trivial, trivial, trivial, ⟨h3, ab_grl h3⟩, trivial, trivial, (ab_vi (by decide)), trivial⟩ ?_
    refine tr_lt (fun P4 => ?_)
    refine tr_blk 6 (pc' := 42) (rows' := kb_213_8.drop 22) (loc' := [.inr (12, 0, 0, 72), .inl (.int a1), .inl (.int a2)]) (st' := []) (P1 := (ab_pI P4 72 17 ((P4.1 72 17) + (1 : Int32)))) rfl ⟨trivial, trivial, trivial, trivial, trivial, trivial, trivial⟩ ?_
    refine tr_lt (fun P5 => ?_)
    exact tr_reV (z := km_213) rfl rfl rfl
  · refine tr_ifF (cd := .eq) h6 ?_
    exact tr_reV (z := km_213) rfl rfl rfl
def f_329_28 (P : ab_P) : Option (Int32 × ab_P) :=
    if (P.1 72 5) = (0 : Int32) then
      ab_lt (ab_pI P 72 8 ((P.1 72 8) + (1 : Int32))) fun P2 =>
      if (P2.1 72 5) = (0 : Int32) then
        some ((1 : Int32), P2)
      else
      some ((0 : Int32), P2)
    else
    if (P.1 72 5) = (0 : Int32) then
      some ((1 : Int32), P)
    else
    some ((0 : Int32), P)
theorem t_329_28 {xs : Nat × (Nat → Int32)} {d : Nat} : ∀ (P : ab_P), ab_tr xs wI (d + 1) 329 28 [] [.inr (12, 0, 0, 72)] [] P (f_329_28 P) := by
  intro P
  unfold f_329_28
  refine tr_nil (rows2 := kb_329_28) rfl (List.cons_ne_nil _ _) ?_
  refine tr_blk 2 (pc' := 32) (rows' := kb_329_28.drop 2) (loc' := [.inr (12, 0, 0, 72)]) (st' := [.inl (.int (P.1 72 5))]) (P1 := P) rfl ⟨trivial, trivial, trivial⟩ ?_
  refine tr_if (fun h3 => ?_) (fun h3 => ?_)
  · refine tr_ifF (cd := .ne) (fun q => q h3) ?_
    refine tr_blk 6 (pc' := 45) (rows' := kb_329_28.drop 9) (loc' := [.inr (12, 0, 0, 72)]) (st' := []) (P1 := (ab_pI P 72 8 ((P.1 72 8) + (1 : Int32)))) rfl ⟨trivial, trivial, trivial, trivial, trivial, trivial, trivial⟩ ?_
    refine tr_lt (fun P2 => ?_)
    refine tr_nil (rows2 := kb_329_45) rfl (List.cons_ne_nil _ _) ?_
    refine tr_blk 2 (pc' := 49) (rows' := kb_329_45.drop 2) (loc' := [.inr (12, 0, 0, 72)]) (st' := [.inl (.int (P2.1 72 5))]) (P1 := P2) rfl ⟨trivial, trivial, trivial⟩ ?_
    refine tr_if (fun h5 => ?_) (fun h5 => ?_)
    · refine tr_ifF (cd := .ne) (fun q => q h5) ?_
      refine tr_blk 1 (pc' := 53) (rows' := kb_329_45.drop 4) (loc' := [.inr (12, 0, 0, 72)]) (st' := [.inl (.int (1 : Int32))]) (P1 := P2) rfl ⟨trivial, trivial⟩ ?_
      refine tr_goto ?_
      refine tr_nil (rows2 := kb_329_57) rfl (List.cons_ne_nil _ _) ?_
      exact tr_reI (z := km_329) rfl ⟨_, rfl, rfl⟩ rfl
    · refine tr_ifT (cd := .ne) h5 ?_
      refine tr_nil (rows2 := kb_329_56) rfl (List.cons_ne_nil _ _) ?_
      refine tr_blk 1 (pc' := 57) (rows' := kb_329_56.drop 1) (loc' := [.inr (12, 0, 0, 72)]) (st' := [.inl (.int (0 : Int32))]) (P1 := P2) rfl ⟨trivial, trivial⟩ ?_
      refine tr_nil (rows2 := kb_329_57) rfl (List.cons_ne_nil _ _) ?_
      exact tr_reI (z := km_329) rfl ⟨_, rfl, rfl⟩ rfl
  · refine tr_ifT (cd := .ne) h3 ?_
    refine tr_nil (rows2 := kb_329_45) rfl (List.cons_ne_nil _ _) ?_
    refine tr_blk 2 (pc' := 49) (rows' := kb_329_45.drop 2) (loc' := [.inr (12, 0, 0, 72)]) (st' := [.inl (.int (P.1 72 5))]) (P1 := P) rfl ⟨trivial, trivial, trivial⟩ ?_
    refine tr_if (fun h4 => ?_) (fun h4 => ?_)
    · refine tr_ifF (cd := .ne) (fun q => q h4) ?_
      refine tr_blk 1 (pc' := 53) (rows' := kb_329_45.drop 4) (loc' := [.inr (12, 0, 0, 72)]) (st' := [.inl (.int (1 : Int32))]) (P1 := P) rfl ⟨trivial, trivial⟩ ?_
      refine tr_goto ?_
      refine tr_nil (rows2 := kb_329_57) rfl (List.cons_ne_nil _ _) ?_
      exact tr_reI (z := km_329) rfl ⟨_, rfl, rfl⟩ rfl
    · refine tr_ifT (cd := .ne) h4 ?_
      refine tr_nil (rows2 := kb_329_56) rfl (List.cons_ne_nil _ _) ?_
      refine tr_blk 1 (pc' := 57) (rows' := kb_329_56.drop 1) (loc' := [.inr (12, 0, 0, 72)]) (st' := [.inl (.int (0 : Int32))]) (P1 := P) rfl ⟨trivial, trivial⟩ ?_
      refine tr_nil (rows2 := kb_329_57) rfl (List.cons_ne_nil _ _) ?_
      exact tr_reI (z := km_329) rfl ⟨_, rfl, rfl⟩ rfl
def f_329 (P : ab_P) : Option (Int32 × ab_P) :=
    if (P.1 72 5) = (0 : Int32) then
      if (P.1 72 8) = (6 : Int32) then
        Option.bind (f_120 (3 : Int32) (P.1 72 4) P) fun P1 =>
        if (P1.1 72 5) = (0 : Int32) then
          some ((1 : Int32), P1)
        else
        some ((0 : Int32), P1)
      else
      f_329_28 P
    else
    f_329_28 P
theorem t_329 {xs : Nat × (Nat → Int32)} {d : Nat} : ∀ (P : ab_P), ab_tr xs wI (d + 1) 329 0 [] [.inr (12, 0, 0, 72)] [] P (f_329 P) := by
  intro P
  unfold f_329
  refine tr_nil (rows2 := kb_329_0) rfl (List.cons_ne_nil _ _) ?_
  refine tr_blk 2 (pc' := 4) (rows' := kb_329_0.drop 2) (loc' := [.inr (12, 0, 0, 72)]) (st' := [.inl (.int (P.1 72 5))]) (P1 := P) rfl ⟨trivial, trivial, trivial⟩ ?_
  refine tr_if (fun h6 => ?_) (fun h6 => ?_)
  · refine tr_ifF (cd := .ne) (fun q => q h6) ?_
    refine tr_blk 3 (pc' := 13) (rows' := kb_329_0.drop 6) (loc' := [.inr (12, 0, 0, 72)]) (st' := [.inl (.int (6 : Int32)), .inl (.int (P.1 72 8))]) (P1 := P) rfl ⟨trivial, trivial, trivial, trivial⟩ ?_
    refine tr_if (fun h7 => ?_) (fun h7 => ?_)
    · refine tr_icF (cd := .ne) (fun q => q h7) ?_
      refine tr_blk 4 (pc' := 22) (rows' := kb_329_0.drop 11) (loc' := [.inr (12, 0, 0, 72)]) (st' := [.inl (.int (P.1 72 4)), .inl (.int (3 : Int32)), .inr (12, 0, 0, 72)]) (P1 := P) rfl ⟨trivial, trivial, trivial, trivial, trivial⟩ ?_
      refine tr_cWV (z := km_120) (av := [.inr (12, 0, 0, 72), .inl (.int (3 : Int32)), .inl (.int (P.1 72 4))]) (st' := []) rfl rfl rfl (Nat.le_of_ble_eq_true rfl) ⟨rfl, Or.inl (by decide)⟩ rfl (Nat.le_of_ble_eq_true rfl) (t_120 (3 : Int32) (P.1 72 4) P) (fun P1 => ?_)
      refine tr_goto ?_
      refine tr_nil (rows2 := kb_329_45) rfl (List.cons_ne_nil _ _) ?_
      refine tr_blk 2 (pc' := 49) (rows' := kb_329_45.drop 2) (loc' := [.inr (12, 0, 0, 72)]) (st' := [.inl (.int (P1.1 72 5))]) (P1 := P1) rfl ⟨trivial, trivial, trivial⟩ ?_
      refine tr_if (fun h8 => ?_) (fun h8 => ?_)
      · refine tr_ifF (cd := .ne) (fun q => q h8) ?_
        refine tr_blk 1 (pc' := 53) (rows' := kb_329_45.drop 4) (loc' := [.inr (12, 0, 0, 72)]) (st' := [.inl (.int (1 : Int32))]) (P1 := P1) rfl ⟨trivial, trivial⟩ ?_
        refine tr_goto ?_
        refine tr_nil (rows2 := kb_329_57) rfl (List.cons_ne_nil _ _) ?_
        exact tr_reI (z := km_329) rfl ⟨_, rfl, rfl⟩ rfl
      · refine tr_ifT (cd := .ne) h8 ?_
        refine tr_nil (rows2 := kb_329_56) rfl (List.cons_ne_nil _ _) ?_
        refine tr_blk 1 (pc' := 57) (rows' := kb_329_56.drop 1) (loc' := [.inr (12, 0, 0, 72)]) (st' := [.inl (.int (0 : Int32))]) (P1 := P1) rfl ⟨trivial, trivial⟩ ?_
        refine tr_nil (rows2 := kb_329_57) rfl (List.cons_ne_nil _ _) ?_
        exact tr_reI (z := km_329) rfl ⟨_, rfl, rfl⟩ rfl
    · refine tr_icT (cd := .ne) h7 ?_
      exact t_329_28 P
  · refine tr_ifT (cd := .ne) h6 ?_
    exact t_329_28 P
def f_291_74 (N : Nat) (R : ab_P → Option ab_P) (x1 : Int32) (P : ab_P) : Option ab_P :=
    Option.bind (f_207 N P) fun P21 =>
    Option.bind (f_129 N (91 : Int32) P21) fun P22 =>
    Option.bind (R P22) fun P23 =>
    Option.bind (f_129 N (44 : Int32) P23) fun P24 =>
    Option.bind (R P24) fun P25 =>
    Option.bind (f_129 N (93 : Int32) P25) fun P26 =>
    Option.bind (f_213 x1 (0 : Int32) P26) fun P27 =>
    ab_lt (ab_pI P27 72 8 ((P27.1 72 8) - (1 : Int32))) fun P28 =>
    some P28
theorem t_291_74 {xs : Nat × (Nat → Int32)} {d : Nat} (N : Nat) (R : ab_P → Option ab_P) (hR : ∀ (P : ab_P), ab_tr xs wV (d + 7) 119 0 [] [.inr (12, 0, 0, 72), ab_top] [] P (R P)) : ∀ (x1 : Int32) (P : ab_P), ab_tr xs wV (d + 8) 291 74 [] [.inr (12, 0, 0, 72), .inl (.int x1), ab_top] [] P (f_291_74 N R x1 P) := by
  intro x1 P
  unfold f_291_74
  refine tr_nil (rows2 := kb_291_74) rfl (List.cons_ne_nil _ _) ?_
  refine tr_blk 1 (pc' := 75) (rows' := kb_291_74.drop 1) (loc' := [.inr (12, 0, 0, 72), .inl (.int x1), ab_top]) (st' := [.inr (12, 0, 0, 72)]) (P1 := P) rfl ⟨trivial, trivial⟩ ?_
  refine tr_cWV (z := km_207) (av := [.inr (12, 0, 0, 72)]) (st' := []) rfl rfl rfl (Nat.le_of_ble_eq_true rfl) ⟨rfl, Or.inl (by decide)⟩ rfl (Nat.le_of_ble_eq_true rfl) (t_207 N P) (fun P21 => ?_)
  refine tr_blk 2 (pc' := 81) (rows' := kb_291_74.drop 4) (loc' := [.inr (12, 0, 0, 72), .inl (.int x1), ab_top]) (st' := [.inl (.int (91 : Int32)), .inr (12, 0, 0, 72)]) (P1 := P21) rfl ⟨trivial, trivial, trivial⟩ ?_
  refine tr_cWV (z := km_129) (av := [.inr (12, 0, 0, 72), .inl (.int (91 : Int32))]) (st' := []) rfl rfl rfl (Nat.le_of_ble_eq_true rfl) ⟨rfl, Or.inl (by decide)⟩ rfl (Nat.le_of_ble_eq_true rfl) (t_129 N (91 : Int32) P21) (fun P22 => ?_)
  refine tr_blk 1 (pc' := 85) (rows' := kb_291_74.drop 6) (loc' := [.inr (12, 0, 0, 72), .inl (.int x1), ab_top]) (st' := [.inr (12, 0, 0, 72)]) (P1 := P22) rfl ⟨trivial, trivial⟩ ?_
  refine tr_cWV (z := km_119) (av := [.inr (12, 0, 0, 72)]) (st' := []) rfl rfl rfl (Nat.le_of_ble_eq_true rfl) ⟨rfl, Or.inl (by decide)⟩ rfl (Nat.le_of_ble_eq_true rfl) (hR P22) (fun P23 => ?_)
  refine tr_blk 2 (pc' := 91) (rows' := kb_291_74.drop 9) (loc' := [.inr (12, 0, 0, 72), .inl (.int x1), ab_top]) (st' := [.inl (.int (44 : Int32)), .inr (12, 0, 0, 72)]) (P1 := P23) rfl ⟨trivial, trivial, trivial⟩ ?_
  refine tr_cWV (z := km_129) (av := [.inr (12, 0, 0, 72), .inl (.int (44 : Int32))]) (st' := []) rfl rfl rfl (Nat.le_of_ble_eq_true rfl) ⟨rfl, Or.inl (by decide)⟩ rfl (Nat.le_of_ble_eq_true rfl) (t_129 N (44 : Int32) P23) (fun P24 => ?_)
  refine tr_blk 1 (pc' := 95) (rows' := kb_291_74.drop 11) (loc' := [.inr (12, 0, 0, 72), .inl (.int x1), ab_top]) (st' := [.inr (12, 0, 0, 72)]) (P1 := P24) rfl ⟨trivial, trivial⟩ ?_
  refine tr_cWV (z := km_119) (av := [.inr (12, 0, 0, 72)]) (st' := []) rfl rfl rfl (Nat.le_of_ble_eq_true rfl) ⟨rfl, Or.inl (by decide)⟩ rfl (Nat.le_of_ble_eq_true rfl) (hR P24) (fun P25 => ?_)
  refine tr_blk 2 (pc' := 101) (rows' := kb_291_74.drop 14) (loc' := [.inr (12, 0, 0, 72), .inl (.int x1), ab_top]) (st' := [.inl (.int (93 : Int32)), .inr (12, 0, 0, 72)]) (P1 := P25) rfl ⟨trivial, trivial, trivial⟩ ?_
  refine tr_cWV (z := km_129) (av := [.inr (12, 0, 0, 72), .inl (.int (93 : Int32))]) (st' := []) rfl rfl rfl (Nat.le_of_ble_eq_true rfl) ⟨rfl, Or.inl (by decide)⟩ rfl (Nat.le_of_ble_eq_true rfl) (t_129 N (93 : Int32) P25) (fun P26 => ?_)
  refine tr_blk 3 (pc' := 107) (rows' := kb_291_74.drop 18) (loc' := [.inr (12, 0, 0, 72), .inl (.int x1), ab_top]) (st' := [.inl (.int (0 : Int32)), .inl (.int x1), .inr (12, 0, 0, 72)]) (P1 := P26) rfl ⟨trivial, trivial, trivial, trivial⟩ ?_
  refine tr_cWV (z := km_213) (av := [.inr (12, 0, 0, 72), .inl (.int x1), .inl (.int (0 : Int32))]) (st' := []) rfl rfl rfl (Nat.le_of_ble_eq_true rfl) ⟨rfl, Or.inl (by decide)⟩ rfl (Nat.le_of_ble_eq_true rfl) (t_213 x1 (0 : Int32) P26) (fun P27 => ?_)
  refine tr_blk 6 (pc' := 120) (rows' := kb_291_74.drop 25) (loc' := [.inr (12, 0, 0, 72), .inl (.int x1), ab_top]) (st' := []) (P1 := (ab_pI P27 72 8 ((P27.1 72 8) - (1 : Int32)))) rfl ⟨trivial, trivial, trivial, trivial, trivial, trivial, trivial⟩ ?_
  refine tr_lt (fun P28 => ?_)
  exact tr_reV (z := km_291) rfl rfl rfl
def f_291_60 (N : Nat) (R : ab_P → Option ab_P) (s0 : Int32) (P : ab_P) : Option ab_P :=
    if s0 = (-1 : Int32) then
      Option.bind (f_209 P (P.1 72 4)) fun v6 =>
      if v6 = (40 : Int32) then
        ab_b2 (f_329 P) fun v14 P13 =>
        if v14 = (0 : Int32) then
          some P13
        else
        ab_lt (ab_pI P13 72 4 ((P13.1 72 4) + (1 : Int32))) fun P15 =>
        Option.bind (R P15) fun P16 =>
        Option.bind (f_129 N (41 : Int32) P16) fun P17 =>
        ab_lt (ab_pI P17 72 8 ((P17.1 72 8) - (1 : Int32))) fun P18 =>
        some P18
      else
      ab_b2 (f_330 N P) fun v8 P7 =>
      if v8 = (-1 : Int32) then
        ab_b2 (f_128 N (0 : Int32) (999 : Int32) P7) fun v10 P9 =>
        Option.bind (f_213 (0 : Int32) v10 P9) fun P11 =>
        some P11
      else
      Option.bind (f_213 (1 : Int32) v8 P7) fun P12 =>
      some P12
    else
    ab_b2 (f_329 P) fun v20 P19 =>
    if v20 = (0 : Int32) then
      some P19
    else
    f_291_74 N R s0 P19
theorem t_291_60 {xs : Nat × (Nat → Int32)} {d : Nat} (N : Nat) (R : ab_P → Option ab_P) (hR : ∀ (P : ab_P), ab_tr xs wV (d + 7) 119 0 [] [.inr (12, 0, 0, 72), ab_top] [] P (R P)) : ∀ (s0 : Int32) (P : ab_P), ab_tr xs wV (d + 8) 291 60 [] [.inr (12, 0, 0, 72), ab_top, ab_top] [.inl (.int s0)] P (f_291_60 N R s0 P) := by
  intro s0 P
  unfold f_291_60
  refine tr_nil (rows2 := kb_291_60) rfl (List.cons_ne_nil _ _) ?_
  refine tr_blk 3 (pc' := 63) (rows' := kb_291_60.drop 3) (loc' := [.inr (12, 0, 0, 72), .inl (.int s0), ab_top]) (st' := [.inl (.int (-1 : Int32)), .inl (.int s0)]) (P1 := P) rfl ⟨trivial, trivial, trivial, trivial⟩ ?_
  refine tr_if (fun h29 => ?_) (fun h29 => ?_)
  · refine tr_icT (cd := .eq) h29 ?_
    refine tr_nil (rows2 := kb_291_121) rfl (List.cons_ne_nil _ _) ?_
    refine tr_blk 3 (pc' := 126) (rows' := kb_291_121.drop 3) (loc' := [.inr (12, 0, 0, 72), .inl (.int s0), ab_top]) (st' := [.inl (.int (P.1 72 4)), .inr (12, 0, 0, 72)]) (P1 := P) rfl ⟨trivial, trivial, trivial, trivial⟩ ?_
    refine tr_cRI (z := km_209) (av := [.inr (12, 0, 0, 72), .inl (.int (P.1 72 4))]) (st' := []) rfl rfl rfl (Nat.le_of_ble_eq_true rfl) ⟨rfl, Or.inl (by decide)⟩ rfl (Nat.le_of_ble_eq_true rfl) (t_209 P (P.1 72 4)) (fun v6 => ?_)
    refine tr_blk 1 (pc' := 131) (rows' := kb_291_121.drop 5) (loc' := [.inr (12, 0, 0, 72), .inl (.int s0), ab_top]) (st' := [.inl (.int (40 : Int32)), .inl (.int v6)]) (P1 := P) rfl ⟨trivial, trivial⟩ ?_
    refine tr_if (fun h30 => ?_) (fun h30 => ?_)
    · refine tr_icF (cd := .ne) (fun q => q h30) ?_
      refine tr_blk 1 (pc' := 135) (rows' := kb_291_121.drop 7) (loc' := [.inr (12, 0, 0, 72), .inl (.int s0), ab_top]) (st' := [.inr (12, 0, 0, 72)]) (P1 := P) rfl ⟨trivial, trivial⟩ ?_
      refine tr_cWI (z := km_329) (av := [.inr (12, 0, 0, 72)]) (st' := []) rfl rfl rfl (Nat.le_of_ble_eq_true rfl) ⟨rfl, Or.inl (by decide)⟩ rfl (Nat.le_of_ble_eq_true rfl) (t_329 P) (fun v14 P13 => ?_)
      refine tr_if (fun h32 => ?_) (fun h32 => ?_)
      · refine tr_ifF (cd := .ne) (fun q => q h32) ?_
        exact tr_reV (z := km_291) rfl rfl rfl
      · refine tr_ifT (cd := .ne) h32 ?_
        refine tr_nil (rows2 := kb_291_142) rfl (List.cons_ne_nil _ _) ?_
        refine tr_blk 6 (pc' := 152) (rows' := kb_291_142.drop 6) (loc' := [.inr (12, 0, 0, 72), .inl (.int s0), ab_top]) (st' := []) (P1 := (ab_pI P13 72 4 ((P13.1 72 4) + (1 : Int32)))) rfl ⟨trivial, trivial, trivial, trivial, trivial, trivial, trivial⟩ ?_
        refine tr_lt (fun P15 => ?_)
        refine tr_blk 1 (pc' := 153) (rows' := kb_291_142.drop 7) (loc' := [.inr (12, 0, 0, 72), .inl (.int s0), ab_top]) (st' := [.inr (12, 0, 0, 72)]) (P1 := P15) rfl ⟨trivial, trivial⟩ ?_
        refine tr_cWV (z := km_119) (av := [.inr (12, 0, 0, 72)]) (st' := []) rfl rfl rfl (Nat.le_of_ble_eq_true rfl) ⟨rfl, Or.inl (by decide)⟩ rfl (Nat.le_of_ble_eq_true rfl) (hR P15) (fun P16 => ?_)
        refine tr_blk 2 (pc' := 159) (rows' := kb_291_142.drop 10) (loc' := [.inr (12, 0, 0, 72), .inl (.int s0), ab_top]) (st' := [.inl (.int (41 : Int32)), .inr (12, 0, 0, 72)]) (P1 := P16) rfl ⟨trivial, trivial, trivial⟩ ?_
        refine tr_cWV (z := km_129) (av := [.inr (12, 0, 0, 72), .inl (.int (41 : Int32))]) (st' := []) rfl rfl rfl (Nat.le_of_ble_eq_true rfl) ⟨rfl, Or.inl (by decide)⟩ rfl (Nat.le_of_ble_eq_true rfl) (t_129 N (41 : Int32) P16) (fun P17 => ?_)
        refine tr_blk 6 (pc' := 172) (rows' := kb_291_142.drop 17) (loc' := [.inr (12, 0, 0, 72), .inl (.int s0), ab_top]) (st' := []) (P1 := (ab_pI P17 72 8 ((P17.1 72 8) - (1 : Int32)))) rfl ⟨trivial, trivial, trivial, trivial, trivial, trivial, trivial⟩ ?_
        refine tr_lt (fun P18 => ?_)
        exact tr_reV (z := km_291) rfl rfl rfl
    · refine tr_icT (cd := .ne) h30 ?_
      refine tr_nil (rows2 := kb_291_173) rfl (List.cons_ne_nil _ _) ?_
      refine tr_blk 1 (pc' := 174) (rows' := kb_291_173.drop 1) (loc' := [.inr (12, 0, 0, 72), .inl (.int s0), ab_top]) (st' := [.inr (12, 0, 0, 72)]) (P1 := P) rfl ⟨trivial, trivial⟩ ?_
      refine tr_cWI (z := km_330) (av := [.inr (12, 0, 0, 72)]) (st' := []) rfl rfl rfl (Nat.le_of_ble_eq_true rfl) ⟨rfl, Or.inl (by decide)⟩ rfl (Nat.le_of_ble_eq_true rfl) (t_330 N P) (fun v8 P7 => ?_)
      refine tr_blk 3 (pc' := 180) (rows' := kb_291_173.drop 5) (loc' := [.inr (12, 0, 0, 72), .inl (.int s0), .inl (.int v8)]) (st' := [.inl (.int (-1 : Int32)), .inl (.int v8)]) (P1 := P7) rfl ⟨trivial, trivial, trivial, trivial⟩ ?_
      refine tr_if (fun h31 => ?_) (fun h31 => ?_)
      · refine tr_icT (cd := .eq) h31 ?_
        refine tr_nil (rows2 := kb_291_192) rfl (List.cons_ne_nil _ _) ?_
        refine tr_blk 5 (pc' := 199) (rows' := kb_291_192.drop 5) (loc' := [.inr (12, 0, 0, 72), .inl (.int s0), .inl (.int v8)]) (st' := [.inl (.int (999 : Int32)), .inl (.int (0 : Int32)), .inr (12, 0, 0, 72), .inl (.int (0 : Int32)), .inr (12, 0, 0, 72)]) (P1 := P7) rfl ⟨trivial, trivial, trivial, trivial, trivial, trivial⟩ ?_
        refine tr_cWI (z := km_128) (av := [.inr (12, 0, 0, 72), .inl (.int (0 : Int32)), .inl (.int (999 : Int32))]) (st' := [.inl (.int (0 : Int32)), .inr (12, 0, 0, 72)]) rfl rfl rfl (Nat.le_of_ble_eq_true rfl) ⟨rfl, Or.inl (by decide)⟩ rfl (Nat.le_of_ble_eq_true rfl) (t_128 N (0 : Int32) (999 : Int32) P7) (fun v10 P9 => ?_)
        refine tr_cWV (z := km_213) (av := [.inr (12, 0, 0, 72), .inl (.int (0 : Int32)), .inl (.int v10)]) (st' := []) rfl rfl rfl (Nat.le_of_ble_eq_true rfl) ⟨rfl, Or.inl (by decide)⟩ rfl (Nat.le_of_ble_eq_true rfl) (t_213 (0 : Int32) v10 P9) (fun P11 => ?_)
        refine tr_nil (rows2 := kb_291_205) rfl (List.cons_ne_nil _ _) ?_
        exact tr_reV (z := km_291) rfl rfl rfl
      · refine tr_icF (cd := .eq) h31 ?_
        refine tr_blk 3 (pc' := 186) (rows' := kb_291_173.drop 9) (loc' := [.inr (12, 0, 0, 72), .inl (.int s0), .inl (.int v8)]) (st' := [.inl (.int v8), .inl (.int (1 : Int32)), .inr (12, 0, 0, 72)]) (P1 := P7) rfl ⟨trivial, trivial, trivial, trivial⟩ ?_
        refine tr_cWV (z := km_213) (av := [.inr (12, 0, 0, 72), .inl (.int (1 : Int32)), .inl (.int v8)]) (st' := []) rfl rfl rfl (Nat.le_of_ble_eq_true rfl) ⟨rfl, Or.inl (by decide)⟩ rfl (Nat.le_of_ble_eq_true rfl) (t_213 (1 : Int32) v8 P7) (fun P12 => ?_)
        refine tr_goto ?_
        refine tr_nil (rows2 := kb_291_205) rfl (List.cons_ne_nil _ _) ?_
        exact tr_reV (z := km_291) rfl rfl rfl
  · refine tr_icF (cd := .eq) h29 ?_
    refine tr_blk 1 (pc' := 67) (rows' := kb_291_60.drop 5) (loc' := [.inr (12, 0, 0, 72), .inl (.int s0), ab_top]) (st' := [.inr (12, 0, 0, 72)]) (P1 := P) rfl ⟨trivial, trivial⟩ ?_
    refine tr_cWI (z := km_329) (av := [.inr (12, 0, 0, 72)]) (st' := []) rfl rfl rfl (Nat.le_of_ble_eq_true rfl) ⟨rfl, Or.inl (by decide)⟩ rfl (Nat.le_of_ble_eq_true rfl) (t_329 P) (fun v20 P19 => ?_)
    refine tr_if (fun h33 => ?_) (fun h33 => ?_)
    · refine tr_ifF (cd := .ne) (fun q => q h33) ?_
      exact tr_reV (z := km_291) rfl rfl rfl
    · refine tr_ifT (cd := .ne) h33 ?_
      exact t_291_74 N R hR s0 P19
def f_291 (N : Nat) (R : ab_P → Option ab_P) (P : ab_P) : Option ab_P :=
    if (P.1 72 5) = (0 : Int32) then
      Option.bind (f_116 N P) fun P1 =>
      ab_b2 (f_206 N (12 : Int32) (5 : Int32) (1 : Int32) (19 : Int32) (20 : Int32) (0 : Int32) (0 : Int32) (0 : Int32) P1) fun v3 P2 =>
      if v3 = (0 : Int32) then
        ab_b2 (f_206 N (13 : Int32) (15 : Int32) (19 : Int32) (20 : Int32) (0 : Int32) (0 : Int32) (0 : Int32) (0 : Int32) P2) fun v5 P4 =>
        if v5 = (0 : Int32) then
          f_291_60 N R (-1 : Int32) P4
        else
        f_291_60 N R (7 : Int32) P4
      else
      f_291_60 N R (6 : Int32) P2
    else
    some P
theorem t_291 {xs : Nat × (Nat → Int32)} {d : Nat} (N : Nat) (R : ab_P → Option ab_P) (hR : ∀ (P : ab_P), ab_tr xs wV (d + 7) 119 0 [] [.inr (12, 0, 0, 72), ab_top] [] P (R P)) : ∀ (P : ab_P), ab_tr xs wV (d + 8) 291 0 [] [.inr (12, 0, 0, 72), ab_top, ab_top] [] P (f_291 N R P) := by
  intro P
  unfold f_291
  refine tr_nil (rows2 := kb_291_0) rfl (List.cons_ne_nil _ _) ?_
  refine tr_blk 2 (pc' := 4) (rows' := kb_291_0.drop 2) (loc' := [.inr (12, 0, 0, 72), ab_top, ab_top]) (st' := [.inl (.int (P.1 72 5))]) (P1 := P) rfl ⟨trivial, trivial, trivial⟩ ?_
  refine tr_if (fun h34 => ?_) (fun h34 => ?_)
  · refine tr_ifT (cd := .eq) h34 ?_
    refine tr_nil (rows2 := kb_291_8) rfl (List.cons_ne_nil _ _) ?_
    refine tr_blk 1 (pc' := 9) (rows' := kb_291_8.drop 1) (loc' := [.inr (12, 0, 0, 72), ab_top, ab_top]) (st' := [.inr (12, 0, 0, 72)]) (P1 := P) rfl ⟨trivial, trivial⟩ ?_
    refine tr_cWV (z := km_116) (av := [.inr (12, 0, 0, 72)]) (st' := []) rfl rfl rfl (Nat.le_of_ble_eq_true rfl) ⟨rfl, Or.inl (by decide)⟩ rfl (Nat.le_of_ble_eq_true rfl) (t_116 N P) (fun P1 => ?_)
    refine tr_blk 9 (pc' := 24) (rows' := kb_291_8.drop 11) (loc' := [.inr (12, 0, 0, 72), ab_top, ab_top]) (st' := [.inl (.int (0 : Int32)), .inl (.int (0 : Int32)), .inl (.int (0 : Int32)), .inl (.int (20 : Int32)), .inl (.int (19 : Int32)), .inl (.int (1 : Int32)), .inl (.int (5 : Int32)), .inl (.int (12 : Int32)), .inr (12, 0, 0, 72)]) (P1 := P1) rfl ⟨trivial, trivial, trivial, trivial, trivial, trivial, trivial, trivial, trivial, trivial⟩ ?_
    refine tr_cWI (z := km_206) (av := [.inr (12, 0, 0, 72), .inl (.int (12 : Int32)), .inl (.int (5 : Int32)), .inl (.int (1 : Int32)), .inl (.int (19 : Int32)), .inl (.int (20 : Int32)), .inl (.int (0 : Int32)), .inl (.int (0 : Int32)), .inl (.int (0 : Int32))]) (st' := []) rfl rfl rfl (Nat.le_of_ble_eq_true rfl) ⟨rfl, Or.inl (by decide)⟩ rfl (Nat.le_of_ble_eq_true rfl) (t_206 N (12 : Int32) (5 : Int32) (1 : Int32) (19 : Int32) (20 : Int32) (0 : Int32) (0 : Int32) (0 : Int32) P1) (fun v3 P2 => ?_)
    refine tr_if (fun h35 => ?_) (fun h35 => ?_)
    · refine tr_ifT (cd := .eq) h35 ?_
      refine tr_nil (rows2 := kb_291_35) rfl (List.cons_ne_nil _ _) ?_
      refine tr_blk 9 (pc' := 48) (rows' := kb_291_35.drop 9) (loc' := [.inr (12, 0, 0, 72), ab_top, ab_top]) (st' := [.inl (.int (0 : Int32)), .inl (.int (0 : Int32)), .inl (.int (0 : Int32)), .inl (.int (0 : Int32)), .inl (.int (20 : Int32)), .inl (.int (19 : Int32)), .inl (.int (15 : Int32)), .inl (.int (13 : Int32)), .inr (12, 0, 0, 72)]) (P1 := P2) rfl ⟨trivial, trivial, trivial, trivial, trivial, trivial, trivial, trivial, trivial, trivial⟩ ?_
      refine tr_cWI (z := km_206) (av := [.inr (12, 0, 0, 72), .inl (.int (13 : Int32)), .inl (.int (15 : Int32)), .inl (.int (19 : Int32)), .inl (.int (20 : Int32)), .inl (.int (0 : Int32)), .inl (.int (0 : Int32)), .inl (.int (0 : Int32)), .inl (.int (0 : Int32))]) (st' := []) rfl rfl rfl (Nat.le_of_ble_eq_true rfl) ⟨rfl, Or.inl (by decide)⟩ rfl (Nat.le_of_ble_eq_true rfl) (t_206 N (13 : Int32) (15 : Int32) (19 : Int32) (20 : Int32) (0 : Int32) (0 : Int32) (0 : Int32) (0 : Int32) P2) (fun v5 P4 => ?_)
      refine tr_if (fun h36 => ?_) (fun h36 => ?_)
      · refine tr_ifT (cd := .eq) h36 ?_
        refine tr_nil (rows2 := kb_291_59) rfl (List.cons_ne_nil _ _) ?_
        refine tr_blk 1 (pc' := 60) (rows' := kb_291_59.drop 1) (loc' := [.inr (12, 0, 0, 72), ab_top, ab_top]) (st' := [.inl (.int (-1 : Int32))]) (P1 := P4) rfl ⟨trivial, trivial⟩ ?_
        exact t_291_60 N R hR (-1 : Int32) P4
      · refine tr_ifF (cd := .eq) h36 ?_
        refine tr_blk 1 (pc' := 56) (rows' := kb_291_35.drop 12) (loc' := [.inr (12, 0, 0, 72), ab_top, ab_top]) (st' := [.inl (.int (7 : Int32))]) (P1 := P4) rfl ⟨trivial, trivial⟩ ?_
        refine tr_goto ?_
        exact t_291_60 N R hR (7 : Int32) P4
    · refine tr_ifF (cd := .eq) h35 ?_
      refine tr_blk 1 (pc' := 32) (rows' := kb_291_8.drop 14) (loc' := [.inr (12, 0, 0, 72), ab_top, ab_top]) (st' := [.inl (.int (6 : Int32))]) (P1 := P2) rfl ⟨trivial, trivial⟩ ?_
      refine tr_goto ?_
      exact t_291_60 N R hR (6 : Int32) P2
  · refine tr_ifF (cd := .eq) h34 ?_
    exact tr_reV (z := km_291) rfl rfl rfl
def f_127 (N : Nat) (a1 : Int32) (P : ab_P) : Option (Int32 × ab_P) :=
    if (P.1 72 5) = (0 : Int32) then
      Option.bind (f_116 N P) fun P1 =>
      Option.bind (f_209 P1 (P1.1 72 4)) fun v2 =>
      if v2 = a1 then
        ab_lt (ab_pI P1 72 4 ((P1.1 72 4) + (1 : Int32))) fun P3 =>
        some ((1 : Int32), P3)
      else
      some ((0 : Int32), P1)
    else
    some ((0 : Int32), P)
theorem t_127 {xs : Nat × (Nat → Int32)} {d : Nat} (N : Nat) : ∀ (a1 : Int32) (P : ab_P), ab_tr xs wI (d + 2) 127 0 [] [.inr (12, 0, 0, 72), .inl (.int a1), ab_top] [] P (f_127 N a1 P) := by
  intro a1 P
  unfold f_127
  refine tr_nil (rows2 := kb_127_0) rfl (List.cons_ne_nil _ _) ?_
  refine tr_blk 2 (pc' := 4) (rows' := kb_127_0.drop 2) (loc' := [.inr (12, 0, 0, 72), .inl (.int a1), ab_top]) (st' := [.inl (.int (P.1 72 5))]) (P1 := P) rfl ⟨trivial, trivial, trivial⟩ ?_
  refine tr_if (fun h4 => ?_) (fun h4 => ?_)
  · refine tr_ifT (cd := .eq) h4 ?_
    refine tr_nil (rows2 := kb_127_9) rfl (List.cons_ne_nil _ _) ?_
    refine tr_blk 1 (pc' := 10) (rows' := kb_127_9.drop 1) (loc' := [.inr (12, 0, 0, 72), .inl (.int a1), ab_top]) (st' := [.inr (12, 0, 0, 72)]) (P1 := P) rfl ⟨trivial, trivial⟩ ?_
    refine tr_cWV (z := km_116) (av := [.inr (12, 0, 0, 72)]) (st' := []) rfl rfl rfl (Nat.le_of_ble_eq_true rfl) ⟨rfl, Or.inl (by decide)⟩ rfl (Nat.le_of_ble_eq_true rfl) (t_116 N P) (fun P1 => ?_)
    refine tr_blk 3 (pc' := 18) (rows' := kb_127_9.drop 5) (loc' := [.inr (12, 0, 0, 72), .inl (.int a1), ab_top]) (st' := [.inl (.int (P1.1 72 4)), .inr (12, 0, 0, 72)]) (P1 := P1) rfl ⟨trivial, trivial, trivial, trivial⟩ ?_
    refine tr_cRI (z := km_209) (av := [.inr (12, 0, 0, 72), .inl (.int (P1.1 72 4))]) (st' := []) rfl rfl rfl (Nat.le_of_ble_eq_true rfl) ⟨rfl, Or.inl (by decide)⟩ rfl (Nat.le_of_ble_eq_true rfl) (t_209 P1 (P1.1 72 4)) (fun v2 => ?_)
    refine tr_blk 1 (pc' := 22) (rows' := kb_127_9.drop 7) (loc' := [.inr (12, 0, 0, 72), .inl (.int a1), ab_top]) (st' := [.inl (.int a1), .inl (.int v2)]) (P1 := P1) rfl ⟨trivial, trivial⟩ ?_
    refine tr_if (fun h5 => ?_) (fun h5 => ?_)
    · refine tr_icF (cd := .ne) (fun q => q h5) ?_
      refine tr_blk 1 (pc' := 26) (rows' := kb_127_9.drop 9) (loc' := [.inr (12, 0, 0, 72), .inl (.int a1), ab_top]) (st' := [.inl (.int (1 : Int32))]) (P1 := P1) rfl ⟨trivial, trivial⟩ ?_
      refine tr_goto ?_
      refine tr_nil (rows2 := kb_127_30) rfl (List.cons_ne_nil _ _) ?_
      refine tr_blk 2 (pc' := 32) (rows' := kb_127_30.drop 2) (loc' := [.inr (12, 0, 0, 72), .inl (.int a1), .inl (.int (1 : Int32))]) (st' := [.inl (.int (1 : Int32))]) (P1 := P1) rfl ⟨trivial, trivial, trivial⟩ ?_
      refine tr_ifF (cd := .eq) (ab_cdF (by decide)) ?_
      refine tr_blk 6 (pc' := 45) (rows' := kb_127_30.drop 9) (loc' := [.inr (12, 0, 0, 72), .inl (.int a1), .inl (.int (1 : Int32))]) (st' := []) (P1 := (ab_pI P1 72 4 ((P1.1 72 4) + (1 : Int32)))) rfl ⟨trivial, trivial, trivial, trivial, trivial, trivial, trivial⟩ ?_
      refine tr_lt (fun P3 => ?_)
      refine tr_nil (rows2 := kb_127_45) rfl (List.cons_ne_nil _ _) ?_
      refine tr_blk 1 (pc' := 46) (rows' := kb_127_45.drop 1) (loc' := [.inr (12, 0, 0, 72), .inl (.int a1), .inl (.int (1 : Int32))]) (st' := [.inl (.int (1 : Int32))]) (P1 := P3) rfl ⟨trivial, trivial⟩ ?_
      exact tr_reI (z := km_127) rfl ⟨_, rfl, rfl⟩ rfl
    · refine tr_icT (cd := .ne) h5 ?_
      refine tr_nil (rows2 := kb_127_29) rfl (List.cons_ne_nil _ _) ?_
      refine tr_blk 1 (pc' := 30) (rows' := kb_127_29.drop 1) (loc' := [.inr (12, 0, 0, 72), .inl (.int a1), ab_top]) (st' := [.inl (.int (0 : Int32))]) (P1 := P1) rfl ⟨trivial, trivial⟩ ?_
      refine tr_nil (rows2 := kb_127_30) rfl (List.cons_ne_nil _ _) ?_
      refine tr_blk 2 (pc' := 32) (rows' := kb_127_30.drop 2) (loc' := [.inr (12, 0, 0, 72), .inl (.int a1), .inl (.int (0 : Int32))]) (st' := [.inl (.int (0 : Int32))]) (P1 := P1) rfl ⟨trivial, trivial, trivial⟩ ?_
      refine tr_ifT (cd := .eq) (ab_cdT (by decide)) ?_
      refine tr_nil (rows2 := kb_127_45) rfl (List.cons_ne_nil _ _) ?_
      refine tr_blk 1 (pc' := 46) (rows' := kb_127_45.drop 1) (loc' := [.inr (12, 0, 0, 72), .inl (.int a1), .inl (.int (0 : Int32))]) (st' := [.inl (.int (0 : Int32))]) (P1 := P1) rfl ⟨trivial, trivial⟩ ?_
      exact tr_reI (z := km_127) rfl ⟨_, rfl, rfl⟩ rfl
  · refine tr_ifF (cd := .eq) h4 ?_
    refine tr_blk 1 (pc' := 8) (rows' := kb_127_0.drop 4) (loc' := [.inr (12, 0, 0, 72), .inl (.int a1), ab_top]) (st' := [.inl (.int (0 : Int32))]) (P1 := P) rfl ⟨trivial, trivial⟩ ?_
    exact tr_reI (z := km_127) rfl ⟨_, rfl, rfl⟩ rfl
def f_212_45 (N : Nat) (R : ab_P → Option ab_P) (H4 : ab_P → Option ab_P) (x1 : Int32) (P : ab_P) : Option ab_P :=
    Option.bind (f_291 N R P) fun P6 =>
    Option.bind (f_213 x1 (0 : Int32) P6) fun P7 =>
    H4 P7
theorem t_212_45 {xs : Nat × (Nat → Int32)} {d : Nat} (N : Nat) (R : ab_P → Option ab_P) (hR : ∀ (P : ab_P), ab_tr xs wV (d + 7) 119 0 [] [.inr (12, 0, 0, 72), ab_top] [] P (R P)) (H4 : ab_P → Option ab_P) (hH4 : ∀ (d1 : ab_V) (P : ab_P), ab_tr xs wV (d + 9) 212 4 [] [.inr (12, 0, 0, 72), d1] [] P (H4 P)) : ∀ (x1 : Int32) (P : ab_P), ab_tr xs wV (d + 9) 212 45 [] [.inr (12, 0, 0, 72), .inl (.int x1)] [] P (f_212_45 N R H4 x1 P) := by
  intro x1 P
  unfold f_212_45
  refine tr_nil (rows2 := kb_212_45) rfl (List.cons_ne_nil _ _) ?_
  refine tr_blk 1 (pc' := 46) (rows' := kb_212_45.drop 1) (loc' := [.inr (12, 0, 0, 72), .inl (.int x1)]) (st' := [.inr (12, 0, 0, 72)]) (P1 := P) rfl ⟨trivial, trivial⟩ ?_
  refine tr_cWV (z := km_291) (av := [.inr (12, 0, 0, 72)]) (st' := []) rfl rfl rfl (Nat.le_of_ble_eq_true rfl) ⟨rfl, Or.inl (by decide)⟩ rfl (Nat.le_of_ble_eq_true rfl) (t_291 N R hR P) (fun P6 => ?_)
  refine tr_blk 3 (pc' := 52) (rows' := kb_212_45.drop 5) (loc' := [.inr (12, 0, 0, 72), .inl (.int x1)]) (st' := [.inl (.int (0 : Int32)), .inl (.int x1), .inr (12, 0, 0, 72)]) (P1 := P6) rfl ⟨trivial, trivial, trivial, trivial⟩ ?_
  refine tr_cWV (z := km_213) (av := [.inr (12, 0, 0, 72), .inl (.int x1), .inl (.int (0 : Int32))]) (st' := []) rfl rfl rfl (Nat.le_of_ble_eq_true rfl) ⟨rfl, Or.inl (by decide)⟩ rfl (Nat.le_of_ble_eq_true rfl) (t_213 x1 (0 : Int32) P6) (fun P7 => ?_)
  refine tr_goto ?_
  exact hH4 (.inl (.int x1)) P7
def f_212_4 (N : Nat) (R : ab_P → Option ab_P) : Nat → ab_P → Option ab_P
  | 0, _ => none
  | n + 1, P =>
    if (P.1 72 5) = (0 : Int32) then
      ab_b2 (f_127 N (42 : Int32) P) fun v3 P2 =>
      if v3 = (0 : Int32) then
        ab_b2 (f_127 N (47 : Int32) P2) fun v5 P4 =>
        if v5 = (0 : Int32) then
          some P4
        else
        f_212_45 N R (fun y0 => f_212_4 N R n y0) (5 : Int32) P4
      else
      f_212_45 N R (fun y0 => f_212_4 N R n y0) (4 : Int32) P2
    else
    some P
theorem t_212_4 {xs : Nat × (Nat → Int32)} {d : Nat} (N : Nat) (R : ab_P → Option ab_P) (hR : ∀ (P : ab_P), ab_tr xs wV (d + 7) 119 0 [] [.inr (12, 0, 0, 72), ab_top] [] P (R P)) : ∀ n : Nat, ∀ (d1 : ab_V) (P : ab_P), ab_tr xs wV (d + 9) 212 4 [] [.inr (12, 0, 0, 72), d1] [] P (f_212_4 N R n P) := by
  intro n
  induction n with
  | zero => intro d1 P; exact tr_no
  | succ n ih =>
    intro d1 P
    refine tr_nil (rows2 := kb_212_4) rfl (List.cons_ne_nil _ _) ?_
    refine tr_blk 2 (pc' := 8) (rows' := kb_212_4.drop 2) (loc' := [.inr (12, 0, 0, 72), d1]) (st' := [.inl (.int (P.1 72 5))]) (P1 := P) rfl ⟨trivial, trivial, trivial⟩ ?_
    refine tr_if (fun h8 => ?_) (fun h8 => ?_)
    · refine tr_ifF (cd := .ne) (fun q => q h8) ?_
      refine tr_blk 2 (pc' := 14) (rows' := kb_212_4.drop 5) (loc' := [.inr (12, 0, 0, 72), d1]) (st' := [.inl (.int (42 : Int32)), .inr (12, 0, 0, 72)]) (P1 := P) rfl ⟨trivial, trivial, trivial⟩ ?_
      refine tr_cWI (z := km_127) (av := [.inr (12, 0, 0, 72), .inl (.int (42 : Int32))]) (st' := []) rfl rfl rfl (Nat.le_of_ble_eq_true rfl) ⟨rfl, Or.inl (by decide)⟩ rfl (Nat.le_of_ble_eq_true rfl) (t_127 N (42 : Int32) P) (fun v3 P2 => ?_)
      refine tr_if (fun h9 => ?_) (fun h9 => ?_)
      · refine tr_ifT (cd := .eq) h9 ?_
        refine tr_nil (rows2 := kb_212_24) rfl (List.cons_ne_nil _ _) ?_
        refine tr_blk 2 (pc' := 27) (rows' := kb_212_24.drop 2) (loc' := [.inr (12, 0, 0, 72), d1]) (st' := [.inl (.int (47 : Int32)), .inr (12, 0, 0, 72)]) (P1 := P2) rfl ⟨trivial, trivial, trivial⟩ ?_
        refine tr_cWI (z := km_127) (av := [.inr (12, 0, 0, 72), .inl (.int (47 : Int32))]) (st' := []) rfl rfl rfl (Nat.le_of_ble_eq_true rfl) ⟨rfl, Or.inl (by decide)⟩ rfl (Nat.le_of_ble_eq_true rfl) (t_127 N (47 : Int32) P2) (fun v5 P4 => ?_)
        refine tr_if (fun h10 => ?_) (fun h10 => ?_)
        · refine tr_ifT (cd := .eq) h10 ?_
          refine tr_nil (rows2 := kb_212_37) rfl (List.cons_ne_nil _ _) ?_
          refine tr_blk 1 (pc' := 38) (rows' := kb_212_37.drop 1) (loc' := [.inr (12, 0, 0, 72), d1]) (st' := [.inl (.int (-1 : Int32))]) (P1 := P4) rfl ⟨trivial, trivial⟩ ?_
          refine tr_nil (rows2 := kb_212_38) rfl (List.cons_ne_nil _ _) ?_
          refine tr_blk 3 (pc' := 41) (rows' := kb_212_38.drop 3) (loc' := [.inr (12, 0, 0, 72), .inl (.int (-1 : Int32))]) (st' := [.inl (.int (-1 : Int32)), .inl (.int (-1 : Int32))]) (P1 := P4) rfl ⟨trivial, trivial, trivial, trivial⟩ ?_
          refine tr_icF (cd := .ne) (ab_cdF (by decide)) ?_
          exact tr_reV (z := km_212) rfl rfl rfl
        · refine tr_ifF (cd := .eq) h10 ?_
          refine tr_blk 1 (pc' := 34) (rows' := kb_212_24.drop 5) (loc' := [.inr (12, 0, 0, 72), d1]) (st' := [.inl (.int (5 : Int32))]) (P1 := P4) rfl ⟨trivial, trivial⟩ ?_
          refine tr_goto ?_
          refine tr_nil (rows2 := kb_212_38) rfl (List.cons_ne_nil _ _) ?_
          refine tr_blk 3 (pc' := 41) (rows' := kb_212_38.drop 3) (loc' := [.inr (12, 0, 0, 72), .inl (.int (5 : Int32))]) (st' := [.inl (.int (-1 : Int32)), .inl (.int (5 : Int32))]) (P1 := P4) rfl ⟨trivial, trivial, trivial, trivial⟩ ?_
          refine tr_icT (cd := .ne) (ab_cdT (by decide)) ?_
          exact t_212_45 N R hR _ ih (5 : Int32) P4
      · refine tr_ifF (cd := .eq) h9 ?_
        refine tr_blk 1 (pc' := 21) (rows' := kb_212_4.drop 8) (loc' := [.inr (12, 0, 0, 72), d1]) (st' := [.inl (.int (4 : Int32))]) (P1 := P2) rfl ⟨trivial, trivial⟩ ?_
        refine tr_goto ?_
        refine tr_nil (rows2 := kb_212_38) rfl (List.cons_ne_nil _ _) ?_
        refine tr_blk 3 (pc' := 41) (rows' := kb_212_38.drop 3) (loc' := [.inr (12, 0, 0, 72), .inl (.int (4 : Int32))]) (st' := [.inl (.int (-1 : Int32)), .inl (.int (4 : Int32))]) (P1 := P2) rfl ⟨trivial, trivial, trivial, trivial⟩ ?_
        refine tr_icT (cd := .ne) (ab_cdT (by decide)) ?_
        exact t_212_45 N R hR _ ih (4 : Int32) P2
    · refine tr_ifT (cd := .ne) h8 ?_
      refine tr_nil (rows2 := kb_212_58) rfl (List.cons_ne_nil _ _) ?_
      exact tr_reV (z := km_212) rfl rfl rfl
def f_212 (N : Nat) (R : ab_P → Option ab_P) (P : ab_P) : Option ab_P :=
    Option.bind (f_291 N R P) fun P1 =>
    f_212_4 N R N P1
theorem t_212 {xs : Nat × (Nat → Int32)} {d : Nat} (N : Nat) (R : ab_P → Option ab_P) (hR : ∀ (P : ab_P), ab_tr xs wV (d + 7) 119 0 [] [.inr (12, 0, 0, 72), ab_top] [] P (R P)) : ∀ (P : ab_P), ab_tr xs wV (d + 9) 212 0 [] [.inr (12, 0, 0, 72), ab_top] [] P (f_212 N R P) := by
  intro P
  unfold f_212
  refine tr_nil (rows2 := kb_212_0) rfl (List.cons_ne_nil _ _) ?_
  refine tr_blk 1 (pc' := 1) (rows' := kb_212_0.drop 1) (loc' := [.inr (12, 0, 0, 72), ab_top]) (st' := [.inr (12, 0, 0, 72)]) (P1 := P) rfl ⟨trivial, trivial⟩ ?_
  refine tr_cWV (z := km_291) (av := [.inr (12, 0, 0, 72)]) (st' := []) rfl rfl rfl (Nat.le_of_ble_eq_true rfl) ⟨rfl, Or.inl (by decide)⟩ rfl (Nat.le_of_ble_eq_true rfl) (t_291 N R hR P) (fun P1 => ?_)
  exact t_212_4 N R hR N (ab_top) P1
