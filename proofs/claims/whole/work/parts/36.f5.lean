def f_69_34 (N : Nat) : Nat → Int32 → Int32 → Int32 → ab_P → Option (Int32 × ab_P)
  | 0, _, _, _, _ => none
  | n + 1, x1, x2, x3, P =>
    if x3 < (P.1 477 360) then
      Option.bind (f_144_366 477 P x3) fun v5 =>
      if v5 = (0 : Int32) then
        f_69_34 N n x1 x2 (x3 + 1) P
      else
      if x2 = (-1 : Int32) then
        f_69_34 N n x1 x3 (x3 + 1) P
      else
      if x1 = (0 : Int32) then
        Option.bind (f_135_366 477 P x3 (3 : Int32)) fun v10 =>
        Option.bind (f_135_366 477 P x2 (3 : Int32)) fun v11 =>
        if v10 < v11 then
          f_69_34 N n x1 x3 (x3 + 1) P
        else
        f_69_34 N n x1 x2 (x3 + 1) P
      else
      ab_b2 (f_146_366 477 N x3 P) fun v7 P6 =>
      ab_b2 (f_146_366 477 N x2 P6) fun v9 P8 =>
      if v9 < v7 then
        f_69_34 N n x1 x3 (x3 + 1) P8
      else
      f_69_34 N n x1 x2 (x3 + 1) P8
    else
    some (x2, P)
theorem t_69_34 {xs : Nat × (Nat → Int32)} {d : Nat} (N : Nat) : ∀ n : Nat, ∀ (x1 : Int32) (x2 : Int32) (x3 : Int32) (P : ab_P), ab_tr xs wI (d + 6) 69 34 [] [.inr (12, 0, 0, 72), .inl (.int x1), .inl (.int x2), .inl (.int x3)] [] P (f_69_34 N n x1 x2 x3 P) := by
  intro n
  induction n with
  | zero => intro x1 x2 x3 P; exact tr_no
  | succ n ih =>
    intro x1 x2 x3 P
    refine tr_nil (rows2 := kb_69_34) rfl (List.cons_ne_nil _ _) ?_
    refine tr_blk 5 (pc' := 43) (rows' := kb_69_34.drop 5) (loc' := [.inr (12, 0, 0, 72), .inl (.int x1), .inl (.int x2), .inl (.int x3)]) (st' := [.inl (.int (P.1 477 360)), .inl (.int x3)]) (P1 := P) rfl ⟨trivial, trivial, trivial, trivial, (ab_vi (by decide)), trivial⟩ ?_
    refine tr_if (fun h12 => ?_) (fun h12 => ?_)
    · refine tr_icF (cd := .ge) (Int32.not_le.mpr h12) ?_
      refine tr_blk 3 (pc' := 51) (rows' := kb_69_34.drop 9) (loc' := [.inr (12, 0, 0, 72), .inl (.int x1), .inl (.int x2), .inl (.int x3)]) (st' := [.inl (.int x3), .inr (20, 366, 0, 477)]) (P1 := P) rfl ⟨trivial, trivial, trivial, trivial⟩ ?_
      refine tr_cRI (z := km_144) (av := [.inr (20, 366, 0, 477), .inl (.int x3)]) (st' := []) rfl rfl rfl (Nat.le_of_ble_eq_true rfl) trivial rfl (Nat.le_of_ble_eq_true rfl) (t_144_366 477 P x3) (fun v5 => ?_)
      refine tr_if (fun h13 => ?_) (fun h13 => ?_)
      · refine tr_ifT (cd := .eq) h13 ?_
        refine tr_nil (rows2 := kb_69_113) rfl (List.cons_ne_nil _ _) ?_
        refine tr_blk 1 (pc' := 116) (rows' := kb_69_113.drop 1) (loc' := [.inr (12, 0, 0, 72), .inl (.int x1), .inl (.int x2), .inl (.int (x3 + 1))]) (st' := []) (P1 := P) rfl ⟨trivial, trivial⟩ ?_
        refine tr_goto ?_
        exact ih x1 x2 (x3 + 1) P
      · refine tr_ifF (cd := .eq) h13 ?_
        refine tr_blk 2 (pc' := 59) (rows' := kb_69_34.drop 13) (loc' := [.inr (12, 0, 0, 72), .inl (.int x1), .inl (.int x2), .inl (.int x3)]) (st' := [.inl (.int (-1 : Int32)), .inl (.int x2)]) (P1 := P) rfl ⟨trivial, trivial, trivial⟩ ?_
        refine tr_if (fun h14 => ?_) (fun h14 => ?_)
        · refine tr_icT (cd := .eq) h14 ?_
          refine tr_nil (rows2 := kb_69_111) rfl (List.cons_ne_nil _ _) ?_
          refine tr_blk 2 (pc' := 113) (rows' := kb_69_111.drop 2) (loc' := [.inr (12, 0, 0, 72), .inl (.int x1), .inl (.int x3), .inl (.int x3)]) (st' := []) (P1 := P) rfl ⟨trivial, trivial, trivial⟩ ?_
          refine tr_nil (rows2 := kb_69_113) rfl (List.cons_ne_nil _ _) ?_
          refine tr_blk 1 (pc' := 116) (rows' := kb_69_113.drop 1) (loc' := [.inr (12, 0, 0, 72), .inl (.int x1), .inl (.int x3), .inl (.int (x3 + 1))]) (st' := []) (P1 := P) rfl ⟨trivial, trivial⟩ ?_
          refine tr_goto ?_
          exact ih x1 x3 (x3 + 1) P
        · refine tr_icF (cd := .eq) h14 ?_
          refine tr_blk 1 (pc' := 63) (rows' := kb_69_34.drop 15) (loc' := [.inr (12, 0, 0, 72), .inl (.int x1), .inl (.int x2), .inl (.int x3)]) (st' := [.inl (.int x1)]) (P1 := P) rfl ⟨trivial, trivial⟩ ?_
          refine tr_if (fun h15 => ?_) (fun h15 => ?_)
          · refine tr_ifF (cd := .ne) (fun q => q h15) ?_
            refine tr_blk 4 (pc' := 72) (rows' := kb_69_34.drop 20) (loc' := [.inr (12, 0, 0, 72), .inl (.int x1), .inl (.int x2), .inl (.int x3)]) (st' := [.inl (.int (3 : Int32)), .inl (.int x3), .inr (20, 366, 0, 477)]) (P1 := P) rfl ⟨trivial, trivial, trivial, trivial, trivial⟩ ?_
            refine tr_cRI (z := km_135) (av := [.inr (20, 366, 0, 477), .inl (.int x3), .inl (.int (3 : Int32))]) (st' := []) rfl rfl rfl (Nat.le_of_ble_eq_true rfl) trivial rfl (Nat.le_of_ble_eq_true rfl) (t_135_366 477 P x3 (3 : Int32)) (fun v10 => ?_)
            refine tr_blk 4 (pc' := 81) (rows' := kb_69_34.drop 25) (loc' := [.inr (12, 0, 0, 72), .inl (.int x1), .inl (.int x2), .inl (.int x3)]) (st' := [.inl (.int (3 : Int32)), .inl (.int x2), .inr (20, 366, 0, 477), .inl (.int v10)]) (P1 := P) rfl ⟨trivial, trivial, trivial, trivial, trivial⟩ ?_
            refine tr_cRI (z := km_135) (av := [.inr (20, 366, 0, 477), .inl (.int x2), .inl (.int (3 : Int32))]) (st' := [.inl (.int v10)]) rfl rfl rfl (Nat.le_of_ble_eq_true rfl) trivial rfl (Nat.le_of_ble_eq_true rfl) (t_135_366 477 P x2 (3 : Int32)) (fun v11 => ?_)
            refine tr_if (fun h17 => ?_) (fun h17 => ?_)
            · refine tr_icF (cd := .ge) (Int32.not_le.mpr h17) ?_
              refine tr_goto ?_
              refine tr_nil (rows2 := kb_69_111) rfl (List.cons_ne_nil _ _) ?_
              refine tr_blk 2 (pc' := 113) (rows' := kb_69_111.drop 2) (loc' := [.inr (12, 0, 0, 72), .inl (.int x1), .inl (.int x3), .inl (.int x3)]) (st' := []) (P1 := P) rfl ⟨trivial, trivial, trivial⟩ ?_
              refine tr_nil (rows2 := kb_69_113) rfl (List.cons_ne_nil _ _) ?_
              refine tr_blk 1 (pc' := 116) (rows' := kb_69_113.drop 1) (loc' := [.inr (12, 0, 0, 72), .inl (.int x1), .inl (.int x3), .inl (.int (x3 + 1))]) (st' := []) (P1 := P) rfl ⟨trivial, trivial⟩ ?_
              refine tr_goto ?_
              exact ih x1 x3 (x3 + 1) P
            · refine tr_icT (cd := .ge) (Int32.not_lt.mp h17) ?_
              refine tr_nil (rows2 := kb_69_113) rfl (List.cons_ne_nil _ _) ?_
              refine tr_blk 1 (pc' := 116) (rows' := kb_69_113.drop 1) (loc' := [.inr (12, 0, 0, 72), .inl (.int x1), .inl (.int x2), .inl (.int (x3 + 1))]) (st' := []) (P1 := P) rfl ⟨trivial, trivial⟩ ?_
              refine tr_goto ?_
              exact ih x1 x2 (x3 + 1) P
          · refine tr_ifT (cd := .ne) h15 ?_
            refine tr_nil (rows2 := kb_69_90) rfl (List.cons_ne_nil _ _) ?_
            refine tr_blk 4 (pc' := 96) (rows' := kb_69_90.drop 4) (loc' := [.inr (12, 0, 0, 72), .inl (.int x1), .inl (.int x2), .inl (.int x3)]) (st' := [.inl (.int x3), .inr (20, 366, 0, 477), .inr (12, 0, 0, 72)]) (P1 := P) rfl ⟨trivial, trivial, trivial, trivial, trivial⟩ ?_
            refine tr_cWI (z := km_146) (av := [.inr (12, 0, 0, 72), .inr (20, 366, 0, 477), .inl (.int x3)]) (st' := []) rfl rfl rfl (Nat.le_of_ble_eq_true rfl) ⟨rfl, Or.inl (by decide)⟩ rfl (Nat.le_of_ble_eq_true rfl) (t_146_366 477 N x3 P) (fun v7 P6 => ?_)
            refine tr_blk 4 (pc' := 105) (rows' := kb_69_90.drop 9) (loc' := [.inr (12, 0, 0, 72), .inl (.int x1), .inl (.int x2), .inl (.int x3)]) (st' := [.inl (.int x2), .inr (20, 366, 0, 477), .inr (12, 0, 0, 72), .inl (.int v7)]) (P1 := P6) rfl ⟨trivial, trivial, trivial, trivial, trivial⟩ ?_
            refine tr_cWI (z := km_146) (av := [.inr (12, 0, 0, 72), .inr (20, 366, 0, 477), .inl (.int x2)]) (st' := [.inl (.int v7)]) rfl rfl rfl (Nat.le_of_ble_eq_true rfl) ⟨rfl, Or.inl (by decide)⟩ rfl (Nat.le_of_ble_eq_true rfl) (t_146_366 477 N x2 P6) (fun v9 P8 => ?_)
            refine tr_if (fun h16 => ?_) (fun h16 => ?_)
            · refine tr_icF (cd := .le) (Int32.not_le.mpr h16) ?_
              refine tr_nil (rows2 := kb_69_111) rfl (List.cons_ne_nil _ _) ?_
              refine tr_blk 2 (pc' := 113) (rows' := kb_69_111.drop 2) (loc' := [.inr (12, 0, 0, 72), .inl (.int x1), .inl (.int x3), .inl (.int x3)]) (st' := []) (P1 := P8) rfl ⟨trivial, trivial, trivial⟩ ?_
              refine tr_nil (rows2 := kb_69_113) rfl (List.cons_ne_nil _ _) ?_
              refine tr_blk 1 (pc' := 116) (rows' := kb_69_113.drop 1) (loc' := [.inr (12, 0, 0, 72), .inl (.int x1), .inl (.int x3), .inl (.int (x3 + 1))]) (st' := []) (P1 := P8) rfl ⟨trivial, trivial⟩ ?_
              refine tr_goto ?_
              exact ih x1 x3 (x3 + 1) P8
            · refine tr_icT (cd := .le) (Int32.not_lt.mp h16) ?_
              refine tr_nil (rows2 := kb_69_113) rfl (List.cons_ne_nil _ _) ?_
              refine tr_blk 1 (pc' := 116) (rows' := kb_69_113.drop 1) (loc' := [.inr (12, 0, 0, 72), .inl (.int x1), .inl (.int x2), .inl (.int (x3 + 1))]) (st' := []) (P1 := P8) rfl ⟨trivial, trivial⟩ ?_
              refine tr_goto ?_
              exact ih x1 x2 (x3 + 1) P8
    · refine tr_icT (cd := .ge) (Int32.not_lt.mp h12) ?_
      refine tr_nil (rows2 := kb_69_119) rfl (List.cons_ne_nil _ _) ?_
      refine tr_blk 1 (pc' := 120) (rows' := kb_69_119.drop 1) (loc' := [.inr (12, 0, 0, 72), .inl (.int x1), .inl (.int x2), .inl (.int x3)]) (st' := [.inl (.int x2)]) (P1 := P) rfl ⟨trivial, trivial⟩ ?_
      exact tr_reI (z := km_69) rfl ⟨_, rfl, rfl⟩ rfl
def f_69_20 (N : Nat) (x1 : Int32) (s0 : Int32) (P : ab_P) : Option (Int32 × ab_P) :=
    ab_b2 (f_113 s0 (1 : Int32) (1 : Int32) P) fun v4 P3 =>
    if v4 = (0 : Int32) then
      f_69_34 N N x1 (-1 : Int32) (0 : Int32) P3
    else
    some ((0 : Int32), P3)
theorem t_69_20 {xs : Nat × (Nat → Int32)} {d : Nat} (N : Nat) : ∀ (x1 : Int32) (s0 : Int32) (P : ab_P), ab_tr xs wI (d + 6) 69 20 [] [.inr (12, 0, 0, 72), .inl (.int x1), ab_top, ab_top] [.inl (.int s0), .inr (12, 0, 0, 72)] P (f_69_20 N x1 s0 P) := by
  intro x1 s0 P
  unfold f_69_20
  refine tr_nil (rows2 := kb_69_20) rfl (List.cons_ne_nil _ _) ?_
  refine tr_blk 2 (pc' := 22) (rows' := kb_69_20.drop 2) (loc' := [.inr (12, 0, 0, 72), .inl (.int x1), ab_top, ab_top]) (st' := [.inl (.int (1 : Int32)), .inl (.int (1 : Int32)), .inl (.int s0), .inr (12, 0, 0, 72)]) (P1 := P) rfl ⟨trivial, trivial, trivial⟩ ?_
  refine tr_cWI (z := km_113) (av := [.inr (12, 0, 0, 72), .inl (.int s0), .inl (.int (1 : Int32)), .inl (.int (1 : Int32))]) (st' := []) rfl rfl rfl (Nat.le_of_ble_eq_true rfl) ⟨rfl, Or.inl (by decide)⟩ rfl (Nat.le_of_ble_eq_true rfl) (t_113 s0 (1 : Int32) (1 : Int32) P) (fun v4 P3 => ?_)
  refine tr_if (fun h18 => ?_) (fun h18 => ?_)
  · refine tr_ifT (cd := .eq) h18 ?_
    refine tr_nil (rows2 := kb_69_30) rfl (List.cons_ne_nil _ _) ?_
    refine tr_blk 4 (pc' := 34) (rows' := kb_69_30.drop 4) (loc' := [.inr (12, 0, 0, 72), .inl (.int x1), .inl (.int (-1 : Int32)), .inl (.int (0 : Int32))]) (st' := []) (P1 := P3) rfl ⟨trivial, trivial, trivial, trivial, trivial⟩ ?_
    exact t_69_34 N N x1 (-1 : Int32) (0 : Int32) P3
  · refine tr_ifF (cd := .eq) h18 ?_
    refine tr_blk 1 (pc' := 29) (rows' := kb_69_20.drop 5) (loc' := [.inr (12, 0, 0, 72), .inl (.int x1), ab_top, ab_top]) (st' := [.inl (.int (0 : Int32))]) (P1 := P3) rfl ⟨trivial, trivial⟩ ?_
    exact tr_reI (z := km_69) rfl ⟨_, rfl, rfl⟩ rfl
def f_69 (N : Nat) (a1 : Int32) (P : ab_P) : Option (Int32 × ab_P) :=
    ab_lt (ab_pI P 72 0 (0 : Int32)) fun P1 =>
    Option.bind (f_112 P1 a1 (0 : Int32) (1 : Int32)) fun v2 =>
    if v2 = (0 : Int32) then
      f_69_20 N a1 (1 : Int32) P1
    else
    f_69_20 N a1 (0 : Int32) P1
theorem t_69 {xs : Nat × (Nat → Int32)} {d : Nat} (N : Nat) : ∀ (a1 : Int32) (P : ab_P), ab_tr xs wI (d + 6) 69 0 [] [.inr (12, 0, 0, 72), .inl (.int a1), ab_top, ab_top] [] P (f_69 N a1 P) := by
  intro a1 P
  unfold f_69
  refine tr_nil (rows2 := kb_69_0) rfl (List.cons_ne_nil _ _) ?_
  refine tr_blk 3 (pc' := 5) (rows' := kb_69_0.drop 3) (loc' := [.inr (12, 0, 0, 72), .inl (.int a1), ab_top, ab_top]) (st' := []) (P1 := (ab_pI P 72 0 (0 : Int32))) rfl ⟨trivial, trivial, trivial, trivial⟩ ?_
  refine tr_lt (fun P1 => ?_)
  refine tr_blk 4 (pc' := 9) (rows' := kb_69_0.drop 7) (loc' := [.inr (12, 0, 0, 72), .inl (.int a1), ab_top, ab_top]) (st' := [.inl (.int (1 : Int32)), .inl (.int (0 : Int32)), .inl (.int a1), .inr (12, 0, 0, 72)]) (P1 := P1) rfl ⟨trivial, trivial, trivial, trivial, trivial⟩ ?_
  refine tr_cRI (z := km_112) (av := [.inl (.int a1), .inl (.int (0 : Int32)), .inl (.int (1 : Int32))]) (st' := [.inr (12, 0, 0, 72)]) rfl rfl rfl (Nat.le_of_ble_eq_true rfl) trivial rfl (Nat.le_of_ble_eq_true rfl) (t_112 P1 a1 (0 : Int32) (1 : Int32)) (fun v2 => ?_)
  refine tr_if (fun h19 => ?_) (fun h19 => ?_)
  · refine tr_ifF (cd := .ne) (fun q => q h19) ?_
    refine tr_blk 1 (pc' := 16) (rows' := kb_69_0.drop 10) (loc' := [.inr (12, 0, 0, 72), .inl (.int a1), ab_top, ab_top]) (st' := [.inl (.int (1 : Int32)), .inr (12, 0, 0, 72)]) (P1 := P1) rfl ⟨trivial, trivial⟩ ?_
    refine tr_goto ?_
    exact t_69_20 N a1 (1 : Int32) P1
  · refine tr_ifT (cd := .ne) h19 ?_
    refine tr_nil (rows2 := kb_69_19) rfl (List.cons_ne_nil _ _) ?_
    refine tr_blk 1 (pc' := 20) (rows' := kb_69_19.drop 1) (loc' := [.inr (12, 0, 0, 72), .inl (.int a1), ab_top, ab_top]) (st' := [.inl (.int (0 : Int32)), .inr (12, 0, 0, 72)]) (P1 := P1) rfl ⟨trivial, trivial⟩ ?_
    exact t_69_20 N a1 (0 : Int32) P1
def f_268_15 (N : Nat) : Nat → Int32 → Int32 → Int32 → Int32 → ab_P → Option (Int32 × ab_P)
  | 0, _, _, _, _, _ => none
  | n + 1, x1, x2, x3, x4, P =>
    if x4 < (P.1 43 2) then
      Option.bind (f_263 43 P x4) fun v2 =>
      if v2 = (0 : Int32) then
        f_268_15 N n x1 x2 x3 (x4 + 1) P
      else
      Option.bind (f_231 43 P (1 : Int32) x4) fun v3 =>
      if v3 = x1 then
        ab_b2 (f_296 N x4 x2 P) fun v5 P4 =>
        if v5 < (P4.1 46 5) then
          f_268_15 N n x1 x2 x3 (x4 + 1) P4
        else
        Option.bind (f_231 43 P4 (2 : Int32) x4) fun v6 =>
        f_268_15 N n x1 (x2 + (-1)) (x3 + v6) (x4 + 1) P4
      else
      f_268_15 N n x1 x2 x3 (x4 + 1) P
    else
    some (x3, P)
theorem t_268_15 {xs : Nat × (Nat → Int32)} {d : Nat} (N : Nat) : ∀ n : Nat, ∀ (x1 : Int32) (x2 : Int32) (x3 : Int32) (x4 : Int32) (P : ab_P), ab_tr xs wI (d + 3) 268 15 [] [.inr (4, 0, 0, 46), .inl (.int x1), .inl (.int x2), .inl (.int x3), .inl (.int x4)] [] P (f_268_15 N n x1 x2 x3 x4 P) := by
  intro n
  induction n with
  | zero => intro x1 x2 x3 x4 P; exact tr_no
  | succ n ih =>
    intro x1 x2 x3 x4 P
    refine tr_nil (rows2 := kb_268_15) rfl (List.cons_ne_nil _ _) ?_
    refine tr_blk 4 (pc' := 24) (rows' := kb_268_15.drop 4) (loc' := [.inr (4, 0, 0, 46), .inl (.int x1), .inl (.int x2), .inl (.int x3), .inl (.int x4)]) (st' := [.inl (.int (P.1 43 2)), .inl (.int x4)]) (P1 := P) rfl ⟨trivial, trivial, trivial, trivial, trivial⟩ ?_
    refine tr_if (fun h7 => ?_) (fun h7 => ?_)
    · refine tr_icF (cd := .ge) (Int32.not_le.mpr h7) ?_
      refine tr_blk 3 (pc' := 33) (rows' := kb_268_15.drop 8) (loc' := [.inr (4, 0, 0, 46), .inl (.int x1), .inl (.int x2), .inl (.int x3), .inl (.int x4)]) (st' := [.inl (.int x4), .inr (6, 0, 0, 43)]) (P1 := P) rfl ⟨trivial, trivial, trivial, trivial⟩ ?_
      refine tr_cRI (z := km_263) (av := [.inr (6, 0, 0, 43), .inl (.int x4)]) (st' := []) rfl rfl rfl (Nat.le_of_ble_eq_true rfl) ⟨rfl, Or.inl (by decide)⟩ rfl (Nat.le_of_ble_eq_true rfl) (t_263 43 P x4) (fun v2 => ?_)
      refine tr_if (fun h8 => ?_) (fun h8 => ?_)
      · refine tr_ifT (cd := .eq) h8 ?_
        refine tr_nil (rows2 := kb_268_83) rfl (List.cons_ne_nil _ _) ?_
        refine tr_blk 1 (pc' := 86) (rows' := kb_268_83.drop 1) (loc' := [.inr (4, 0, 0, 46), .inl (.int x1), .inl (.int x2), .inl (.int x3), .inl (.int (x4 + 1))]) (st' := []) (P1 := P) rfl ⟨trivial, trivial⟩ ?_
        refine tr_goto ?_
        exact ih x1 x2 x3 (x4 + 1) P
      · refine tr_ifF (cd := .eq) h8 ?_
        refine tr_blk 4 (pc' := 46) (rows' := kb_268_15.drop 14) (loc' := [.inr (4, 0, 0, 46), .inl (.int x1), .inl (.int x2), .inl (.int x3), .inl (.int x4)]) (st' := [.inl (.int x4), .inl (.int (1 : Int32)), .inr (6, 0, 0, 43)]) (P1 := P) rfl ⟨trivial, trivial, trivial, trivial, trivial⟩ ?_
        refine tr_cRI (z := km_231) (av := [.inr (6, 0, 0, 43), .inl (.int (1 : Int32)), .inl (.int x4)]) (st' := []) rfl rfl rfl (Nat.le_of_ble_eq_true rfl) ⟨rfl, Or.inl (by decide)⟩ rfl (Nat.le_of_ble_eq_true rfl) (t_231 43 P (1 : Int32) x4) (fun v3 => ?_)
        refine tr_blk 1 (pc' := 50) (rows' := kb_268_15.drop 16) (loc' := [.inr (4, 0, 0, 46), .inl (.int x1), .inl (.int x2), .inl (.int x3), .inl (.int x4)]) (st' := [.inl (.int x1), .inl (.int v3)]) (P1 := P) rfl ⟨trivial, trivial⟩ ?_
        refine tr_if (fun h9 => ?_) (fun h9 => ?_)
        · refine tr_icF (cd := .ne) (fun q => q h9) ?_
          refine tr_blk 3 (pc' := 57) (rows' := kb_268_15.drop 20) (loc' := [.inr (4, 0, 0, 46), .inl (.int x1), .inl (.int x2), .inl (.int x3), .inl (.int x4)]) (st' := [.inl (.int x2), .inl (.int x4), .inr (4, 0, 0, 46)]) (P1 := P) rfl ⟨trivial, trivial, trivial, trivial⟩ ?_
          refine tr_cWI (z := km_296) (av := [.inr (4, 0, 0, 46), .inl (.int x4), .inl (.int x2)]) (st' := []) rfl rfl rfl (Nat.le_of_ble_eq_true rfl) ⟨rfl, Or.inl (by decide)⟩ rfl (Nat.le_of_ble_eq_true rfl) (t_296 N x4 x2 P) (fun v5 P4 => ?_)
          refine tr_blk 2 (pc' := 64) (rows' := kb_268_15.drop 23) (loc' := [.inr (4, 0, 0, 46), .inl (.int x1), .inl (.int x2), .inl (.int x3), .inl (.int x4)]) (st' := [.inl (.int (P4.1 46 5)), .inl (.int v5)]) (P1 := P4) rfl ⟨trivial, trivial, trivial⟩ ?_
          refine tr_if (fun h10 => ?_) (fun h10 => ?_)
          · refine tr_icT (cd := .lt) h10 ?_
            refine tr_nil (rows2 := kb_268_83) rfl (List.cons_ne_nil _ _) ?_
            refine tr_blk 1 (pc' := 86) (rows' := kb_268_83.drop 1) (loc' := [.inr (4, 0, 0, 46), .inl (.int x1), .inl (.int x2), .inl (.int x3), .inl (.int (x4 + 1))]) (st' := []) (P1 := P4) rfl ⟨trivial, trivial⟩ ?_
            refine tr_goto ?_
            exact ih x1 x2 x3 (x4 + 1) P4
          · refine tr_icF (cd := .lt) h10 ?_
            refine tr_blk 5 (pc' := 75) (rows' := kb_268_15.drop 29) (loc' := [.inr (4, 0, 0, 46), .inl (.int x1), .inl (.int x2), .inl (.int x3), .inl (.int x4)]) (st' := [.inl (.int x4), .inl (.int (2 : Int32)), .inr (6, 0, 0, 43), .inl (.int x3)]) (P1 := P4) rfl ⟨trivial, trivial, trivial, trivial, trivial, trivial⟩ ?_
            refine tr_cRI (z := km_231) (av := [.inr (6, 0, 0, 43), .inl (.int (2 : Int32)), .inl (.int x4)]) (st' := [.inl (.int x3)]) rfl rfl rfl (Nat.le_of_ble_eq_true rfl) ⟨rfl, Or.inl (by decide)⟩ rfl (Nat.le_of_ble_eq_true rfl) (t_231 43 P4 (2 : Int32) x4) (fun v6 => ?_)
            refine tr_blk 3 (pc' := 83) (rows' := kb_268_15.drop 33) (loc' := [.inr (4, 0, 0, 46), .inl (.int x1), .inl (.int (x2 + (-1))), .inl (.int (x3 + v6)), .inl (.int x4)]) (st' := []) (P1 := P4) rfl ⟨trivial, trivial, trivial, trivial⟩ ?_
            refine tr_nil (rows2 := kb_268_83) rfl (List.cons_ne_nil _ _) ?_
            refine tr_blk 1 (pc' := 86) (rows' := kb_268_83.drop 1) (loc' := [.inr (4, 0, 0, 46), .inl (.int x1), .inl (.int (x2 + (-1))), .inl (.int (x3 + v6)), .inl (.int (x4 + 1))]) (st' := []) (P1 := P4) rfl ⟨trivial, trivial⟩ ?_
            refine tr_goto ?_
            exact ih x1 (x2 + (-1)) (x3 + v6) (x4 + 1) P4
        · refine tr_icT (cd := .ne) h9 ?_
          refine tr_nil (rows2 := kb_268_83) rfl (List.cons_ne_nil _ _) ?_
          refine tr_blk 1 (pc' := 86) (rows' := kb_268_83.drop 1) (loc' := [.inr (4, 0, 0, 46), .inl (.int x1), .inl (.int x2), .inl (.int x3), .inl (.int (x4 + 1))]) (st' := []) (P1 := P) rfl ⟨trivial, trivial⟩ ?_
          refine tr_goto ?_
          exact ih x1 x2 x3 (x4 + 1) P
    · refine tr_icT (cd := .ge) (Int32.not_lt.mp h7) ?_
      refine tr_nil (rows2 := kb_268_89) rfl (List.cons_ne_nil _ _) ?_
      refine tr_blk 1 (pc' := 90) (rows' := kb_268_89.drop 1) (loc' := [.inr (4, 0, 0, 46), .inl (.int x1), .inl (.int x2), .inl (.int x3), .inl (.int x4)]) (st' := [.inl (.int x3)]) (P1 := P) rfl ⟨trivial, trivial⟩ ?_
      exact tr_reI (z := km_268) rfl ⟨_, rfl, rfl⟩ rfl
def f_268 (N : Nat) (a1 : Int32) (P : ab_P) : Option (Int32 × ab_P) :=
    Option.bind (f_235 43 N P (1 : Int32) a1) fun v1 =>
    f_268_15 N N a1 v1 (0 : Int32) (0 : Int32) P
theorem t_268 {xs : Nat × (Nat → Int32)} {d : Nat} (N : Nat) : ∀ (a1 : Int32) (P : ab_P), ab_tr xs wI (d + 3) 268 0 [] [.inr (4, 0, 0, 46), .inl (.int a1), ab_top, ab_top, ab_top] [] P (f_268 N a1 P) := by
  intro a1 P
  unfold f_268
  refine tr_nil (rows2 := kb_268_0) rfl (List.cons_ne_nil _ _) ?_
  refine tr_blk 4 (pc' := 6) (rows' := kb_268_0.drop 4) (loc' := [.inr (4, 0, 0, 46), .inl (.int a1), ab_top, ab_top, ab_top]) (st' := [.inl (.int a1), .inl (.int (1 : Int32)), .inr (6, 0, 0, 43)]) (P1 := P) rfl ⟨trivial, trivial, trivial, trivial, trivial⟩ ?_
  refine tr_cRI (z := km_235) (av := [.inr (6, 0, 0, 43), .inl (.int (1 : Int32)), .inl (.int a1)]) (st' := []) rfl rfl rfl (Nat.le_of_ble_eq_true rfl) ⟨rfl, Or.inl (by decide)⟩ rfl (Nat.le_of_ble_eq_true rfl) (t_235 43 N P (1 : Int32) a1) (fun v1 => ?_)
  refine tr_blk 5 (pc' := 15) (rows' := kb_268_0.drop 10) (loc' := [.inr (4, 0, 0, 46), .inl (.int a1), .inl (.int v1), .inl (.int (0 : Int32)), .inl (.int (0 : Int32))]) (st' := []) (P1 := P) rfl ⟨trivial, trivial, trivial, trivial, trivial, trivial⟩ ?_
  exact t_268_15 N N a1 v1 (0 : Int32) (0 : Int32) P
def f_179 (N : Nat) (a1 : Int32) (P : ab_P) : Option ((Int32 ⊕ Fin 3) × ab_P) :=
    ab_x2 (f_232 a1 P) (fun _ P1 =>
    ab_b2 (f_268 N a1 P1) fun v3 P2 =>
    some (.inl v3, P2)) (fun q => q)
theorem t_179 {xs : Nat × (Nat → Int32)} {d : Nat} (N : Nat) : ∀ (a1 : Int32) (P : ab_P), ab_tr xs xI (d + 4) 179 0 [] [.inr (11, 0, 0, 0), .inl (.int a1)] [] P (f_179 N a1 P) := by
  intro a1 P
  unfold f_179
  refine tr_nil (rows2 := kb_179_0) rfl (List.cons_ne_nil _ _) ?_
  refine tr_blk 2 (pc' := 2) (rows' := kb_179_0.drop 2) (loc' := [.inr (11, 0, 0, 0), .inl (.int a1)]) (st' := [.inl (.int a1), .inr (11, 0, 0, 0)]) (P1 := P) rfl ⟨trivial, trivial, trivial⟩ ?_
  refine tr_cax (fun _ => none) (zi := km_179) (fun _ => rfl) (fun _ _ => rfl) rfl rfl (z := km_232) (av := [.inr (11, 0, 0, 0), .inl (.int a1)]) (st' := []) rfl rfl rfl (Nat.le_of_ble_eq_true rfl) ⟨rfl, Or.inl (by decide)⟩ rfl (Nat.le_of_ble_eq_true rfl) (t_232 a1 P) (fun _ P1 => ?_)
  refine tr_blk 3 (pc' := 10) (rows' := kb_179_0.drop 6) (loc' := [.inr (11, 0, 0, 0), .inl (.int a1)]) (st' := [.inl (.int a1), .inr (4, 0, 0, 46)]) (P1 := P1) rfl ⟨trivial, trivial, trivial, trivial⟩ ?_
  refine tr_cWI (z := km_268) (av := [.inr (4, 0, 0, 46), .inl (.int a1)]) (st' := []) rfl rfl rfl (Nat.le_of_ble_eq_true rfl) ⟨rfl, Or.inl (by decide)⟩ rfl (Nat.le_of_ble_eq_true rfl) (t_268 N a1 P1) (fun v3 P2 => ?_)
  exact tr_reI (z := km_179) rfl ⟨_, rfl, rfl⟩ rfl
def f_70_1 (N : Nat) (a1 : Int32) (P : ab_P) : Option (Int32 × ab_P) :=
    ab_h2 (f_179 N a1 P) (fun v2 P1 =>
    ab_lt (ab_pL P1 570 0 (v2).toInt64) fun P3 =>
    some ((0 : Int32), P3))
    (fun P9 => some ((1 : Int32), P9)) (fun _ => none) (fun _ => none)
theorem t_70_1 {xs : Nat × (Nat → Int32)} {d : Nat} (N : Nat) : ∀ (a1 : Int32) (P : ab_P), ab_tr xs wI (d + 5) 70 0 [] [.inr (11, 0, 0, 0), .inl (.int a1), .inr (22, 1, 0, 570), ab_top] [] P (f_70_1 N a1 P) := by
  intro a1 P
  unfold f_70_1
  refine tr_nil (rows2 := kb_70_0) rfl (List.cons_ne_nil _ _) ?_
  refine tr_blk 4 (pc' := 4) (rows' := kb_70_0.drop 4) (loc' := [.inr (11, 0, 0, 0), .inl (.int a1), .inr (22, 1, 0, 570), ab_top]) (st' := [.inl (.int a1), .inr (11, 0, 0, 0), .inl (.int (0 : Int32)), .inr (22, 1, 0, 570)]) (P1 := P) rfl ⟨trivial, trivial, trivial, trivial, trivial⟩ ?_
  refine tr_cah (fun b => some (.inl (.int b))) (zi := km_70) (fun _ => rfl) rfl (z := km_179) (av := [.inr (11, 0, 0, 0), .inl (.int a1)]) (st' := [.inl (.int (0 : Int32)), .inr (22, 1, 0, 570)]) rfl rfl rfl (Nat.le_of_ble_eq_true rfl) ⟨rfl, Or.inl (by decide)⟩ rfl (Nat.le_of_ble_eq_true rfl) (t_179 N a1 P) (fun v2 P1 => ?_) ?_ ?_ ?_
  · refine tr_blk 2 (pc' := 9) (rows' := kb_70_0.drop 7) (loc' := [.inr (11, 0, 0, 0), .inl (.int a1), .inr (22, 1, 0, 570), ab_top]) (st' := []) (P1 := (ab_pL P1 570 0 (v2).toInt64)) rfl ⟨trivial, (ab_vi (by decide)), trivial⟩ ?_
    refine tr_lt (fun P3 => ?_)
    refine tr_goto ?_
    refine tr_nil (rows2 := kb_70_15) rfl (List.cons_ne_nil _ _) ?_
    refine tr_blk 1 (pc' := 16) (rows' := kb_70_15.drop 1) (loc' := [.inr (11, 0, 0, 0), .inl (.int a1), .inr (22, 1, 0, 570), ab_top]) (st' := [.inl (.int (0 : Int32))]) (P1 := P3) rfl ⟨trivial, trivial⟩ ?_
    exact tr_reI (z := km_70) rfl ⟨_, rfl, rfl⟩ rfl
  · exact fun _ => tr_han (rows2 := kb_70_12) (z := km_70) _ (fun q => [.inr (11, 0, 0, 0), .inl (.int a1), .inr (22, 1, 0, 570), .inr (40, 0, 0, q)]) rfl (List.cons_ne_nil _ _) (fun q => rfl) ⟨trivial, trivial, trivial⟩ rfl ⟨_, rfl, rfl⟩ rfl
  · exact fun _ => rfl
  · exact fun _ => rfl
def f_71_43 (N : Nat) : Nat → Int32 → Int32 → Int32 → Int32 → ab_P → Option (Int32 × ab_P)
  | 0, _, _, _, _, _ => none
  | n + 1, x1, x2, x3, x4, P =>
    if x4 < (P.1 477 360) then
      Option.bind (f_144_366 477 P x4) fun v6 =>
      if v6 = (0 : Int32) then
        f_71_43 N n x1 x2 x3 (x4 + 1) P
      else
      Option.bind (f_135_366 477 P x4 (1 : Int32)) fun v7 =>
      if v7 = x1 then
        ab_b2 (f_181_366 477 N x4 x2 P) fun v9 P8 =>
        if v9 < (P8.1 76 3) then
          f_71_43 N n x1 x2 x3 (x4 + 1) P8
        else
        Option.bind (f_135_366 477 P8 x4 (2 : Int32)) fun v10 =>
        f_71_43 N n x1 (x2 + (-1)) (x3 + v10) (x4 + 1) P8
      else
      f_71_43 N n x1 x2 x3 (x4 + 1) P
    else
    some (x3, P)
theorem t_71_43 {xs : Nat × (Nat → Int32)} {d : Nat} (N : Nat) : ∀ n : Nat, ∀ (x1 : Int32) (x2 : Int32) (x3 : Int32) (x4 : Int32) (P : ab_P), ab_tr xs wI (d + 5) 71 43 [] [.inr (12, 0, 0, 72), .inl (.int x1), .inl (.int x2), .inl (.int x3), .inl (.int x4)] [] P (f_71_43 N n x1 x2 x3 x4 P) := by
  intro n
  induction n with
  | zero => intro x1 x2 x3 x4 P; exact tr_no
  | succ n ih =>
    intro x1 x2 x3 x4 P
    refine tr_nil (rows2 := kb_71_43) rfl (List.cons_ne_nil _ _) ?_
    refine tr_blk 5 (pc' := 53) (rows' := kb_71_43.drop 5) (loc' := [.inr (12, 0, 0, 72), .inl (.int x1), .inl (.int x2), .inl (.int x3), .inl (.int x4)]) (st' := [.inl (.int (P.1 477 360)), .inl (.int x4)]) (P1 := P) rfl ⟨trivial, trivial, trivial, trivial, (ab_vi (by decide)), trivial⟩ ?_
    refine tr_if (fun h11 => ?_) (fun h11 => ?_)
    · refine tr_icF (cd := .ge) (Int32.not_le.mpr h11) ?_
      refine tr_blk 3 (pc' := 62) (rows' := kb_71_43.drop 9) (loc' := [.inr (12, 0, 0, 72), .inl (.int x1), .inl (.int x2), .inl (.int x3), .inl (.int x4)]) (st' := [.inl (.int x4), .inr (20, 366, 0, 477)]) (P1 := P) rfl ⟨trivial, trivial, trivial, trivial⟩ ?_
      refine tr_cRI (z := km_144) (av := [.inr (20, 366, 0, 477), .inl (.int x4)]) (st' := []) rfl rfl rfl (Nat.le_of_ble_eq_true rfl) trivial rfl (Nat.le_of_ble_eq_true rfl) (t_144_366 477 P x4) (fun v6 => ?_)
      refine tr_if (fun h12 => ?_) (fun h12 => ?_)
      · refine tr_ifT (cd := .eq) h12 ?_
        refine tr_nil (rows2 := kb_71_121) rfl (List.cons_ne_nil _ _) ?_
        refine tr_blk 1 (pc' := 124) (rows' := kb_71_121.drop 1) (loc' := [.inr (12, 0, 0, 72), .inl (.int x1), .inl (.int x2), .inl (.int x3), .inl (.int (x4 + 1))]) (st' := []) (P1 := P) rfl ⟨trivial, trivial⟩ ?_
        refine tr_goto ?_
        exact ih x1 x2 x3 (x4 + 1) P
      · refine tr_ifF (cd := .eq) h12 ?_
        refine tr_blk 4 (pc' := 75) (rows' := kb_71_43.drop 15) (loc' := [.inr (12, 0, 0, 72), .inl (.int x1), .inl (.int x2), .inl (.int x3), .inl (.int x4)]) (st' := [.inl (.int (1 : Int32)), .inl (.int x4), .inr (20, 366, 0, 477)]) (P1 := P) rfl ⟨trivial, trivial, trivial, trivial, trivial⟩ ?_
        refine tr_cRI (z := km_135) (av := [.inr (20, 366, 0, 477), .inl (.int x4), .inl (.int (1 : Int32))]) (st' := []) rfl rfl rfl (Nat.le_of_ble_eq_true rfl) trivial rfl (Nat.le_of_ble_eq_true rfl) (t_135_366 477 P x4 (1 : Int32)) (fun v7 => ?_)
        refine tr_blk 1 (pc' := 79) (rows' := kb_71_43.drop 17) (loc' := [.inr (12, 0, 0, 72), .inl (.int x1), .inl (.int x2), .inl (.int x3), .inl (.int x4)]) (st' := [.inl (.int x1), .inl (.int v7)]) (P1 := P) rfl ⟨trivial, trivial⟩ ?_
        refine tr_if (fun h13 => ?_) (fun h13 => ?_)
        · refine tr_icF (cd := .ne) (fun q => q h13) ?_
          refine tr_blk 5 (pc' := 90) (rows' := kb_71_43.drop 23) (loc' := [.inr (12, 0, 0, 72), .inl (.int x1), .inl (.int x2), .inl (.int x3), .inl (.int x4)]) (st' := [.inl (.int x2), .inl (.int x4), .inr (20, 366, 0, 477), .inr (12, 0, 0, 72)]) (P1 := P) rfl ⟨trivial, trivial, trivial, trivial, trivial, trivial⟩ ?_
          refine tr_cWI (z := km_181) (av := [.inr (12, 0, 0, 72), .inr (20, 366, 0, 477), .inl (.int x4), .inl (.int x2)]) (st' := []) rfl rfl rfl (Nat.le_of_ble_eq_true rfl) ⟨rfl, Or.inl (by decide)⟩ rfl (Nat.le_of_ble_eq_true rfl) (t_181_366 477 N x4 x2 P) (fun v9 P8 => ?_)
          refine tr_blk 4 (pc' := 99) (rows' := kb_71_43.drop 28) (loc' := [.inr (12, 0, 0, 72), .inl (.int x1), .inl (.int x2), .inl (.int x3), .inl (.int x4)]) (st' := [.inl (.int (P8.1 76 3)), .inl (.int v9)]) (P1 := P8) rfl ⟨trivial, trivial, trivial, (ab_vi (by decide)), trivial⟩ ?_
          refine tr_if (fun h14 => ?_) (fun h14 => ?_)
          · refine tr_icF (cd := .ge) (Int32.not_le.mpr h14) ?_
            refine tr_goto ?_
            refine tr_nil (rows2 := kb_71_121) rfl (List.cons_ne_nil _ _) ?_
            refine tr_blk 1 (pc' := 124) (rows' := kb_71_121.drop 1) (loc' := [.inr (12, 0, 0, 72), .inl (.int x1), .inl (.int x2), .inl (.int x3), .inl (.int (x4 + 1))]) (st' := []) (P1 := P8) rfl ⟨trivial, trivial⟩ ?_
            refine tr_goto ?_
            exact ih x1 x2 x3 (x4 + 1) P8
          · refine tr_icT (cd := .ge) (Int32.not_lt.mp h14) ?_
            refine tr_nil (rows2 := kb_71_105) rfl (List.cons_ne_nil _ _) ?_
            refine tr_blk 5 (pc' := 113) (rows' := kb_71_105.drop 5) (loc' := [.inr (12, 0, 0, 72), .inl (.int x1), .inl (.int x2), .inl (.int x3), .inl (.int x4)]) (st' := [.inl (.int (2 : Int32)), .inl (.int x4), .inr (20, 366, 0, 477), .inl (.int x3)]) (P1 := P8) rfl ⟨trivial, trivial, trivial, trivial, trivial, trivial⟩ ?_
            refine tr_cRI (z := km_135) (av := [.inr (20, 366, 0, 477), .inl (.int x4), .inl (.int (2 : Int32))]) (st' := [.inl (.int x3)]) rfl rfl rfl (Nat.le_of_ble_eq_true rfl) trivial rfl (Nat.le_of_ble_eq_true rfl) (t_135_366 477 P8 x4 (2 : Int32)) (fun v10 => ?_)
            refine tr_blk 3 (pc' := 121) (rows' := kb_71_105.drop 9) (loc' := [.inr (12, 0, 0, 72), .inl (.int x1), .inl (.int (x2 + (-1))), .inl (.int (x3 + v10)), .inl (.int x4)]) (st' := []) (P1 := P8) rfl ⟨trivial, trivial, trivial, trivial⟩ ?_
            refine tr_nil (rows2 := kb_71_121) rfl (List.cons_ne_nil _ _) ?_
            refine tr_blk 1 (pc' := 124) (rows' := kb_71_121.drop 1) (loc' := [.inr (12, 0, 0, 72), .inl (.int x1), .inl (.int (x2 + (-1))), .inl (.int (x3 + v10)), .inl (.int (x4 + 1))]) (st' := []) (P1 := P8) rfl ⟨trivial, trivial⟩ ?_
            refine tr_goto ?_
            exact ih x1 (x2 + (-1)) (x3 + v10) (x4 + 1) P8
        · refine tr_icT (cd := .ne) h13 ?_
          refine tr_nil (rows2 := kb_71_121) rfl (List.cons_ne_nil _ _) ?_
          refine tr_blk 1 (pc' := 124) (rows' := kb_71_121.drop 1) (loc' := [.inr (12, 0, 0, 72), .inl (.int x1), .inl (.int x2), .inl (.int x3), .inl (.int (x4 + 1))]) (st' := []) (P1 := P) rfl ⟨trivial, trivial⟩ ?_
          refine tr_goto ?_
          exact ih x1 x2 x3 (x4 + 1) P
    · refine tr_icT (cd := .ge) (Int32.not_lt.mp h11) ?_
      refine tr_nil (rows2 := kb_71_127) rfl (List.cons_ne_nil _ _) ?_
      refine tr_blk 1 (pc' := 128) (rows' := kb_71_127.drop 1) (loc' := [.inr (12, 0, 0, 72), .inl (.int x1), .inl (.int x2), .inl (.int x3), .inl (.int x4)]) (st' := [.inl (.int x3)]) (P1 := P) rfl ⟨trivial, trivial⟩ ?_
      exact tr_reI (z := km_71) rfl ⟨_, rfl, rfl⟩ rfl
def f_71_19 (N : Nat) (x1 : Int32) (s0 : Int32) (P : ab_P) : Option (Int32 × ab_P) :=
    ab_b2 (f_113 s0 (1 : Int32) (0 : Int32) P) fun v4 P3 =>
    if v4 = (0 : Int32) then
      Option.bind (f_180_366 477 N P3 x1) fun v5 =>
      f_71_43 N N x1 v5 (0 : Int32) (0 : Int32) P3
    else
    some ((0 : Int32), P3)
theorem t_71_19 {xs : Nat × (Nat → Int32)} {d : Nat} (N : Nat) : ∀ (x1 : Int32) (s0 : Int32) (P : ab_P), ab_tr xs wI (d + 5) 71 19 [] [.inr (12, 0, 0, 72), .inl (.int x1), ab_top, ab_top, ab_top] [.inl (.int s0), .inr (12, 0, 0, 72)] P (f_71_19 N x1 s0 P) := by
  intro x1 s0 P
  unfold f_71_19
  refine tr_nil (rows2 := kb_71_19) rfl (List.cons_ne_nil _ _) ?_
  refine tr_blk 2 (pc' := 21) (rows' := kb_71_19.drop 2) (loc' := [.inr (12, 0, 0, 72), .inl (.int x1), ab_top, ab_top, ab_top]) (st' := [.inl (.int (0 : Int32)), .inl (.int (1 : Int32)), .inl (.int s0), .inr (12, 0, 0, 72)]) (P1 := P) rfl ⟨trivial, trivial, trivial⟩ ?_
  refine tr_cWI (z := km_113) (av := [.inr (12, 0, 0, 72), .inl (.int s0), .inl (.int (1 : Int32)), .inl (.int (0 : Int32))]) (st' := []) rfl rfl rfl (Nat.le_of_ble_eq_true rfl) ⟨rfl, Or.inl (by decide)⟩ rfl (Nat.le_of_ble_eq_true rfl) (t_113 s0 (1 : Int32) (0 : Int32) P) (fun v4 P3 => ?_)
  refine tr_if (fun h15 => ?_) (fun h15 => ?_)
  · refine tr_ifT (cd := .eq) h15 ?_
    refine tr_nil (rows2 := kb_71_29) rfl (List.cons_ne_nil _ _) ?_
    refine tr_blk 3 (pc' := 34) (rows' := kb_71_29.drop 3) (loc' := [.inr (12, 0, 0, 72), .inl (.int x1), ab_top, ab_top, ab_top]) (st' := [.inl (.int x1), .inr (20, 366, 0, 477)]) (P1 := P3) rfl ⟨trivial, trivial, trivial, trivial⟩ ?_
    refine tr_cRI (z := km_180) (av := [.inr (20, 366, 0, 477), .inl (.int x1)]) (st' := []) rfl rfl rfl (Nat.le_of_ble_eq_true rfl) trivial rfl (Nat.le_of_ble_eq_true rfl) (t_180_366 477 N P3 x1) (fun v5 => ?_)
    refine tr_blk 5 (pc' := 43) (rows' := kb_71_29.drop 9) (loc' := [.inr (12, 0, 0, 72), .inl (.int x1), .inl (.int v5), .inl (.int (0 : Int32)), .inl (.int (0 : Int32))]) (st' := []) (P1 := P3) rfl ⟨trivial, trivial, trivial, trivial, trivial, trivial⟩ ?_
    exact t_71_43 N N x1 v5 (0 : Int32) (0 : Int32) P3
  · refine tr_ifF (cd := .eq) h15 ?_
    refine tr_blk 1 (pc' := 28) (rows' := kb_71_19.drop 5) (loc' := [.inr (12, 0, 0, 72), .inl (.int x1), ab_top, ab_top, ab_top]) (st' := [.inl (.int (0 : Int32))]) (P1 := P3) rfl ⟨trivial, trivial⟩ ?_
    exact tr_reI (z := km_71) rfl ⟨_, rfl, rfl⟩ rfl
def f_71 (N : Nat) (a1 : Int32) (P : ab_P) : Option (Int32 × ab_P) :=
    ab_lt (ab_pI P 72 0 (0 : Int32)) fun P1 =>
    Option.bind (f_137 P1 a1) fun v2 =>
    if v2 = (0 : Int32) then
      f_71_19 N a1 (1 : Int32) P1
    else
    f_71_19 N a1 (0 : Int32) P1
theorem t_71 {xs : Nat × (Nat → Int32)} {d : Nat} (N : Nat) : ∀ (a1 : Int32) (P : ab_P), ab_tr xs wI (d + 5) 71 0 [] [.inr (12, 0, 0, 72), .inl (.int a1), ab_top, ab_top, ab_top] [] P (f_71 N a1 P) := by
  intro a1 P
  unfold f_71
  refine tr_nil (rows2 := kb_71_0) rfl (List.cons_ne_nil _ _) ?_
  refine tr_blk 3 (pc' := 5) (rows' := kb_71_0.drop 3) (loc' := [.inr (12, 0, 0, 72), .inl (.int a1), ab_top, ab_top, ab_top]) (st' := []) (P1 := (ab_pI P 72 0 (0 : Int32))) rfl ⟨trivial, trivial, trivial, trivial⟩ ?_
  refine tr_lt (fun P1 => ?_)
  refine tr_blk 3 (pc' := 8) (rows' := kb_71_0.drop 6) (loc' := [.inr (12, 0, 0, 72), .inl (.int a1), ab_top, ab_top, ab_top]) (st' := [.inl (.int a1), .inr (12, 0, 0, 72), .inr (12, 0, 0, 72)]) (P1 := P1) rfl ⟨trivial, trivial, trivial, trivial⟩ ?_
  refine tr_cRI (z := km_137) (av := [.inr (12, 0, 0, 72), .inl (.int a1)]) (st' := [.inr (12, 0, 0, 72)]) rfl rfl rfl (Nat.le_of_ble_eq_true rfl) ⟨rfl, Or.inl (by decide)⟩ rfl (Nat.le_of_ble_eq_true rfl) (t_137 P1 a1) (fun v2 => ?_)
  refine tr_if (fun h16 => ?_) (fun h16 => ?_)
  · refine tr_ifF (cd := .ne) (fun q => q h16) ?_
    refine tr_blk 1 (pc' := 15) (rows' := kb_71_0.drop 9) (loc' := [.inr (12, 0, 0, 72), .inl (.int a1), ab_top, ab_top, ab_top]) (st' := [.inl (.int (1 : Int32)), .inr (12, 0, 0, 72)]) (P1 := P1) rfl ⟨trivial, trivial⟩ ?_
    refine tr_goto ?_
    exact t_71_19 N a1 (1 : Int32) P1
  · refine tr_ifT (cd := .ne) h16 ?_
    refine tr_nil (rows2 := kb_71_18) rfl (List.cons_ne_nil _ _) ?_
    refine tr_blk 1 (pc' := 19) (rows' := kb_71_18.drop 1) (loc' := [.inr (12, 0, 0, 72), .inl (.int a1), ab_top, ab_top, ab_top]) (st' := [.inl (.int (0 : Int32)), .inr (12, 0, 0, 72)]) (P1 := P1) rfl ⟨trivial, trivial⟩ ?_
    exact t_71_19 N a1 (0 : Int32) P1
def f_182_22 (N : Nat) : Nat → Int32 → Int32 → Int32 → Int32 → ab_P → Option ((Int32 ⊕ Fin 3) × ab_P)
  | 0, _, _, _, _, _ => none
  | n + 1, x1, x2, x3, x4, P =>
    if x4 < (P.1 3 5) then
      if x4 = x1 then
        f_182_22 N n x1 x2 x3 (x4 + 1) P
      else
      ab_b2 (f_244 N x4 x1 x2 P) fun v5 P4 =>
      if (lg_cmp v5 (0 : Int64)) = (0 : Int32) then
        f_182_22 N n x1 x2 x3 (x4 + 1) P4
      else
      f_182_22 N n x1 x2 (x3 ||| ((1 : Int32) <<< (x4 &&& 31))) (x4 + 1) P4
    else
    some (.inl x3, P)
theorem t_182_22 {xs : Nat × (Nat → Int32)} {d : Nat} (N : Nat) : ∀ n : Nat, ∀ (x1 : Int32) (x2 : Int32) (x3 : Int32) (x4 : Int32) (P : ab_P), ab_tr xs xI (d + 3) 182 22 [] [.inr (11, 0, 0, 0), .inl (.int x1), .inl (.int x2), .inl (.int x3), .inl (.int x4)] [] P (f_182_22 N n x1 x2 x3 x4 P) := by
  intro n
  induction n with
  | zero => intro x1 x2 x3 x4 P; exact tr_no
  | succ n ih =>
    intro x1 x2 x3 x4 P
    refine tr_nil (rows2 := kb_182_22) rfl (List.cons_ne_nil _ _) ?_
    refine tr_blk 4 (pc' := 31) (rows' := kb_182_22.drop 4) (loc' := [.inr (11, 0, 0, 0), .inl (.int x1), .inl (.int x2), .inl (.int x3), .inl (.int x4)]) (st' := [.inl (.int (P.1 3 5)), .inl (.int x4)]) (P1 := P) rfl ⟨trivial, trivial, trivial, trivial, trivial⟩ ?_
    refine tr_if (fun h6 => ?_) (fun h6 => ?_)
    · refine tr_icF (cd := .ge) (Int32.not_le.mpr h6) ?_
      refine tr_blk 2 (pc' := 37) (rows' := kb_182_22.drop 7) (loc' := [.inr (11, 0, 0, 0), .inl (.int x1), .inl (.int x2), .inl (.int x3), .inl (.int x4)]) (st' := [.inl (.int x1), .inl (.int x4)]) (P1 := P) rfl ⟨trivial, trivial, trivial⟩ ?_
      refine tr_if (fun h7 => ?_) (fun h7 => ?_)
      · refine tr_icT (cd := .eq) h7 ?_
        refine tr_nil (rows2 := kb_182_63) rfl (List.cons_ne_nil _ _) ?_
        refine tr_blk 1 (pc' := 66) (rows' := kb_182_63.drop 1) (loc' := [.inr (11, 0, 0, 0), .inl (.int x1), .inl (.int x2), .inl (.int x3), .inl (.int (x4 + 1))]) (st' := []) (P1 := P) rfl ⟨trivial, trivial⟩ ?_
        refine tr_goto ?_
        exact ih x1 x2 x3 (x4 + 1) P
      · refine tr_icF (cd := .eq) h7 ?_
        refine tr_blk 5 (pc' := 48) (rows' := kb_182_22.drop 13) (loc' := [.inr (11, 0, 0, 0), .inl (.int x1), .inl (.int x2), .inl (.int x3), .inl (.int x4)]) (st' := [.inl (.int x2), .inl (.int x1), .inl (.int x4), .inr (8, 0, 0, 49)]) (P1 := P) rfl ⟨trivial, trivial, trivial, trivial, trivial, trivial⟩ ?_
        refine tr_cWL (z := km_244) (av := [.inr (8, 0, 0, 49), .inl (.int x4), .inl (.int x1), .inl (.int x2)]) (st' := []) rfl rfl rfl (Nat.le_of_ble_eq_true rfl) ⟨rfl, Or.inl (by decide)⟩ rfl (Nat.le_of_ble_eq_true rfl) (t_244 N x4 x1 x2 P) (fun v5 P4 => ?_)
        refine tr_blk 2 (pc' := 53) (rows' := kb_182_22.drop 16) (loc' := [.inr (11, 0, 0, 0), .inl (.int x1), .inl (.int x2), .inl (.int x3), .inl (.int x4)]) (st' := [.inl (.int (lg_cmp v5 (0 : Int64)))]) (P1 := P4) rfl ⟨trivial, trivial, trivial⟩ ?_
        refine tr_if (fun h8 => ?_) (fun h8 => ?_)
        · refine tr_ifT (cd := .eq) h8 ?_
          refine tr_nil (rows2 := kb_182_63) rfl (List.cons_ne_nil _ _) ?_
          refine tr_blk 1 (pc' := 66) (rows' := kb_182_63.drop 1) (loc' := [.inr (11, 0, 0, 0), .inl (.int x1), .inl (.int x2), .inl (.int x3), .inl (.int (x4 + 1))]) (st' := []) (P1 := P4) rfl ⟨trivial, trivial⟩ ?_
          refine tr_goto ?_
          exact ih x1 x2 x3 (x4 + 1) P4
        · refine tr_ifF (cd := .eq) h8 ?_
          refine tr_blk 6 (pc' := 63) (rows' := kb_182_22.drop 23) (loc' := [.inr (11, 0, 0, 0), .inl (.int x1), .inl (.int x2), .inl (.int (x3 ||| ((1 : Int32) <<< (x4 &&& 31)))), .inl (.int x4)]) (st' := []) (P1 := P4) rfl ⟨trivial, trivial, trivial, trivial, trivial, trivial, trivial⟩ ?_
          refine tr_nil (rows2 := kb_182_63) rfl (List.cons_ne_nil _ _) ?_
          refine tr_blk 1 (pc' := 66) (rows' := kb_182_63.drop 1) (loc' := [.inr (11, 0, 0, 0), .inl (.int x1), .inl (.int x2), .inl (.int (x3 ||| ((1 : Int32) <<< (x4 &&& 31)))), .inl (.int (x4 + 1))]) (st' := []) (P1 := P4) rfl ⟨trivial, trivial⟩ ?_
          refine tr_goto ?_
          exact ih x1 x2 (x3 ||| ((1 : Int32) <<< (x4 &&& 31))) (x4 + 1) P4
    · refine tr_icT (cd := .ge) (Int32.not_lt.mp h6) ?_
      refine tr_nil (rows2 := kb_182_69) rfl (List.cons_ne_nil _ _) ?_
      refine tr_blk 1 (pc' := 70) (rows' := kb_182_69.drop 1) (loc' := [.inr (11, 0, 0, 0), .inl (.int x1), .inl (.int x2), .inl (.int x3), .inl (.int x4)]) (st' := [.inl (.int x3)]) (P1 := P) rfl ⟨trivial, trivial⟩ ?_
      exact tr_reI (z := km_182) rfl ⟨_, rfl, rfl⟩ rfl
def f_182 (N : Nat) (a1 : Int32) (a2 : Int32) (P : ab_P) : Option ((Int32 ⊕ Fin 3) × ab_P) :=
    ab_x2 (f_232 a1 P) (fun _ P1 =>
    Option.bind (f_240 P1 a2 (1 : Int32) (999 : Int32)) fun v2 =>
    ab_x2 (f_228 v2 P1) (fun _ P3 =>
    f_182_22 N N a1 a2 (0 : Int32) (0 : Int32) P3) (fun q => q)) (fun q => q)
theorem t_182 {xs : Nat × (Nat → Int32)} {d : Nat} (N : Nat) : ∀ (a1 : Int32) (a2 : Int32) (P : ab_P), ab_tr xs xI (d + 3) 182 0 [] [.inr (11, 0, 0, 0), .inl (.int a1), .inl (.int a2), ab_top, ab_top] [] P (f_182 N a1 a2 P) := by
  intro a1 a2 P
  unfold f_182
  refine tr_nil (rows2 := kb_182_0) rfl (List.cons_ne_nil _ _) ?_
  refine tr_blk 2 (pc' := 2) (rows' := kb_182_0.drop 2) (loc' := [.inr (11, 0, 0, 0), .inl (.int a1), .inl (.int a2), ab_top, ab_top]) (st' := [.inl (.int a1), .inr (11, 0, 0, 0)]) (P1 := P) rfl ⟨trivial, trivial, trivial⟩ ?_
  refine tr_cax (fun _ => none) (zi := km_182) (fun _ => rfl) (fun _ _ => rfl) rfl rfl (z := km_232) (av := [.inr (11, 0, 0, 0), .inl (.int a1)]) (st' := []) rfl rfl rfl (Nat.le_of_ble_eq_true rfl) ⟨rfl, Or.inl (by decide)⟩ rfl (Nat.le_of_ble_eq_true rfl) (t_232 a1 P) (fun _ P1 => ?_)
  refine tr_blk 4 (pc' := 11) (rows' := kb_182_0.drop 7) (loc' := [.inr (11, 0, 0, 0), .inl (.int a1), .inl (.int a2), ab_top, ab_top]) (st' := [.inl (.int (999 : Int32)), .inl (.int (1 : Int32)), .inl (.int a2), .inr (11, 0, 0, 0)]) (P1 := P1) rfl ⟨trivial, trivial, trivial, trivial, trivial⟩ ?_
  refine tr_cRI (z := km_240) (av := [.inl (.int a2), .inl (.int (1 : Int32)), .inl (.int (999 : Int32))]) (st' := [.inr (11, 0, 0, 0)]) rfl rfl rfl (Nat.le_of_ble_eq_true rfl) trivial rfl (Nat.le_of_ble_eq_true rfl) (t_240 P1 a2 (1 : Int32) (999 : Int32)) (fun v2 => ?_)
  refine tr_cax (fun _ => none) (zi := km_182) (fun _ => rfl) (fun _ _ => rfl) rfl rfl (z := km_228) (av := [.inr (11, 0, 0, 0), .inl (.int v2)]) (st' := []) rfl rfl rfl (Nat.le_of_ble_eq_true rfl) ⟨rfl, Or.inl (by decide)⟩ rfl (Nat.le_of_ble_eq_true rfl) (t_228 v2 P1) (fun _ P3 => ?_)
  refine tr_blk 4 (pc' := 22) (rows' := kb_182_0.drop 13) (loc' := [.inr (11, 0, 0, 0), .inl (.int a1), .inl (.int a2), .inl (.int (0 : Int32)), .inl (.int (0 : Int32))]) (st' := []) (P1 := P3) rfl ⟨trivial, trivial, trivial, trivial, trivial⟩ ?_
  exact t_182_22 N N a1 a2 (0 : Int32) (0 : Int32) P3
def f_72_1 (N : Nat) (a1 : Int32) (a2 : Int32) (P : ab_P) : Option (Int32 × ab_P) :=
    ab_h2 (f_182 N a1 a2 P) (fun v2 P1 =>
    ab_lt (ab_pL P1 570 0 (v2).toInt64) fun P3 =>
    some ((0 : Int32), P3))
    (fun P9 => some ((1 : Int32), P9)) (fun P9 => some ((2 : Int32), P9)) (fun _ => none)
theorem t_72_1 {xs : Nat × (Nat → Int32)} {d : Nat} (N : Nat) : ∀ (a1 : Int32) (a2 : Int32) (P : ab_P), ab_tr xs wI (d + 4) 72 0 [] [.inr (11, 0, 0, 0), .inl (.int a1), .inl (.int a2), .inr (22, 1, 0, 570), ab_top] [] P (f_72_1 N a1 a2 P) := by
  intro a1 a2 P
  unfold f_72_1
  refine tr_nil (rows2 := kb_72_0) rfl (List.cons_ne_nil _ _) ?_
  refine tr_blk 5 (pc' := 5) (rows' := kb_72_0.drop 5) (loc' := [.inr (11, 0, 0, 0), .inl (.int a1), .inl (.int a2), .inr (22, 1, 0, 570), ab_top]) (st' := [.inl (.int a2), .inl (.int a1), .inr (11, 0, 0, 0), .inl (.int (0 : Int32)), .inr (22, 1, 0, 570)]) (P1 := P) rfl ⟨trivial, trivial, trivial, trivial, trivial, trivial⟩ ?_
  refine tr_cah (fun b => some (.inl (.int b))) (zi := km_72) (fun _ => rfl) rfl (z := km_182) (av := [.inr (11, 0, 0, 0), .inl (.int a1), .inl (.int a2)]) (st' := [.inl (.int (0 : Int32)), .inr (22, 1, 0, 570)]) rfl rfl rfl (Nat.le_of_ble_eq_true rfl) ⟨rfl, Or.inl (by decide)⟩ rfl (Nat.le_of_ble_eq_true rfl) (t_182 N a1 a2 P) (fun v2 P1 => ?_) ?_ ?_ ?_
  · refine tr_blk 2 (pc' := 10) (rows' := kb_72_0.drop 8) (loc' := [.inr (11, 0, 0, 0), .inl (.int a1), .inl (.int a2), .inr (22, 1, 0, 570), ab_top]) (st' := []) (P1 := (ab_pL P1 570 0 (v2).toInt64)) rfl ⟨trivial, (ab_vi (by decide)), trivial⟩ ?_
    refine tr_lt (fun P3 => ?_)
    refine tr_goto ?_
    refine tr_nil (rows2 := kb_72_21) rfl (List.cons_ne_nil _ _) ?_
    refine tr_blk 1 (pc' := 22) (rows' := kb_72_21.drop 1) (loc' := [.inr (11, 0, 0, 0), .inl (.int a1), .inl (.int a2), .inr (22, 1, 0, 570), ab_top]) (st' := [.inl (.int (0 : Int32))]) (P1 := P3) rfl ⟨trivial, trivial⟩ ?_
    exact tr_reI (z := km_72) rfl ⟨_, rfl, rfl⟩ rfl
  · exact fun _ => tr_han (rows2 := kb_72_13) (z := km_72) _ (fun q => [.inr (11, 0, 0, 0), .inl (.int a1), .inl (.int a2), .inr (22, 1, 0, 570), .inr (40, 0, 0, q)]) rfl (List.cons_ne_nil _ _) (fun q => rfl) ⟨trivial, trivial, trivial⟩ rfl ⟨_, rfl, rfl⟩ rfl
  · exact fun _ => tr_han (rows2 := kb_72_17) (z := km_72) _ (fun q => [.inr (11, 0, 0, 0), .inl (.int a1), .inl (.int a2), .inr (22, 1, 0, 570), .inr (40, 1, 0, q)]) rfl (List.cons_ne_nil _ _) (fun q => rfl) ⟨trivial, trivial, trivial⟩ rfl ⟨_, rfl, rfl⟩ rfl
  · exact fun _ => rfl
def f_73_59 (N : Nat) : Nat → Int32 → Int32 → Int32 → Int32 → ab_P → Option (Int32 × ab_P)
  | 0, _, _, _, _, _ => none
  | n + 1, x1, x2, x3, x4, P =>
    if x4 < (P.1 76 0) then
      if x4 = x1 then
        f_73_59 N n x1 x2 (x3 ||| (0 : Int32)) (x4 + 1) P
      else
      ab_b2 (f_152_366 477 N x4 x1 x2 P) fun v9 P8 =>
      if (lg_cmp v9 (0 : Int64)) = (0 : Int32) then
        f_73_59 N n x1 x2 (x3 ||| (0 : Int32)) (x4 + 1) P8
      else
      f_73_59 N n x1 x2 (x3 ||| ((1 : Int32) <<< (x4 &&& 31))) (x4 + 1) P8
    else
    some (x3, P)
theorem t_73_59 {xs : Nat × (Nat → Int32)} {d : Nat} (N : Nat) : ∀ n : Nat, ∀ (x1 : Int32) (x2 : Int32) (x3 : Int32) (x4 : Int32) (P : ab_P), ab_tr xs wI (d + 4) 73 59 [] [.inr (12, 0, 0, 72), .inl (.int x1), .inl (.int x2), .inl (.int x3), .inl (.int x4)] [] P (f_73_59 N n x1 x2 x3 x4 P) := by
  intro n
  induction n with
  | zero => intro x1 x2 x3 x4 P; exact tr_no
  | succ n ih =>
    intro x1 x2 x3 x4 P
    refine tr_nil (rows2 := kb_73_59) rfl (List.cons_ne_nil _ _) ?_
    refine tr_blk 5 (pc' := 67) (rows' := kb_73_59.drop 5) (loc' := [.inr (12, 0, 0, 72), .inl (.int x1), .inl (.int x2), .inl (.int x3), .inl (.int x4)]) (st' := [.inl (.int (P.1 76 0)), .inl (.int x4)]) (P1 := P) rfl ⟨trivial, trivial, trivial, trivial, (ab_vi (by decide)), trivial⟩ ?_
    refine tr_if (fun h10 => ?_) (fun h10 => ?_)
    · refine tr_icF (cd := .ge) (Int32.not_le.mpr h10) ?_
      refine tr_blk 3 (pc' := 74) (rows' := kb_73_59.drop 9) (loc' := [.inr (12, 0, 0, 72), .inl (.int x1), .inl (.int x2), .inl (.int x3), .inl (.int x4)]) (st' := [.inl (.int x1), .inl (.int x4), .inl (.int x3)]) (P1 := P) rfl ⟨trivial, trivial, trivial, trivial⟩ ?_
      refine tr_if (fun h11 => ?_) (fun h11 => ?_)
      · refine tr_icT (cd := .eq) h11 ?_
        refine tr_nil (rows2 := kb_73_101) rfl (List.cons_ne_nil _ _) ?_
        refine tr_blk 1 (pc' := 102) (rows' := kb_73_101.drop 1) (loc' := [.inr (12, 0, 0, 72), .inl (.int x1), .inl (.int x2), .inl (.int x3), .inl (.int x4)]) (st' := [.inl (.int (0 : Int32)), .inl (.int x3)]) (P1 := P) rfl ⟨trivial, trivial⟩ ?_
        refine tr_nil (rows2 := kb_73_102) rfl (List.cons_ne_nil _ _) ?_
        refine tr_blk 3 (pc' := 107) (rows' := kb_73_102.drop 3) (loc' := [.inr (12, 0, 0, 72), .inl (.int x1), .inl (.int x2), .inl (.int (x3 ||| (0 : Int32))), .inl (.int (x4 + 1))]) (st' := []) (P1 := P) rfl ⟨trivial, trivial, trivial, trivial⟩ ?_
        refine tr_goto ?_
        exact ih x1 x2 (x3 ||| (0 : Int32)) (x4 + 1) P
      · refine tr_icF (cd := .eq) h11 ?_
        refine tr_blk 6 (pc' := 86) (rows' := kb_73_59.drop 16) (loc' := [.inr (12, 0, 0, 72), .inl (.int x1), .inl (.int x2), .inl (.int x3), .inl (.int x4)]) (st' := [.inl (.int x2), .inl (.int x1), .inl (.int x4), .inr (20, 366, 0, 477), .inr (12, 0, 0, 72), .inl (.int x3)]) (P1 := P) rfl ⟨trivial, trivial, trivial, trivial, trivial, trivial, trivial⟩ ?_
        refine tr_cWL (z := km_152) (av := [.inr (12, 0, 0, 72), .inr (20, 366, 0, 477), .inl (.int x4), .inl (.int x1), .inl (.int x2)]) (st' := [.inl (.int x3)]) rfl rfl rfl (Nat.le_of_ble_eq_true rfl) ⟨rfl, Or.inl (by decide)⟩ rfl (Nat.le_of_ble_eq_true rfl) (t_152_366 477 N x4 x1 x2 P) (fun v9 P8 => ?_)
        refine tr_blk 2 (pc' := 91) (rows' := kb_73_59.drop 19) (loc' := [.inr (12, 0, 0, 72), .inl (.int x1), .inl (.int x2), .inl (.int x3), .inl (.int x4)]) (st' := [.inl (.int (lg_cmp v9 (0 : Int64))), .inl (.int x3)]) (P1 := P8) rfl ⟨trivial, trivial, trivial⟩ ?_
        refine tr_if (fun h12 => ?_) (fun h12 => ?_)
        · refine tr_ifT (cd := .eq) h12 ?_
          refine tr_nil (rows2 := kb_73_101) rfl (List.cons_ne_nil _ _) ?_
          refine tr_blk 1 (pc' := 102) (rows' := kb_73_101.drop 1) (loc' := [.inr (12, 0, 0, 72), .inl (.int x1), .inl (.int x2), .inl (.int x3), .inl (.int x4)]) (st' := [.inl (.int (0 : Int32)), .inl (.int x3)]) (P1 := P8) rfl ⟨trivial, trivial⟩ ?_
          refine tr_nil (rows2 := kb_73_102) rfl (List.cons_ne_nil _ _) ?_
          refine tr_blk 3 (pc' := 107) (rows' := kb_73_102.drop 3) (loc' := [.inr (12, 0, 0, 72), .inl (.int x1), .inl (.int x2), .inl (.int (x3 ||| (0 : Int32))), .inl (.int (x4 + 1))]) (st' := []) (P1 := P8) rfl ⟨trivial, trivial, trivial, trivial⟩ ?_
          refine tr_goto ?_
          exact ih x1 x2 (x3 ||| (0 : Int32)) (x4 + 1) P8
        · refine tr_ifF (cd := .eq) h12 ?_
          refine tr_blk 3 (pc' := 98) (rows' := kb_73_59.drop 23) (loc' := [.inr (12, 0, 0, 72), .inl (.int x1), .inl (.int x2), .inl (.int x3), .inl (.int x4)]) (st' := [.inl (.int ((1 : Int32) <<< (x4 &&& 31))), .inl (.int x3)]) (P1 := P8) rfl ⟨trivial, trivial, trivial, trivial⟩ ?_
          refine tr_goto ?_
          refine tr_nil (rows2 := kb_73_102) rfl (List.cons_ne_nil _ _) ?_
          refine tr_blk 3 (pc' := 107) (rows' := kb_73_102.drop 3) (loc' := [.inr (12, 0, 0, 72), .inl (.int x1), .inl (.int x2), .inl (.int (x3 ||| ((1 : Int32) <<< (x4 &&& 31)))), .inl (.int (x4 + 1))]) (st' := []) (P1 := P8) rfl ⟨trivial, trivial, trivial, trivial⟩ ?_
          refine tr_goto ?_
          exact ih x1 x2 (x3 ||| ((1 : Int32) <<< (x4 &&& 31))) (x4 + 1) P8
    · refine tr_icT (cd := .ge) (Int32.not_lt.mp h10) ?_
      refine tr_nil (rows2 := kb_73_110) rfl (List.cons_ne_nil _ _) ?_
      refine tr_blk 1 (pc' := 111) (rows' := kb_73_110.drop 1) (loc' := [.inr (12, 0, 0, 72), .inl (.int x1), .inl (.int x2), .inl (.int x3), .inl (.int x4)]) (st' := [.inl (.int x3)]) (P1 := P) rfl ⟨trivial, trivial⟩ ?_
      exact tr_reI (z := km_73) rfl ⟨_, rfl, rfl⟩ rfl
def f_73_44 (N : Nat) (x1 : Int32) (x2 : Int32) (s0 : Int32) (P : ab_P) : Option (Int32 × ab_P) :=
    ab_b2 (f_113 s0 (2 : Int32) (1 : Int32) P) fun v7 P6 =>
    if v7 = (0 : Int32) then
      f_73_59 N N x1 x2 (0 : Int32) (0 : Int32) P6
    else
    some ((0 : Int32), P6)
theorem t_73_44 {xs : Nat × (Nat → Int32)} {d : Nat} (N : Nat) : ∀ (x1 : Int32) (x2 : Int32) (s0 : Int32) (P : ab_P), ab_tr xs wI (d + 4) 73 44 [] [.inr (12, 0, 0, 72), .inl (.int x1), .inl (.int x2), ab_top, ab_top] [.inl (.int s0), .inr (12, 0, 0, 72)] P (f_73_44 N x1 x2 s0 P) := by
  intro x1 x2 s0 P
  unfold f_73_44
  refine tr_nil (rows2 := kb_73_44) rfl (List.cons_ne_nil _ _) ?_
  refine tr_blk 2 (pc' := 46) (rows' := kb_73_44.drop 2) (loc' := [.inr (12, 0, 0, 72), .inl (.int x1), .inl (.int x2), ab_top, ab_top]) (st' := [.inl (.int (1 : Int32)), .inl (.int (2 : Int32)), .inl (.int s0), .inr (12, 0, 0, 72)]) (P1 := P) rfl ⟨trivial, trivial, trivial⟩ ?_
  refine tr_cWI (z := km_113) (av := [.inr (12, 0, 0, 72), .inl (.int s0), .inl (.int (2 : Int32)), .inl (.int (1 : Int32))]) (st' := []) rfl rfl rfl (Nat.le_of_ble_eq_true rfl) ⟨rfl, Or.inl (by decide)⟩ rfl (Nat.le_of_ble_eq_true rfl) (t_113 s0 (2 : Int32) (1 : Int32) P) (fun v7 P6 => ?_)
  refine tr_if (fun h13 => ?_) (fun h13 => ?_)
  · refine tr_ifT (cd := .eq) h13 ?_
    refine tr_nil (rows2 := kb_73_54) rfl (List.cons_ne_nil _ _) ?_
    refine tr_blk 4 (pc' := 59) (rows' := kb_73_54.drop 4) (loc' := [.inr (12, 0, 0, 72), .inl (.int x1), .inl (.int x2), .inl (.int (0 : Int32)), .inl (.int (0 : Int32))]) (st' := []) (P1 := P6) rfl ⟨trivial, trivial, trivial, trivial, trivial⟩ ?_
    exact t_73_59 N N x1 x2 (0 : Int32) (0 : Int32) P6
  · refine tr_ifF (cd := .eq) h13 ?_
    refine tr_nil (rows2 := kb_73_52) rfl (List.cons_ne_nil _ _) ?_
    refine tr_blk 1 (pc' := 53) (rows' := kb_73_52.drop 1) (loc' := [.inr (12, 0, 0, 72), .inl (.int x1), .inl (.int x2), ab_top, ab_top]) (st' := [.inl (.int (0 : Int32))]) (P1 := P6) rfl ⟨trivial, trivial⟩ ?_
    exact tr_reI (z := km_73) rfl ⟨_, rfl, rfl⟩ rfl
def f_73_19 (N : Nat) (x1 : Int32) (x2 : Int32) (s0 : Int32) (P : ab_P) : Option (Int32 × ab_P) :=
    ab_b2 (f_113 s0 (1 : Int32) (0 : Int32) P) fun v4 P3 =>
    if v4 = (0 : Int32) then
      Option.bind (f_112 P3 x2 (1 : Int32) (999 : Int32)) fun v5 =>
      if v5 = (0 : Int32) then
        f_73_44 N x1 x2 (1 : Int32) P3
      else
      f_73_44 N x1 x2 (0 : Int32) P3
    else
    some ((0 : Int32), P3)
theorem t_73_19 {xs : Nat × (Nat → Int32)} {d : Nat} (N : Nat) : ∀ (x1 : Int32) (x2 : Int32) (s0 : Int32) (P : ab_P), ab_tr xs wI (d + 4) 73 19 [] [.inr (12, 0, 0, 72), .inl (.int x1), .inl (.int x2), ab_top, ab_top] [.inl (.int s0), .inr (12, 0, 0, 72)] P (f_73_19 N x1 x2 s0 P) := by
  intro x1 x2 s0 P
  unfold f_73_19
  refine tr_nil (rows2 := kb_73_19) rfl (List.cons_ne_nil _ _) ?_
  refine tr_blk 2 (pc' := 21) (rows' := kb_73_19.drop 2) (loc' := [.inr (12, 0, 0, 72), .inl (.int x1), .inl (.int x2), ab_top, ab_top]) (st' := [.inl (.int (0 : Int32)), .inl (.int (1 : Int32)), .inl (.int s0), .inr (12, 0, 0, 72)]) (P1 := P) rfl ⟨trivial, trivial, trivial⟩ ?_
  refine tr_cWI (z := km_113) (av := [.inr (12, 0, 0, 72), .inl (.int s0), .inl (.int (1 : Int32)), .inl (.int (0 : Int32))]) (st' := []) rfl rfl rfl (Nat.le_of_ble_eq_true rfl) ⟨rfl, Or.inl (by decide)⟩ rfl (Nat.le_of_ble_eq_true rfl) (t_113 s0 (1 : Int32) (0 : Int32) P) (fun v4 P3 => ?_)
  refine tr_if (fun h14 => ?_) (fun h14 => ?_)
  · refine tr_ifF (cd := .ne) (fun q => q h14) ?_
    refine tr_blk 4 (pc' := 33) (rows' := kb_73_19.drop 8) (loc' := [.inr (12, 0, 0, 72), .inl (.int x1), .inl (.int x2), ab_top, ab_top]) (st' := [.inl (.int (999 : Int32)), .inl (.int (1 : Int32)), .inl (.int x2), .inr (12, 0, 0, 72)]) (P1 := P3) rfl ⟨trivial, trivial, trivial, trivial, trivial⟩ ?_
    refine tr_cRI (z := km_112) (av := [.inl (.int x2), .inl (.int (1 : Int32)), .inl (.int (999 : Int32))]) (st' := [.inr (12, 0, 0, 72)]) rfl rfl rfl (Nat.le_of_ble_eq_true rfl) trivial rfl (Nat.le_of_ble_eq_true rfl) (t_112 P3 x2 (1 : Int32) (999 : Int32)) (fun v5 => ?_)
    refine tr_if (fun h15 => ?_) (fun h15 => ?_)
    · refine tr_ifF (cd := .ne) (fun q => q h15) ?_
      refine tr_blk 1 (pc' := 40) (rows' := kb_73_19.drop 11) (loc' := [.inr (12, 0, 0, 72), .inl (.int x1), .inl (.int x2), ab_top, ab_top]) (st' := [.inl (.int (1 : Int32)), .inr (12, 0, 0, 72)]) (P1 := P3) rfl ⟨trivial, trivial⟩ ?_
      refine tr_goto ?_
      exact t_73_44 N x1 x2 (1 : Int32) P3
    · refine tr_ifT (cd := .ne) h15 ?_
      refine tr_nil (rows2 := kb_73_43) rfl (List.cons_ne_nil _ _) ?_
      refine tr_blk 1 (pc' := 44) (rows' := kb_73_43.drop 1) (loc' := [.inr (12, 0, 0, 72), .inl (.int x1), .inl (.int x2), ab_top, ab_top]) (st' := [.inl (.int (0 : Int32)), .inr (12, 0, 0, 72)]) (P1 := P3) rfl ⟨trivial, trivial⟩ ?_
      exact t_73_44 N x1 x2 (0 : Int32) P3
  · refine tr_ifT (cd := .ne) h14 ?_
    refine tr_nil (rows2 := kb_73_52) rfl (List.cons_ne_nil _ _) ?_
    refine tr_blk 1 (pc' := 53) (rows' := kb_73_52.drop 1) (loc' := [.inr (12, 0, 0, 72), .inl (.int x1), .inl (.int x2), ab_top, ab_top]) (st' := [.inl (.int (0 : Int32))]) (P1 := P3) rfl ⟨trivial, trivial⟩ ?_
    exact tr_reI (z := km_73) rfl ⟨_, rfl, rfl⟩ rfl
def f_73 (N : Nat) (a1 : Int32) (a2 : Int32) (P : ab_P) : Option (Int32 × ab_P) :=
    ab_lt (ab_pI P 72 0 (0 : Int32)) fun P1 =>
    Option.bind (f_137 P1 a1) fun v2 =>
    if v2 = (0 : Int32) then
      f_73_19 N a1 a2 (1 : Int32) P1
    else
    f_73_19 N a1 a2 (0 : Int32) P1
theorem t_73 {xs : Nat × (Nat → Int32)} {d : Nat} (N : Nat) : ∀ (a1 : Int32) (a2 : Int32) (P : ab_P), ab_tr xs wI (d + 4) 73 0 [] [.inr (12, 0, 0, 72), .inl (.int a1), .inl (.int a2), ab_top, ab_top] [] P (f_73 N a1 a2 P) := by
  intro a1 a2 P
  unfold f_73
  refine tr_nil (rows2 := kb_73_0) rfl (List.cons_ne_nil _ _) ?_
  refine tr_blk 3 (pc' := 5) (rows' := kb_73_0.drop 3) (loc' := [.inr (12, 0, 0, 72), .inl (.int a1), .inl (.int a2), ab_top, ab_top]) (st' := []) (P1 := (ab_pI P 72 0 (0 : Int32))) rfl ⟨trivial, trivial, trivial, trivial⟩ ?_
  refine tr_lt (fun P1 => ?_)
  refine tr_blk 3 (pc' := 8) (rows' := kb_73_0.drop 6) (loc' := [.inr (12, 0, 0, 72), .inl (.int a1), .inl (.int a2), ab_top, ab_top]) (st' := [.inl (.int a1), .inr (12, 0, 0, 72), .inr (12, 0, 0, 72)]) (P1 := P1) rfl ⟨trivial, trivial, trivial, trivial⟩ ?_
  refine tr_cRI (z := km_137) (av := [.inr (12, 0, 0, 72), .inl (.int a1)]) (st' := [.inr (12, 0, 0, 72)]) rfl rfl rfl (Nat.le_of_ble_eq_true rfl) ⟨rfl, Or.inl (by decide)⟩ rfl (Nat.le_of_ble_eq_true rfl) (t_137 P1 a1) (fun v2 => ?_)
  refine tr_if (fun h16 => ?_) (fun h16 => ?_)
  · refine tr_ifF (cd := .ne) (fun q => q h16) ?_
    refine tr_blk 1 (pc' := 15) (rows' := kb_73_0.drop 9) (loc' := [.inr (12, 0, 0, 72), .inl (.int a1), .inl (.int a2), ab_top, ab_top]) (st' := [.inl (.int (1 : Int32)), .inr (12, 0, 0, 72)]) (P1 := P1) rfl ⟨trivial, trivial⟩ ?_
    refine tr_goto ?_
    exact t_73_19 N a1 a2 (1 : Int32) P1
  · refine tr_ifT (cd := .ne) h16 ?_
    refine tr_nil (rows2 := kb_73_18) rfl (List.cons_ne_nil _ _) ?_
    refine tr_blk 1 (pc' := 19) (rows' := kb_73_18.drop 1) (loc' := [.inr (12, 0, 0, 72), .inl (.int a1), .inl (.int a2), ab_top, ab_top]) (st' := [.inl (.int (0 : Int32)), .inr (12, 0, 0, 72)]) (P1 := P1) rfl ⟨trivial, trivial⟩ ?_
    exact t_73_19 N a1 a2 (0 : Int32) P1
def f_269_8 : Nat → Int32 → ab_P → Option (Int32 × ab_P)
  | 0, _, _ => none
  | n + 1, x3, P =>
    if (0 : Int32) < x3 then
      Option.bind (f_302 P x3) fun v3 =>
      if v3 = (0 : Int32) then
        f_269_8 n (x3 + (-1)) P
      else
      some (x3, P)
    else
    some ((0 : Int32), P)
theorem t_269_8 {xs : Nat × (Nat → Int32)} {d : Nat} : ∀ n : Nat, ∀ (x3 : Int32) (d1 : Int32) (d2 : Int32) (P : ab_P), ab_tr xs wI (d + 3) 269 8 [] [.inr (8, 0, 0, 49), .inl (.int d1), .inl (.int d2), .inl (.int x3)] [] P (f_269_8 n x3 P) := by
  intro n
  induction n with
  | zero => intro x3 d1 d2 P; exact tr_no
  | succ n ih =>
    intro x3 d1 d2 P
    refine tr_nil (rows2 := kb_269_8) rfl (List.cons_ne_nil _ _) ?_
    refine tr_blk 1 (pc' := 9) (rows' := kb_269_8.drop 1) (loc' := [.inr (8, 0, 0, 49), .inl (.int d1), .inl (.int d2), .inl (.int x3)]) (st' := [.inl (.int x3)]) (P1 := P) rfl ⟨trivial, trivial⟩ ?_
    refine tr_if (fun h4 => ?_) (fun h4 => ?_)
    · refine tr_ifF (cd := .le) (Int32.not_le.mpr h4) ?_
      refine tr_blk 2 (pc' := 14) (rows' := kb_269_8.drop 4) (loc' := [.inr (8, 0, 0, 49), .inl (.int d1), .inl (.int d2), .inl (.int x3)]) (st' := [.inl (.int x3), .inr (8, 0, 0, 49)]) (P1 := P) rfl ⟨trivial, trivial, trivial⟩ ?_
      refine tr_cRI (z := km_302) (av := [.inr (8, 0, 0, 49), .inl (.int x3)]) (st' := []) rfl rfl rfl (Nat.le_of_ble_eq_true rfl) ⟨rfl, Or.inl (by decide)⟩ rfl (Nat.le_of_ble_eq_true rfl) (t_302 P x3) (fun v3 => ?_)
      refine tr_if (fun h5 => ?_) (fun h5 => ?_)
      · refine tr_ifT (cd := .eq) h5 ?_
        refine tr_nil (rows2 := kb_269_22) rfl (List.cons_ne_nil _ _) ?_
        refine tr_blk 1 (pc' := 25) (rows' := kb_269_22.drop 1) (loc' := [.inr (8, 0, 0, 49), .inl (.int d1), .inl (.int d2), .inl (.int (x3 + (-1)))]) (st' := []) (P1 := P) rfl ⟨trivial, trivial⟩ ?_
        refine tr_goto ?_
        exact ih (x3 + (-1)) (d1) (d2) P
      · refine tr_ifF (cd := .eq) h5 ?_
        refine tr_blk 1 (pc' := 21) (rows' := kb_269_8.drop 7) (loc' := [.inr (8, 0, 0, 49), .inl (.int d1), .inl (.int d2), .inl (.int x3)]) (st' := [.inl (.int x3)]) (P1 := P) rfl ⟨trivial, trivial⟩ ?_
        exact tr_reI (z := km_269) rfl ⟨_, rfl, rfl⟩ rfl
    · refine tr_ifT (cd := .le) (Int32.not_lt.mp h4) ?_
      refine tr_nil (rows2 := kb_269_28) rfl (List.cons_ne_nil _ _) ?_
      refine tr_blk 1 (pc' := 29) (rows' := kb_269_28.drop 1) (loc' := [.inr (8, 0, 0, 49), .inl (.int d1), .inl (.int d2), .inl (.int x3)]) (st' := [.inl (.int (0 : Int32))]) (P1 := P) rfl ⟨trivial, trivial⟩ ?_
      exact tr_reI (z := km_269) rfl ⟨_, rfl, rfl⟩ rfl
def f_269 (N : Nat) (a1 : Int32) (a2 : Int32) (P : ab_P) : Option (Int32 × ab_P) :=
    ab_b2 (f_301 N a1 P) fun v2 P1 =>
    f_269_8 N a2 P1
theorem t_269 {xs : Nat × (Nat → Int32)} {d : Nat} (N : Nat) : ∀ (a1 : Int32) (a2 : Int32) (P : ab_P), ab_tr xs wI (d + 3) 269 0 [] [.inr (8, 0, 0, 49), .inl (.int a1), .inl (.int a2), ab_top] [] P (f_269 N a1 a2 P) := by
  intro a1 a2 P
  unfold f_269
  refine tr_nil (rows2 := kb_269_0) rfl (List.cons_ne_nil _ _) ?_
  refine tr_blk 2 (pc' := 2) (rows' := kb_269_0.drop 2) (loc' := [.inr (8, 0, 0, 49), .inl (.int a1), .inl (.int a2), ab_top]) (st' := [.inl (.int a1), .inr (8, 0, 0, 49)]) (P1 := P) rfl ⟨trivial, trivial, trivial⟩ ?_
  refine tr_cWI (z := km_301) (av := [.inr (8, 0, 0, 49), .inl (.int a1)]) (st' := []) rfl rfl rfl (Nat.le_of_ble_eq_true rfl) ⟨rfl, Or.inl (by decide)⟩ rfl (Nat.le_of_ble_eq_true rfl) (t_301 N a1 P) (fun v2 P1 => ?_)
  refine tr_blk 3 (pc' := 8) (rows' := kb_269_0.drop 6) (loc' := [.inr (8, 0, 0, 49), .inl (.int a1), .inl (.int a2), .inl (.int a2)]) (st' := []) (P1 := P1) rfl ⟨trivial, trivial, trivial, trivial⟩ ?_
  exact t_269_8 N a2 (a1) (a2) P1
def f_183 (N : Nat) (a1 : Int32) (a2 : Int32) (P : ab_P) : Option ((Int32 ⊕ Fin 3) × ab_P) :=
    ab_x2 (f_232 a1 P) (fun _ P1 =>
    Option.bind (f_240 P1 a2 (0 : Int32) (9999 : Int32)) fun v2 =>
    ab_x2 (f_228 v2 P1) (fun _ P3 =>
    ab_b2 (f_269 N a1 a2 P3) fun v5 P4 =>
    some (.inl (a2 - v5), P4)) (fun q => q)) (fun q => q)
theorem t_183 {xs : Nat × (Nat → Int32)} {d : Nat} (N : Nat) : ∀ (a1 : Int32) (a2 : Int32) (P : ab_P), ab_tr xs xI (d + 4) 183 0 [] [.inr (11, 0, 0, 0), .inl (.int a1), .inl (.int a2)] [] P (f_183 N a1 a2 P) := by
  intro a1 a2 P
  unfold f_183
  refine tr_nil (rows2 := kb_183_0) rfl (List.cons_ne_nil _ _) ?_
  refine tr_blk 2 (pc' := 2) (rows' := kb_183_0.drop 2) (loc' := [.inr (11, 0, 0, 0), .inl (.int a1), .inl (.int a2)]) (st' := [.inl (.int a1), .inr (11, 0, 0, 0)]) (P1 := P) rfl ⟨trivial, trivial, trivial⟩ ?_
  refine tr_cax (fun _ => none) (zi := km_183) (fun _ => rfl) (fun _ _ => rfl) rfl rfl (z := km_232) (av := [.inr (11, 0, 0, 0), .inl (.int a1)]) (st' := []) rfl rfl rfl (Nat.le_of_ble_eq_true rfl) ⟨rfl, Or.inl (by decide)⟩ rfl (Nat.le_of_ble_eq_true rfl) (t_232 a1 P) (fun _ P1 => ?_)
  refine tr_blk 4 (pc' := 11) (rows' := kb_183_0.drop 7) (loc' := [.inr (11, 0, 0, 0), .inl (.int a1), .inl (.int a2)]) (st' := [.inl (.int (9999 : Int32)), .inl (.int (0 : Int32)), .inl (.int a2), .inr (11, 0, 0, 0)]) (P1 := P1) rfl ⟨trivial, trivial, trivial, trivial, trivial⟩ ?_
  refine tr_cRI (z := km_240) (av := [.inl (.int a2), .inl (.int (0 : Int32)), .inl (.int (9999 : Int32))]) (st' := [.inr (11, 0, 0, 0)]) rfl rfl rfl (Nat.le_of_ble_eq_true rfl) trivial rfl (Nat.le_of_ble_eq_true rfl) (t_240 P1 a2 (0 : Int32) (9999 : Int32)) (fun v2 => ?_)
  refine tr_cax (fun _ => none) (zi := km_183) (fun _ => rfl) (fun _ _ => rfl) rfl rfl (z := km_228) (av := [.inr (11, 0, 0, 0), .inl (.int v2)]) (st' := []) rfl rfl rfl (Nat.le_of_ble_eq_true rfl) ⟨rfl, Or.inl (by decide)⟩ rfl (Nat.le_of_ble_eq_true rfl) (t_228 v2 P1) (fun _ P3 => ?_)
  refine tr_blk 5 (pc' := 24) (rows' := kb_183_0.drop 14) (loc' := [.inr (11, 0, 0, 0), .inl (.int a1), .inl (.int a2)]) (st' := [.inl (.int a2), .inl (.int a1), .inr (8, 0, 0, 49), .inl (.int a2)]) (P1 := P3) rfl ⟨trivial, trivial, trivial, trivial, trivial, trivial⟩ ?_
  refine tr_cWI (z := km_269) (av := [.inr (8, 0, 0, 49), .inl (.int a1), .inl (.int a2)]) (st' := [.inl (.int a2)]) rfl rfl rfl (Nat.le_of_ble_eq_true rfl) ⟨rfl, Or.inl (by decide)⟩ rfl (Nat.le_of_ble_eq_true rfl) (t_269 N a1 a2 P3) (fun v5 P4 => ?_)
  refine tr_blk 1 (pc' := 28) (rows' := kb_183_0.drop 16) (loc' := [.inr (11, 0, 0, 0), .inl (.int a1), .inl (.int a2)]) (st' := [.inl (.int (a2 - v5))]) (P1 := P4) rfl ⟨trivial, trivial⟩ ?_
  exact tr_reI (z := km_183) rfl ⟨_, rfl, rfl⟩ rfl
def f_74_1 (N : Nat) (a1 : Int32) (a2 : Int32) (P : ab_P) : Option (Int32 × ab_P) :=
    ab_h2 (f_183 N a1 a2 P) (fun v2 P1 =>
    ab_lt (ab_pL P1 570 0 (v2).toInt64) fun P3 =>
    some ((0 : Int32), P3))
    (fun P9 => some ((1 : Int32), P9)) (fun P9 => some ((2 : Int32), P9)) (fun _ => none)
theorem t_74_1 {xs : Nat × (Nat → Int32)} {d : Nat} (N : Nat) : ∀ (a1 : Int32) (a2 : Int32) (P : ab_P), ab_tr xs wI (d + 5) 74 0 [] [.inr (11, 0, 0, 0), .inl (.int a1), .inl (.int a2), .inr (22, 1, 0, 570), ab_top] [] P (f_74_1 N a1 a2 P) := by
  intro a1 a2 P
  unfold f_74_1
  refine tr_nil (rows2 := kb_74_0) rfl (List.cons_ne_nil _ _) ?_
  refine tr_blk 5 (pc' := 5) (rows' := kb_74_0.drop 5) (loc' := [.inr (11, 0, 0, 0), .inl (.int a1), .inl (.int a2), .inr (22, 1, 0, 570), ab_top]) (st' := [.inl (.int a2), .inl (.int a1), .inr (11, 0, 0, 0), .inl (.int (0 : Int32)), .inr (22, 1, 0, 570)]) (P1 := P) rfl ⟨trivial, trivial, trivial, trivial, trivial, trivial⟩ ?_
  refine tr_cah (fun b => some (.inl (.int b))) (zi := km_74) (fun _ => rfl) rfl (z := km_183) (av := [.inr (11, 0, 0, 0), .inl (.int a1), .inl (.int a2)]) (st' := [.inl (.int (0 : Int32)), .inr (22, 1, 0, 570)]) rfl rfl rfl (Nat.le_of_ble_eq_true rfl) ⟨rfl, Or.inl (by decide)⟩ rfl (Nat.le_of_ble_eq_true rfl) (t_183 N a1 a2 P) (fun v2 P1 => ?_) ?_ ?_ ?_
  · refine tr_blk 2 (pc' := 10) (rows' := kb_74_0.drop 8) (loc' := [.inr (11, 0, 0, 0), .inl (.int a1), .inl (.int a2), .inr (22, 1, 0, 570), ab_top]) (st' := []) (P1 := (ab_pL P1 570 0 (v2).toInt64)) rfl ⟨trivial, (ab_vi (by decide)), trivial⟩ ?_
    refine tr_lt (fun P3 => ?_)
    refine tr_goto ?_
    refine tr_nil (rows2 := kb_74_21) rfl (List.cons_ne_nil _ _) ?_
    refine tr_blk 1 (pc' := 22) (rows' := kb_74_21.drop 1) (loc' := [.inr (11, 0, 0, 0), .inl (.int a1), .inl (.int a2), .inr (22, 1, 0, 570), ab_top]) (st' := [.inl (.int (0 : Int32))]) (P1 := P3) rfl ⟨trivial, trivial⟩ ?_
    exact tr_reI (z := km_74) rfl ⟨_, rfl, rfl⟩ rfl
  · exact fun _ => tr_han (rows2 := kb_74_13) (z := km_74) _ (fun q => [.inr (11, 0, 0, 0), .inl (.int a1), .inl (.int a2), .inr (22, 1, 0, 570), .inr (40, 0, 0, q)]) rfl (List.cons_ne_nil _ _) (fun q => rfl) ⟨trivial, trivial, trivial⟩ rfl ⟨_, rfl, rfl⟩ rfl
  · exact fun _ => tr_han (rows2 := kb_74_17) (z := km_74) _ (fun q => [.inr (11, 0, 0, 0), .inl (.int a1), .inl (.int a2), .inr (22, 1, 0, 570), .inr (40, 1, 0, q)]) rfl (List.cons_ne_nil _ _) (fun q => rfl) ⟨trivial, trivial, trivial⟩ rfl ⟨_, rfl, rfl⟩ rfl
  · exact fun _ => rfl
def f_75_61 : Nat → Int32 → Int32 → ab_P → Option (Int32 × ab_P)
  | 0, _, _, _ => none
  | n + 1, x2, x3, P =>
    if ab_gi x3 20000 then
    if (P.1 546 x3.toNatClampNeg) = (0 : Int32) then
      f_75_61 n x2 (x3 + (-1)) P
    else
    some ((x2 - x3), P)
    else none
theorem t_75_61 {xs : Nat × (Nat → Int32)} {d : Nat} : ∀ n : Nat, ∀ (x2 : Int32) (x3 : Int32) (d1 : Int32) (P : ab_P), ab_tr xs wI (d + 3) 75 61 [] [.inr (12, 0, 0, 72), .inl (.int d1), .inl (.int x2), .inl (.int x3)] [] P (f_75_61 n x2 x3 P) := by
  intro n
  induction n with
  | zero => intro x2 x3 d1 P; exact tr_no
  | succ n ih =>
    intro x2 x3 d1 P
    refine tr_nil (rows2 := kb_75_61) rfl (List.cons_ne_nil _ _) ?_
    refine tr_gd (fun h9 => ?_)
    refine tr_blk 4 (pc' := 67) (rows' := kb_75_61.drop 4) (loc' := [.inr (12, 0, 0, 72), .inl (.int d1), .inl (.int x2), .inl (.int x3)]) (st' := [.inl (.int (P.1 546 x3.toNatClampNeg))]) (P1 := P) rfl ⟨trivial, trivial, trivial, h9, trivial⟩ ?_
    refine tr_if (fun h10 => ?_) (fun h10 => ?_)
    · refine tr_ifF (cd := .ne) (fun q => q h10) ?_
      refine tr_blk 1 (pc' := 73) (rows' := kb_75_61.drop 6) (loc' := [.inr (12, 0, 0, 72), .inl (.int d1), .inl (.int x2), .inl (.int (x3 + (-1)))]) (st' := []) (P1 := P) rfl ⟨trivial, trivial⟩ ?_
      refine tr_goto ?_
      exact ih x2 (x3 + (-1)) (d1) P
    · refine tr_ifT (cd := .ne) h10 ?_
      refine tr_nil (rows2 := kb_75_76) rfl (List.cons_ne_nil _ _) ?_
      refine tr_blk 3 (pc' := 79) (rows' := kb_75_76.drop 3) (loc' := [.inr (12, 0, 0, 72), .inl (.int d1), .inl (.int x2), .inl (.int x3)]) (st' := [.inl (.int (x2 - x3))]) (P1 := P) rfl ⟨trivial, trivial, trivial, trivial⟩ ?_
      exact tr_reI (z := km_75) rfl ⟨_, rfl, rfl⟩ rfl
def f_75_44 (N : Nat) (x1 : Int32) (x2 : Int32) (s0 : Int32) (P : ab_P) : Option (Int32 × ab_P) :=
    ab_b2 (f_113 s0 (2 : Int32) (1 : Int32) P) fun v7 P6 =>
    if v7 = (0 : Int32) then
      Option.bind (f_154 N x1 P6) fun P8 =>
      f_75_61 N x2 x2 P8
    else
    some ((0 : Int32), P6)
theorem t_75_44 {xs : Nat × (Nat → Int32)} {d : Nat} (N : Nat) : ∀ (x1 : Int32) (x2 : Int32) (s0 : Int32) (P : ab_P), ab_tr xs wI (d + 3) 75 44 [] [.inr (12, 0, 0, 72), .inl (.int x1), .inl (.int x2), ab_top] [.inl (.int s0), .inr (12, 0, 0, 72)] P (f_75_44 N x1 x2 s0 P) := by
  intro x1 x2 s0 P
  unfold f_75_44
  refine tr_nil (rows2 := kb_75_44) rfl (List.cons_ne_nil _ _) ?_
  refine tr_blk 2 (pc' := 46) (rows' := kb_75_44.drop 2) (loc' := [.inr (12, 0, 0, 72), .inl (.int x1), .inl (.int x2), ab_top]) (st' := [.inl (.int (1 : Int32)), .inl (.int (2 : Int32)), .inl (.int s0), .inr (12, 0, 0, 72)]) (P1 := P) rfl ⟨trivial, trivial, trivial⟩ ?_
  refine tr_cWI (z := km_113) (av := [.inr (12, 0, 0, 72), .inl (.int s0), .inl (.int (2 : Int32)), .inl (.int (1 : Int32))]) (st' := []) rfl rfl rfl (Nat.le_of_ble_eq_true rfl) ⟨rfl, Or.inl (by decide)⟩ rfl (Nat.le_of_ble_eq_true rfl) (t_113 s0 (2 : Int32) (1 : Int32) P) (fun v7 P6 => ?_)
  refine tr_if (fun h11 => ?_) (fun h11 => ?_)
  · refine tr_ifT (cd := .eq) h11 ?_
    refine tr_nil (rows2 := kb_75_54) rfl (List.cons_ne_nil _ _) ?_
    refine tr_blk 2 (pc' := 56) (rows' := kb_75_54.drop 2) (loc' := [.inr (12, 0, 0, 72), .inl (.int x1), .inl (.int x2), ab_top]) (st' := [.inl (.int x1), .inr (12, 0, 0, 72)]) (P1 := P6) rfl ⟨trivial, trivial, trivial⟩ ?_
    refine tr_cWV (z := km_154) (av := [.inr (12, 0, 0, 72), .inl (.int x1)]) (st' := []) rfl rfl rfl (Nat.le_of_ble_eq_true rfl) ⟨rfl, Or.inl (by decide)⟩ rfl (Nat.le_of_ble_eq_true rfl) (t_154 N x1 P6) (fun P8 => ?_)
    refine tr_blk 2 (pc' := 61) (rows' := kb_75_54.drop 5) (loc' := [.inr (12, 0, 0, 72), .inl (.int x1), .inl (.int x2), .inl (.int x2)]) (st' := []) (P1 := P8) rfl ⟨trivial, trivial, trivial⟩ ?_
    exact t_75_61 N x2 x2 (x1) P8
  · refine tr_ifF (cd := .eq) h11 ?_
    refine tr_nil (rows2 := kb_75_52) rfl (List.cons_ne_nil _ _) ?_
    refine tr_blk 1 (pc' := 53) (rows' := kb_75_52.drop 1) (loc' := [.inr (12, 0, 0, 72), .inl (.int x1), .inl (.int x2), ab_top]) (st' := [.inl (.int (0 : Int32))]) (P1 := P6) rfl ⟨trivial, trivial⟩ ?_
    exact tr_reI (z := km_75) rfl ⟨_, rfl, rfl⟩ rfl
def f_75_19 (N : Nat) (x1 : Int32) (x2 : Int32) (s0 : Int32) (P : ab_P) : Option (Int32 × ab_P) :=
    ab_b2 (f_113 s0 (1 : Int32) (0 : Int32) P) fun v4 P3 =>
    if v4 = (0 : Int32) then
      Option.bind (f_112 P3 x2 (0 : Int32) (9999 : Int32)) fun v5 =>
      if v5 = (0 : Int32) then
        f_75_44 N x1 x2 (1 : Int32) P3
      else
      f_75_44 N x1 x2 (0 : Int32) P3
    else
    some ((0 : Int32), P3)
theorem t_75_19 {xs : Nat × (Nat → Int32)} {d : Nat} (N : Nat) : ∀ (x1 : Int32) (x2 : Int32) (s0 : Int32) (P : ab_P), ab_tr xs wI (d + 3) 75 19 [] [.inr (12, 0, 0, 72), .inl (.int x1), .inl (.int x2), ab_top] [.inl (.int s0), .inr (12, 0, 0, 72)] P (f_75_19 N x1 x2 s0 P) := by
  intro x1 x2 s0 P
  unfold f_75_19
  refine tr_nil (rows2 := kb_75_19) rfl (List.cons_ne_nil _ _) ?_
  refine tr_blk 2 (pc' := 21) (rows' := kb_75_19.drop 2) (loc' := [.inr (12, 0, 0, 72), .inl (.int x1), .inl (.int x2), ab_top]) (st' := [.inl (.int (0 : Int32)), .inl (.int (1 : Int32)), .inl (.int s0), .inr (12, 0, 0, 72)]) (P1 := P) rfl ⟨trivial, trivial, trivial⟩ ?_
  refine tr_cWI (z := km_113) (av := [.inr (12, 0, 0, 72), .inl (.int s0), .inl (.int (1 : Int32)), .inl (.int (0 : Int32))]) (st' := []) rfl rfl rfl (Nat.le_of_ble_eq_true rfl) ⟨rfl, Or.inl (by decide)⟩ rfl (Nat.le_of_ble_eq_true rfl) (t_113 s0 (1 : Int32) (0 : Int32) P) (fun v4 P3 => ?_)
  refine tr_if (fun h12 => ?_) (fun h12 => ?_)
  · refine tr_ifF (cd := .ne) (fun q => q h12) ?_
    refine tr_blk 4 (pc' := 33) (rows' := kb_75_19.drop 8) (loc' := [.inr (12, 0, 0, 72), .inl (.int x1), .inl (.int x2), ab_top]) (st' := [.inl (.int (9999 : Int32)), .inl (.int (0 : Int32)), .inl (.int x2), .inr (12, 0, 0, 72)]) (P1 := P3) rfl ⟨trivial, trivial, trivial, trivial, trivial⟩ ?_
    refine tr_cRI (z := km_112) (av := [.inl (.int x2), .inl (.int (0 : Int32)), .inl (.int (9999 : Int32))]) (st' := [.inr (12, 0, 0, 72)]) rfl rfl rfl (Nat.le_of_ble_eq_true rfl) trivial rfl (Nat.le_of_ble_eq_true rfl) (t_112 P3 x2 (0 : Int32) (9999 : Int32)) (fun v5 => ?_)
    refine tr_if (fun h13 => ?_) (fun h13 => ?_)
    · refine tr_ifF (cd := .ne) (fun q => q h13) ?_
      refine tr_blk 1 (pc' := 40) (rows' := kb_75_19.drop 11) (loc' := [.inr (12, 0, 0, 72), .inl (.int x1), .inl (.int x2), ab_top]) (st' := [.inl (.int (1 : Int32)), .inr (12, 0, 0, 72)]) (P1 := P3) rfl ⟨trivial, trivial⟩ ?_
      refine tr_goto ?_
      exact t_75_44 N x1 x2 (1 : Int32) P3
    · refine tr_ifT (cd := .ne) h13 ?_
      refine tr_nil (rows2 := kb_75_43) rfl (List.cons_ne_nil _ _) ?_
      refine tr_blk 1 (pc' := 44) (rows' := kb_75_43.drop 1) (loc' := [.inr (12, 0, 0, 72), .inl (.int x1), .inl (.int x2), ab_top]) (st' := [.inl (.int (0 : Int32)), .inr (12, 0, 0, 72)]) (P1 := P3) rfl ⟨trivial, trivial⟩ ?_
      exact t_75_44 N x1 x2 (0 : Int32) P3
  · refine tr_ifT (cd := .ne) h12 ?_
    refine tr_nil (rows2 := kb_75_52) rfl (List.cons_ne_nil _ _) ?_
    refine tr_blk 1 (pc' := 53) (rows' := kb_75_52.drop 1) (loc' := [.inr (12, 0, 0, 72), .inl (.int x1), .inl (.int x2), ab_top]) (st' := [.inl (.int (0 : Int32))]) (P1 := P3) rfl ⟨trivial, trivial⟩ ?_
    exact tr_reI (z := km_75) rfl ⟨_, rfl, rfl⟩ rfl
def f_75 (N : Nat) (a1 : Int32) (a2 : Int32) (P : ab_P) : Option (Int32 × ab_P) :=
    ab_lt (ab_pI P 72 0 (0 : Int32)) fun P1 =>
    Option.bind (f_137 P1 a1) fun v2 =>
    if v2 = (0 : Int32) then
      f_75_19 N a1 a2 (1 : Int32) P1
    else
    f_75_19 N a1 a2 (0 : Int32) P1
theorem t_75 {xs : Nat × (Nat → Int32)} {d : Nat} (N : Nat) : ∀ (a1 : Int32) (a2 : Int32) (P : ab_P), ab_tr xs wI (d + 3) 75 0 [] [.inr (12, 0, 0, 72), .inl (.int a1), .inl (.int a2), ab_top] [] P (f_75 N a1 a2 P) := by
  intro a1 a2 P
  unfold f_75
  refine tr_nil (rows2 := kb_75_0) rfl (List.cons_ne_nil _ _) ?_
  refine tr_blk 3 (pc' := 5) (rows' := kb_75_0.drop 3) (loc' := [.inr (12, 0, 0, 72), .inl (.int a1), .inl (.int a2), ab_top]) (st' := []) (P1 := (ab_pI P 72 0 (0 : Int32))) rfl ⟨trivial, trivial, trivial, trivial⟩ ?_
  refine tr_lt (fun P1 => ?_)
  refine tr_blk 3 (pc' := 8) (rows' := kb_75_0.drop 6) (loc' := [.inr (12, 0, 0, 72), .inl (.int a1), .inl (.int a2), ab_top]) (st' := [.inl (.int a1), .inr (12, 0, 0, 72), .inr (12, 0, 0, 72)]) (P1 := P1) rfl ⟨trivial, trivial, trivial, trivial⟩ ?_
  refine tr_cRI (z := km_137) (av := [.inr (12, 0, 0, 72), .inl (.int a1)]) (st' := [.inr (12, 0, 0, 72)]) rfl rfl rfl (Nat.le_of_ble_eq_true rfl) ⟨rfl, Or.inl (by decide)⟩ rfl (Nat.le_of_ble_eq_true rfl) (t_137 P1 a1) (fun v2 => ?_)
  refine tr_if (fun h14 => ?_) (fun h14 => ?_)
  · refine tr_ifF (cd := .ne) (fun q => q h14) ?_
    refine tr_blk 1 (pc' := 15) (rows' := kb_75_0.drop 9) (loc' := [.inr (12, 0, 0, 72), .inl (.int a1), .inl (.int a2), ab_top]) (st' := [.inl (.int (1 : Int32)), .inr (12, 0, 0, 72)]) (P1 := P1) rfl ⟨trivial, trivial⟩ ?_
    refine tr_goto ?_
    exact t_75_19 N a1 a2 (1 : Int32) P1
  · refine tr_ifT (cd := .ne) h14 ?_
    refine tr_nil (rows2 := kb_75_18) rfl (List.cons_ne_nil _ _) ?_
    refine tr_blk 1 (pc' := 19) (rows' := kb_75_18.drop 1) (loc' := [.inr (12, 0, 0, 72), .inl (.int a1), .inl (.int a2), ab_top]) (st' := [.inl (.int (0 : Int32)), .inr (12, 0, 0, 72)]) (P1 := P1) rfl ⟨trivial, trivial⟩ ?_
    exact t_75_19 N a1 a2 (0 : Int32) P1
def f_184 (N : Nat) (a1 : Int32) (a2 : Int32) (P : ab_P) : Option ((Int32 ⊕ Fin 3) × ab_P) :=
    ab_x2 (f_230 a1 P) (fun _ P1 =>
    Option.bind (f_240 P1 a2 (0 : Int32) (60 : Int32)) fun v2 =>
    ab_x2 (f_228 v2 P1) (fun _ P3 =>
    Option.bind (f_263 43 P3 a1) fun v4 =>
    if v4 = (0 : Int32) then
      some (.inl (0 : Int32), P3)
    else
    Option.bind (f_264 43 N P3 a1 a2 (P3.1 3 7)) fun v5 =>
    some (.inl v5, P3)) (fun q => q)) (fun q => q)
theorem t_184 {xs : Nat × (Nat → Int32)} {d : Nat} (N : Nat) : ∀ (a1 : Int32) (a2 : Int32) (P : ab_P), ab_tr xs xI (d + 2) 184 0 [] [.inr (11, 0, 0, 0), .inl (.int a1), .inl (.int a2)] [] P (f_184 N a1 a2 P) := by
  intro a1 a2 P
  unfold f_184
  refine tr_nil (rows2 := kb_184_0) rfl (List.cons_ne_nil _ _) ?_
  refine tr_blk 2 (pc' := 2) (rows' := kb_184_0.drop 2) (loc' := [.inr (11, 0, 0, 0), .inl (.int a1), .inl (.int a2)]) (st' := [.inl (.int a1), .inr (11, 0, 0, 0)]) (P1 := P) rfl ⟨trivial, trivial, trivial⟩ ?_
  refine tr_cax (fun _ => none) (zi := km_184) (fun _ => rfl) (fun _ _ => rfl) rfl rfl (z := km_230) (av := [.inr (11, 0, 0, 0), .inl (.int a1)]) (st' := []) rfl rfl rfl (Nat.le_of_ble_eq_true rfl) ⟨rfl, Or.inl (by decide)⟩ rfl (Nat.le_of_ble_eq_true rfl) (t_230 a1 P) (fun _ P1 => ?_)
  refine tr_blk 4 (pc' := 10) (rows' := kb_184_0.drop 7) (loc' := [.inr (11, 0, 0, 0), .inl (.int a1), .inl (.int a2)]) (st' := [.inl (.int (60 : Int32)), .inl (.int (0 : Int32)), .inl (.int a2), .inr (11, 0, 0, 0)]) (P1 := P1) rfl ⟨trivial, trivial, trivial, trivial, trivial⟩ ?_
  refine tr_cRI (z := km_240) (av := [.inl (.int a2), .inl (.int (0 : Int32)), .inl (.int (60 : Int32))]) (st' := [.inr (11, 0, 0, 0)]) rfl rfl rfl (Nat.le_of_ble_eq_true rfl) trivial rfl (Nat.le_of_ble_eq_true rfl) (t_240 P1 a2 (0 : Int32) (60 : Int32)) (fun v2 => ?_)
  refine tr_cax (fun _ => none) (zi := km_184) (fun _ => rfl) (fun _ _ => rfl) rfl rfl (z := km_228) (av := [.inr (11, 0, 0, 0), .inl (.int v2)]) (st' := []) rfl rfl rfl (Nat.le_of_ble_eq_true rfl) ⟨rfl, Or.inl (by decide)⟩ rfl (Nat.le_of_ble_eq_true rfl) (t_228 v2 P1) (fun _ P3 => ?_)
  refine tr_blk 3 (pc' := 21) (rows' := kb_184_0.drop 12) (loc' := [.inr (11, 0, 0, 0), .inl (.int a1), .inl (.int a2)]) (st' := [.inl (.int a1), .inr (6, 0, 0, 43)]) (P1 := P3) rfl ⟨trivial, trivial, trivial, trivial⟩ ?_
  refine tr_cRI (z := km_263) (av := [.inr (6, 0, 0, 43), .inl (.int a1)]) (st' := []) rfl rfl rfl (Nat.le_of_ble_eq_true rfl) ⟨rfl, Or.inl (by decide)⟩ rfl (Nat.le_of_ble_eq_true rfl) (t_263 43 P3 a1) (fun v4 => ?_)
  refine tr_if (fun h6 => ?_) (fun h6 => ?_)
  · refine tr_ifT (cd := .eq) h6 ?_
    refine tr_nil (rows2 := kb_184_46) rfl (List.cons_ne_nil _ _) ?_
    refine tr_blk 1 (pc' := 47) (rows' := kb_184_46.drop 1) (loc' := [.inr (11, 0, 0, 0), .inl (.int a1), .inl (.int a2)]) (st' := [.inl (.int (0 : Int32))]) (P1 := P3) rfl ⟨trivial, trivial⟩ ?_
    refine tr_nil (rows2 := kb_184_47) rfl (List.cons_ne_nil _ _) ?_
    exact tr_reI (z := km_184) rfl ⟨_, rfl, rfl⟩ rfl
  · refine tr_ifF (cd := .eq) h6 ?_
    refine tr_blk 7 (pc' := 40) (rows' := kb_184_0.drop 21) (loc' := [.inr (11, 0, 0, 0), .inl (.int a1), .inl (.int a2)]) (st' := [.inl (.int (P3.1 3 7)), .inl (.int a2), .inl (.int a1), .inr (6, 0, 0, 43)]) (P1 := P3) rfl ⟨trivial, trivial, trivial, trivial, trivial, trivial, trivial, trivial⟩ ?_
    refine tr_cRI (z := km_264) (av := [.inr (6, 0, 0, 43), .inl (.int a1), .inl (.int a2), .inl (.int (P3.1 3 7))]) (st' := []) rfl rfl rfl (Nat.le_of_ble_eq_true rfl) ⟨rfl, Or.inl (by decide)⟩ rfl (Nat.le_of_ble_eq_true rfl) (t_264 43 N P3 a1 a2 (P3.1 3 7)) (fun v5 => ?_)
    refine tr_goto ?_
    refine tr_nil (rows2 := kb_184_47) rfl (List.cons_ne_nil _ _) ?_
    exact tr_reI (z := km_184) rfl ⟨_, rfl, rfl⟩ rfl
def f_76_1 (N : Nat) (a1 : Int32) (a2 : Int32) (P : ab_P) : Option (Int32 × ab_P) :=
    ab_h2 (f_184 N a1 a2 P) (fun v2 P1 =>
    ab_lt (ab_pL P1 570 0 (v2).toInt64) fun P3 =>
    some ((0 : Int32), P3))
    (fun P9 => some ((1 : Int32), P9)) (fun P9 => some ((2 : Int32), P9)) (fun _ => none)
theorem t_76_1 {xs : Nat × (Nat → Int32)} {d : Nat} (N : Nat) : ∀ (a1 : Int32) (a2 : Int32) (P : ab_P), ab_tr xs wI (d + 3) 76 0 [] [.inr (11, 0, 0, 0), .inl (.int a1), .inl (.int a2), .inr (22, 1, 0, 570), ab_top] [] P (f_76_1 N a1 a2 P) := by
  intro a1 a2 P
  unfold f_76_1
  refine tr_nil (rows2 := kb_76_0) rfl (List.cons_ne_nil _ _) ?_
  refine tr_blk 5 (pc' := 5) (rows' := kb_76_0.drop 5) (loc' := [.inr (11, 0, 0, 0), .inl (.int a1), .inl (.int a2), .inr (22, 1, 0, 570), ab_top]) (st' := [.inl (.int a2), .inl (.int a1), .inr (11, 0, 0, 0), .inl (.int (0 : Int32)), .inr (22, 1, 0, 570)]) (P1 := P) rfl ⟨trivial, trivial, trivial, trivial, trivial, trivial⟩ ?_
  refine tr_cah (fun b => some (.inl (.int b))) (zi := km_76) (fun _ => rfl) rfl (z := km_184) (av := [.inr (11, 0, 0, 0), .inl (.int a1), .inl (.int a2)]) (st' := [.inl (.int (0 : Int32)), .inr (22, 1, 0, 570)]) rfl rfl rfl (Nat.le_of_ble_eq_true rfl) ⟨rfl, Or.inl (by decide)⟩ rfl (Nat.le_of_ble_eq_true rfl) (t_184 N a1 a2 P) (fun v2 P1 => ?_) ?_ ?_ ?_
  · refine tr_blk 2 (pc' := 10) (rows' := kb_76_0.drop 8) (loc' := [.inr (11, 0, 0, 0), .inl (.int a1), .inl (.int a2), .inr (22, 1, 0, 570), ab_top]) (st' := []) (P1 := (ab_pL P1 570 0 (v2).toInt64)) rfl ⟨trivial, (ab_vi (by decide)), trivial⟩ ?_
    refine tr_lt (fun P3 => ?_)
    refine tr_goto ?_
    refine tr_nil (rows2 := kb_76_21) rfl (List.cons_ne_nil _ _) ?_
    refine tr_blk 1 (pc' := 22) (rows' := kb_76_21.drop 1) (loc' := [.inr (11, 0, 0, 0), .inl (.int a1), .inl (.int a2), .inr (22, 1, 0, 570), ab_top]) (st' := [.inl (.int (0 : Int32))]) (P1 := P3) rfl ⟨trivial, trivial⟩ ?_
    exact tr_reI (z := km_76) rfl ⟨_, rfl, rfl⟩ rfl
  · exact fun _ => tr_han (rows2 := kb_76_13) (z := km_76) _ (fun q => [.inr (11, 0, 0, 0), .inl (.int a1), .inl (.int a2), .inr (22, 1, 0, 570), .inr (40, 0, 0, q)]) rfl (List.cons_ne_nil _ _) (fun q => rfl) ⟨trivial, trivial, trivial⟩ rfl ⟨_, rfl, rfl⟩ rfl
  · exact fun _ => tr_han (rows2 := kb_76_17) (z := km_76) _ (fun q => [.inr (11, 0, 0, 0), .inl (.int a1), .inl (.int a2), .inr (22, 1, 0, 570), .inr (40, 1, 0, q)]) rfl (List.cons_ne_nil _ _) (fun q => rfl) ⟨trivial, trivial, trivial⟩ rfl ⟨_, rfl, rfl⟩ rfl
  · exact fun _ => rfl
def f_77_53 (N : Nat) (x1 : Int32) (x2 : Int32) (P : ab_P) : Option (Int32 × ab_P) :=
    Option.bind (f_144_366 477 P x1) fun v8 =>
    if v8 = (0 : Int32) then
      some ((0 : Int32), P)
    else
    Option.bind (f_135_366 477 P x1 (2 : Int32)) fun v9 =>
    Option.bind (f_185 N P v9 x2) fun v10 =>
    some (v10, P)
theorem t_77_53 {xs : Nat × (Nat → Int32)} {d : Nat} (N : Nat) : ∀ (x1 : Int32) (x2 : Int32) (P : ab_P), ab_tr xs wI (d + 3) 77 53 [] [.inr (12, 0, 0, 72), .inl (.int x1), .inl (.int x2)] [] P (f_77_53 N x1 x2 P) := by
  intro x1 x2 P
  unfold f_77_53
  refine tr_nil (rows2 := kb_77_53) rfl (List.cons_ne_nil _ _) ?_
  refine tr_blk 3 (pc' := 58) (rows' := kb_77_53.drop 3) (loc' := [.inr (12, 0, 0, 72), .inl (.int x1), .inl (.int x2)]) (st' := [.inl (.int x1), .inr (20, 366, 0, 477)]) (P1 := P) rfl ⟨trivial, trivial, trivial, trivial⟩ ?_
  refine tr_cRI (z := km_144) (av := [.inr (20, 366, 0, 477), .inl (.int x1)]) (st' := []) rfl rfl rfl (Nat.le_of_ble_eq_true rfl) trivial rfl (Nat.le_of_ble_eq_true rfl) (t_144_366 477 P x1) (fun v8 => ?_)
  refine tr_if (fun h11 => ?_) (fun h11 => ?_)
  · refine tr_ifT (cd := .eq) h11 ?_
    refine tr_nil (rows2 := kb_77_81) rfl (List.cons_ne_nil _ _) ?_
    refine tr_blk 1 (pc' := 82) (rows' := kb_77_81.drop 1) (loc' := [.inr (12, 0, 0, 72), .inl (.int x1), .inl (.int x2)]) (st' := [.inl (.int (0 : Int32))]) (P1 := P) rfl ⟨trivial, trivial⟩ ?_
    refine tr_nil (rows2 := kb_77_82) rfl (List.cons_ne_nil _ _) ?_
    exact tr_reI (z := km_77) rfl ⟨_, rfl, rfl⟩ rfl
  · refine tr_ifF (cd := .eq) h11 ?_
    refine tr_blk 5 (pc' := 71) (rows' := kb_77_53.drop 10) (loc' := [.inr (12, 0, 0, 72), .inl (.int x1), .inl (.int x2)]) (st' := [.inl (.int (2 : Int32)), .inl (.int x1), .inr (20, 366, 0, 477), .inr (12, 0, 0, 72)]) (P1 := P) rfl ⟨trivial, trivial, trivial, trivial, trivial, trivial⟩ ?_
    refine tr_cRI (z := km_135) (av := [.inr (20, 366, 0, 477), .inl (.int x1), .inl (.int (2 : Int32))]) (st' := [.inr (12, 0, 0, 72)]) rfl rfl rfl (Nat.le_of_ble_eq_true rfl) trivial rfl (Nat.le_of_ble_eq_true rfl) (t_135_366 477 P x1 (2 : Int32)) (fun v9 => ?_)
    refine tr_blk 1 (pc' := 75) (rows' := kb_77_53.drop 12) (loc' := [.inr (12, 0, 0, 72), .inl (.int x1), .inl (.int x2)]) (st' := [.inl (.int x2), .inl (.int v9), .inr (12, 0, 0, 72)]) (P1 := P) rfl ⟨trivial, trivial⟩ ?_
    refine tr_cRI (z := km_185) (av := [.inr (12, 0, 0, 72), .inl (.int v9), .inl (.int x2)]) (st' := []) rfl rfl rfl (Nat.le_of_ble_eq_true rfl) ⟨rfl, Or.inl (by decide)⟩ rfl (Nat.le_of_ble_eq_true rfl) (t_185 N P v9 x2) (fun v10 => ?_)
    refine tr_goto ?_
    refine tr_nil (rows2 := kb_77_82) rfl (List.cons_ne_nil _ _) ?_
    exact tr_reI (z := km_77) rfl ⟨_, rfl, rfl⟩ rfl
def f_77_43 (N : Nat) (x1 : Int32) (x2 : Int32) (s0 : Int32) (P : ab_P) : Option (Int32 × ab_P) :=
    ab_b2 (f_113 s0 (2 : Int32) (1 : Int32) P) fun v7 P6 =>
    if v7 = (0 : Int32) then
      f_77_53 N x1 x2 P6
    else
    some ((0 : Int32), P6)
theorem t_77_43 {xs : Nat × (Nat → Int32)} {d : Nat} (N : Nat) : ∀ (x1 : Int32) (x2 : Int32) (s0 : Int32) (P : ab_P), ab_tr xs wI (d + 3) 77 43 [] [.inr (12, 0, 0, 72), .inl (.int x1), .inl (.int x2)] [.inl (.int s0), .inr (12, 0, 0, 72)] P (f_77_43 N x1 x2 s0 P) := by
  intro x1 x2 s0 P
  unfold f_77_43
  refine tr_nil (rows2 := kb_77_43) rfl (List.cons_ne_nil _ _) ?_
  refine tr_blk 2 (pc' := 45) (rows' := kb_77_43.drop 2) (loc' := [.inr (12, 0, 0, 72), .inl (.int x1), .inl (.int x2)]) (st' := [.inl (.int (1 : Int32)), .inl (.int (2 : Int32)), .inl (.int s0), .inr (12, 0, 0, 72)]) (P1 := P) rfl ⟨trivial, trivial, trivial⟩ ?_
  refine tr_cWI (z := km_113) (av := [.inr (12, 0, 0, 72), .inl (.int s0), .inl (.int (2 : Int32)), .inl (.int (1 : Int32))]) (st' := []) rfl rfl rfl (Nat.le_of_ble_eq_true rfl) ⟨rfl, Or.inl (by decide)⟩ rfl (Nat.le_of_ble_eq_true rfl) (t_113 s0 (2 : Int32) (1 : Int32) P) (fun v7 P6 => ?_)
  refine tr_if (fun h12 => ?_) (fun h12 => ?_)
  · refine tr_ifT (cd := .eq) h12 ?_
    exact t_77_53 N x1 x2 P6
  · refine tr_ifF (cd := .eq) h12 ?_
    refine tr_nil (rows2 := kb_77_51) rfl (List.cons_ne_nil _ _) ?_
    refine tr_blk 1 (pc' := 52) (rows' := kb_77_51.drop 1) (loc' := [.inr (12, 0, 0, 72), .inl (.int x1), .inl (.int x2)]) (st' := [.inl (.int (0 : Int32))]) (P1 := P6) rfl ⟨trivial, trivial⟩ ?_
    exact tr_reI (z := km_77) rfl ⟨_, rfl, rfl⟩ rfl
def f_77_19 (N : Nat) (x1 : Int32) (x2 : Int32) (s0 : Int32) (P : ab_P) : Option (Int32 × ab_P) :=
    ab_b2 (f_113 s0 (1 : Int32) (0 : Int32) P) fun v4 P3 =>
    if v4 = (0 : Int32) then
      Option.bind (f_112 P3 x2 (0 : Int32) (60 : Int32)) fun v5 =>
      if v5 = (0 : Int32) then
        f_77_43 N x1 x2 (1 : Int32) P3
      else
      f_77_43 N x1 x2 (0 : Int32) P3
    else
    some ((0 : Int32), P3)
theorem t_77_19 {xs : Nat × (Nat → Int32)} {d : Nat} (N : Nat) : ∀ (x1 : Int32) (x2 : Int32) (s0 : Int32) (P : ab_P), ab_tr xs wI (d + 3) 77 19 [] [.inr (12, 0, 0, 72), .inl (.int x1), .inl (.int x2)] [.inl (.int s0), .inr (12, 0, 0, 72)] P (f_77_19 N x1 x2 s0 P) := by
  intro x1 x2 s0 P
  unfold f_77_19
  refine tr_nil (rows2 := kb_77_19) rfl (List.cons_ne_nil _ _) ?_
  refine tr_blk 2 (pc' := 21) (rows' := kb_77_19.drop 2) (loc' := [.inr (12, 0, 0, 72), .inl (.int x1), .inl (.int x2)]) (st' := [.inl (.int (0 : Int32)), .inl (.int (1 : Int32)), .inl (.int s0), .inr (12, 0, 0, 72)]) (P1 := P) rfl ⟨trivial, trivial, trivial⟩ ?_
  refine tr_cWI (z := km_113) (av := [.inr (12, 0, 0, 72), .inl (.int s0), .inl (.int (1 : Int32)), .inl (.int (0 : Int32))]) (st' := []) rfl rfl rfl (Nat.le_of_ble_eq_true rfl) ⟨rfl, Or.inl (by decide)⟩ rfl (Nat.le_of_ble_eq_true rfl) (t_113 s0 (1 : Int32) (0 : Int32) P) (fun v4 P3 => ?_)
  refine tr_if (fun h13 => ?_) (fun h13 => ?_)
  · refine tr_ifF (cd := .ne) (fun q => q h13) ?_
    refine tr_blk 4 (pc' := 32) (rows' := kb_77_19.drop 8) (loc' := [.inr (12, 0, 0, 72), .inl (.int x1), .inl (.int x2)]) (st' := [.inl (.int (60 : Int32)), .inl (.int (0 : Int32)), .inl (.int x2), .inr (12, 0, 0, 72)]) (P1 := P3) rfl ⟨trivial, trivial, trivial, trivial, trivial⟩ ?_
    refine tr_cRI (z := km_112) (av := [.inl (.int x2), .inl (.int (0 : Int32)), .inl (.int (60 : Int32))]) (st' := [.inr (12, 0, 0, 72)]) rfl rfl rfl (Nat.le_of_ble_eq_true rfl) trivial rfl (Nat.le_of_ble_eq_true rfl) (t_112 P3 x2 (0 : Int32) (60 : Int32)) (fun v5 => ?_)
    refine tr_if (fun h14 => ?_) (fun h14 => ?_)
    · refine tr_ifF (cd := .ne) (fun q => q h14) ?_
      refine tr_blk 1 (pc' := 39) (rows' := kb_77_19.drop 11) (loc' := [.inr (12, 0, 0, 72), .inl (.int x1), .inl (.int x2)]) (st' := [.inl (.int (1 : Int32)), .inr (12, 0, 0, 72)]) (P1 := P3) rfl ⟨trivial, trivial⟩ ?_
      refine tr_goto ?_
      exact t_77_43 N x1 x2 (1 : Int32) P3
    · refine tr_ifT (cd := .ne) h14 ?_
      refine tr_nil (rows2 := kb_77_42) rfl (List.cons_ne_nil _ _) ?_
      refine tr_blk 1 (pc' := 43) (rows' := kb_77_42.drop 1) (loc' := [.inr (12, 0, 0, 72), .inl (.int x1), .inl (.int x2)]) (st' := [.inl (.int (0 : Int32)), .inr (12, 0, 0, 72)]) (P1 := P3) rfl ⟨trivial, trivial⟩ ?_
      exact t_77_43 N x1 x2 (0 : Int32) P3
  · refine tr_ifT (cd := .ne) h13 ?_
    refine tr_nil (rows2 := kb_77_51) rfl (List.cons_ne_nil _ _) ?_
    refine tr_blk 1 (pc' := 52) (rows' := kb_77_51.drop 1) (loc' := [.inr (12, 0, 0, 72), .inl (.int x1), .inl (.int x2)]) (st' := [.inl (.int (0 : Int32))]) (P1 := P3) rfl ⟨trivial, trivial⟩ ?_
    exact tr_reI (z := km_77) rfl ⟨_, rfl, rfl⟩ rfl
def f_77 (N : Nat) (a1 : Int32) (a2 : Int32) (P : ab_P) : Option (Int32 × ab_P) :=
    ab_lt (ab_pI P 72 0 (0 : Int32)) fun P1 =>
    Option.bind (f_134 P1 a1) fun v2 =>
    if v2 = (0 : Int32) then
      f_77_19 N a1 a2 (1 : Int32) P1
    else
    f_77_19 N a1 a2 (0 : Int32) P1
theorem t_77 {xs : Nat × (Nat → Int32)} {d : Nat} (N : Nat) : ∀ (a1 : Int32) (a2 : Int32) (P : ab_P), ab_tr xs wI (d + 3) 77 0 [] [.inr (12, 0, 0, 72), .inl (.int a1), .inl (.int a2)] [] P (f_77 N a1 a2 P) := by
  intro a1 a2 P
  unfold f_77
  refine tr_nil (rows2 := kb_77_0) rfl (List.cons_ne_nil _ _) ?_
  refine tr_blk 3 (pc' := 5) (rows' := kb_77_0.drop 3) (loc' := [.inr (12, 0, 0, 72), .inl (.int a1), .inl (.int a2)]) (st' := []) (P1 := (ab_pI P 72 0 (0 : Int32))) rfl ⟨trivial, trivial, trivial, trivial⟩ ?_
  refine tr_lt (fun P1 => ?_)
  refine tr_blk 3 (pc' := 8) (rows' := kb_77_0.drop 6) (loc' := [.inr (12, 0, 0, 72), .inl (.int a1), .inl (.int a2)]) (st' := [.inl (.int a1), .inr (12, 0, 0, 72), .inr (12, 0, 0, 72)]) (P1 := P1) rfl ⟨trivial, trivial, trivial, trivial⟩ ?_
  refine tr_cRI (z := km_134) (av := [.inr (12, 0, 0, 72), .inl (.int a1)]) (st' := [.inr (12, 0, 0, 72)]) rfl rfl rfl (Nat.le_of_ble_eq_true rfl) ⟨rfl, Or.inl (by decide)⟩ rfl (Nat.le_of_ble_eq_true rfl) (t_134 P1 a1) (fun v2 => ?_)
  refine tr_if (fun h15 => ?_) (fun h15 => ?_)
  · refine tr_ifF (cd := .ne) (fun q => q h15) ?_
    refine tr_blk 1 (pc' := 15) (rows' := kb_77_0.drop 9) (loc' := [.inr (12, 0, 0, 72), .inl (.int a1), .inl (.int a2)]) (st' := [.inl (.int (1 : Int32)), .inr (12, 0, 0, 72)]) (P1 := P1) rfl ⟨trivial, trivial⟩ ?_
    refine tr_goto ?_
    exact t_77_19 N a1 a2 (1 : Int32) P1
  · refine tr_ifT (cd := .ne) h15 ?_
    refine tr_nil (rows2 := kb_77_18) rfl (List.cons_ne_nil _ _) ?_
    refine tr_blk 1 (pc' := 19) (rows' := kb_77_18.drop 1) (loc' := [.inr (12, 0, 0, 72), .inl (.int a1), .inl (.int a2)]) (st' := [.inl (.int (0 : Int32)), .inr (12, 0, 0, 72)]) (P1 := P1) rfl ⟨trivial, trivial⟩ ?_
    exact t_77_19 N a1 a2 (0 : Int32) P1
def f_78_4 (N : Nat) (P : ab_P) : Nat → Int32 → Int32 → Option Int32
  | 0, _, _ => none
  | n + 1, x1, x2 =>
    if x2 < (P.1 3 5) then
      Option.bind (f_186 43 N P x2 (0 : Int32)) fun v1 =>
      if v1 = (0 : Int32) then
        f_78_4 N P n (x1 ||| ((1 : Int32) <<< (x2 &&& 31))) (x2 + 1)
      else
      f_78_4 N P n x1 (x2 + 1)
    else
    some x1
theorem t_78_4 {xs : Nat × (Nat → Int32)} {d : Nat} (N : Nat) (P : ab_P) : ∀ n : Nat, ∀ (x1 : Int32) (x2 : Int32), ab_tr xs (rI P) (d + 3) 78 4 [] [.inr (11, 0, 0, 0), .inl (.int x1), .inl (.int x2)] [] P (f_78_4 N P n x1 x2) := by
  intro n
  induction n with
  | zero => intro x1 x2; exact tr_no
  | succ n ih =>
    intro x1 x2
    refine tr_nil (rows2 := kb_78_4) rfl (List.cons_ne_nil _ _) ?_
    refine tr_blk 4 (pc' := 12) (rows' := kb_78_4.drop 4) (loc' := [.inr (11, 0, 0, 0), .inl (.int x1), .inl (.int x2)]) (st' := [.inl (.int (P.1 3 5)), .inl (.int x2)]) (P1 := P) rfl ⟨trivial, trivial, trivial, trivial, trivial⟩ ?_
    refine tr_if (fun h2 => ?_) (fun h2 => ?_)
    · refine tr_icF (cd := .ge) (Int32.not_le.mpr h2) ?_
      refine tr_blk 4 (pc' := 21) (rows' := kb_78_4.drop 9) (loc' := [.inr (11, 0, 0, 0), .inl (.int x1), .inl (.int x2)]) (st' := [.inl (.int (0 : Int32)), .inl (.int x2), .inr (6, 0, 0, 43)]) (P1 := P) rfl ⟨trivial, trivial, trivial, trivial, trivial⟩ ?_
      refine tr_cRI (z := km_186) (av := [.inr (6, 0, 0, 43), .inl (.int x2), .inl (.int (0 : Int32))]) (st' := []) rfl rfl rfl (Nat.le_of_ble_eq_true rfl) ⟨rfl, Or.inl (by decide)⟩ rfl (Nat.le_of_ble_eq_true rfl) (t_186 43 N P x2 (0 : Int32)) (fun v1 => ?_)
      refine tr_if (fun h3 => ?_) (fun h3 => ?_)
      · refine tr_ifF (cd := .ne) (fun q => q h3) ?_
        refine tr_blk 6 (pc' := 33) (rows' := kb_78_4.drop 17) (loc' := [.inr (11, 0, 0, 0), .inl (.int (x1 ||| ((1 : Int32) <<< (x2 &&& 31)))), .inl (.int x2)]) (st' := []) (P1 := P) rfl ⟨trivial, trivial, trivial, trivial, trivial, trivial, trivial⟩ ?_
        refine tr_nil (rows2 := kb_78_33) rfl (List.cons_ne_nil _ _) ?_
        refine tr_blk 1 (pc' := 36) (rows' := kb_78_33.drop 1) (loc' := [.inr (11, 0, 0, 0), .inl (.int (x1 ||| ((1 : Int32) <<< (x2 &&& 31)))), .inl (.int (x2 + 1))]) (st' := []) (P1 := P) rfl ⟨trivial, trivial⟩ ?_
        refine tr_goto ?_
        exact ih (x1 ||| ((1 : Int32) <<< (x2 &&& 31))) (x2 + 1)
      · refine tr_ifT (cd := .ne) h3 ?_
        refine tr_nil (rows2 := kb_78_33) rfl (List.cons_ne_nil _ _) ?_
        refine tr_blk 1 (pc' := 36) (rows' := kb_78_33.drop 1) (loc' := [.inr (11, 0, 0, 0), .inl (.int x1), .inl (.int (x2 + 1))]) (st' := []) (P1 := P) rfl ⟨trivial, trivial⟩ ?_
        refine tr_goto ?_
        exact ih x1 (x2 + 1)
    · refine tr_icT (cd := .ge) (Int32.not_lt.mp h2) ?_
      refine tr_nil (rows2 := kb_78_39) rfl (List.cons_ne_nil _ _) ?_
      refine tr_blk 1 (pc' := 40) (rows' := kb_78_39.drop 1) (loc' := [.inr (11, 0, 0, 0), .inl (.int x1), .inl (.int x2)]) (st' := [.inl (.int x1)]) (P1 := P) rfl ⟨trivial, trivial⟩ ?_
      exact tr_reI (z := km_78) rfl ⟨_, rfl, rfl⟩ rfl
def f_78 (N : Nat) (P : ab_P) : Option Int32 :=
    f_78_4 N P N (0 : Int32) (0 : Int32)
theorem t_78 {xs : Nat × (Nat → Int32)} {d : Nat} (N : Nat) (P : ab_P) : ab_tr xs (rI P) (d + 3) 78 0 [] [.inr (11, 0, 0, 0), ab_top, ab_top] [] P (f_78 N P) := by
  unfold f_78
  refine tr_nil (rows2 := kb_78_0) rfl (List.cons_ne_nil _ _) ?_
  refine tr_blk 4 (pc' := 4) (rows' := kb_78_0.drop 4) (loc' := [.inr (11, 0, 0, 0), .inl (.int (0 : Int32)), .inl (.int (0 : Int32))]) (st' := []) (P1 := P) rfl ⟨trivial, trivial, trivial, trivial, trivial⟩ ?_
  exact t_78_4 N P N (0 : Int32) (0 : Int32)
def f_79_9 (N : Nat) : Nat → Int32 → Int32 → ab_P → Option (Int32 × ab_P)
  | 0, _, _, _ => none
  | n + 1, x1, x2, P =>
    if x2 < (P.1 76 0) then
      Option.bind (f_140_366 477 N P x2 (0 : Int32)) fun v2 =>
      if v2 = (0 : Int32) then
        f_79_9 N n (x1 ||| ((1 : Int32) <<< (x2 &&& 31))) (x2 + 1) P
      else
      f_79_9 N n (x1 ||| (0 : Int32)) (x2 + 1) P
    else
    some (x1, P)
theorem t_79_9 {xs : Nat × (Nat → Int32)} {d : Nat} (N : Nat) : ∀ n : Nat, ∀ (x1 : Int32) (x2 : Int32) (P : ab_P), ab_tr xs wI (d + 3) 79 9 [] [.inr (12, 0, 0, 72), .inl (.int x1), .inl (.int x2)] [] P (f_79_9 N n x1 x2 P) := by
  intro n
  induction n with
  | zero => intro x1 x2 P; exact tr_no
  | succ n ih =>
    intro x1 x2 P
    refine tr_nil (rows2 := kb_79_9) rfl (List.cons_ne_nil _ _) ?_
    refine tr_blk 5 (pc' := 16) (rows' := kb_79_9.drop 5) (loc' := [.inr (12, 0, 0, 72), .inl (.int x1), .inl (.int x2)]) (st' := [.inl (.int (P.1 76 0)), .inl (.int x2)]) (P1 := P) rfl ⟨trivial, trivial, trivial, trivial, (ab_vi (by decide)), trivial⟩ ?_
    refine tr_if (fun h3 => ?_) (fun h3 => ?_)
    · refine tr_icF (cd := .ge) (Int32.not_le.mpr h3) ?_
      refine tr_blk 5 (pc' := 26) (rows' := kb_79_9.drop 11) (loc' := [.inr (12, 0, 0, 72), .inl (.int x1), .inl (.int x2)]) (st' := [.inl (.int (0 : Int32)), .inl (.int x2), .inr (20, 366, 0, 477), .inl (.int x1)]) (P1 := P) rfl ⟨trivial, trivial, trivial, trivial, trivial, trivial⟩ ?_
      refine tr_cRI (z := km_140) (av := [.inr (20, 366, 0, 477), .inl (.int x2), .inl (.int (0 : Int32))]) (st' := [.inl (.int x1)]) rfl rfl rfl (Nat.le_of_ble_eq_true rfl) trivial rfl (Nat.le_of_ble_eq_true rfl) (t_140_366 477 N P x2 (0 : Int32)) (fun v2 => ?_)
      refine tr_if (fun h4 => ?_) (fun h4 => ?_)
      · refine tr_ifF (cd := .ne) (fun q => q h4) ?_
        refine tr_blk 3 (pc' := 35) (rows' := kb_79_9.drop 16) (loc' := [.inr (12, 0, 0, 72), .inl (.int x1), .inl (.int x2)]) (st' := [.inl (.int ((1 : Int32) <<< (x2 &&& 31))), .inl (.int x1)]) (P1 := P) rfl ⟨trivial, trivial, trivial, trivial⟩ ?_
        refine tr_goto ?_
        refine tr_nil (rows2 := kb_79_39) rfl (List.cons_ne_nil _ _) ?_
        refine tr_blk 3 (pc' := 44) (rows' := kb_79_39.drop 3) (loc' := [.inr (12, 0, 0, 72), .inl (.int (x1 ||| ((1 : Int32) <<< (x2 &&& 31)))), .inl (.int (x2 + 1))]) (st' := []) (P1 := P) rfl ⟨trivial, trivial, trivial, trivial⟩ ?_
        refine tr_goto ?_
        exact ih (x1 ||| ((1 : Int32) <<< (x2 &&& 31))) (x2 + 1) P
      · refine tr_ifT (cd := .ne) h4 ?_
        refine tr_nil (rows2 := kb_79_38) rfl (List.cons_ne_nil _ _) ?_
        refine tr_blk 1 (pc' := 39) (rows' := kb_79_38.drop 1) (loc' := [.inr (12, 0, 0, 72), .inl (.int x1), .inl (.int x2)]) (st' := [.inl (.int (0 : Int32)), .inl (.int x1)]) (P1 := P) rfl ⟨trivial, trivial⟩ ?_
        refine tr_nil (rows2 := kb_79_39) rfl (List.cons_ne_nil _ _) ?_
        refine tr_blk 3 (pc' := 44) (rows' := kb_79_39.drop 3) (loc' := [.inr (12, 0, 0, 72), .inl (.int (x1 ||| (0 : Int32))), .inl (.int (x2 + 1))]) (st' := []) (P1 := P) rfl ⟨trivial, trivial, trivial, trivial⟩ ?_
        refine tr_goto ?_
        exact ih (x1 ||| (0 : Int32)) (x2 + 1) P
    · refine tr_icT (cd := .ge) (Int32.not_lt.mp h3) ?_
      refine tr_nil (rows2 := kb_79_47) rfl (List.cons_ne_nil _ _) ?_
      refine tr_blk 1 (pc' := 48) (rows' := kb_79_47.drop 1) (loc' := [.inr (12, 0, 0, 72), .inl (.int x1), .inl (.int x2)]) (st' := [.inl (.int x1)]) (P1 := P) rfl ⟨trivial, trivial⟩ ?_
      exact tr_reI (z := km_79) rfl ⟨_, rfl, rfl⟩ rfl
def f_79 (N : Nat) (P : ab_P) : Option (Int32 × ab_P) :=
    ab_lt (ab_pI P 72 0 (0 : Int32)) fun P1 =>
    f_79_9 N N (0 : Int32) (0 : Int32) P1
theorem t_79 {xs : Nat × (Nat → Int32)} {d : Nat} (N : Nat) : ∀ (P : ab_P), ab_tr xs wI (d + 3) 79 0 [] [.inr (12, 0, 0, 72), ab_top, ab_top] [] P (f_79 N P) := by
  intro P
  unfold f_79
  refine tr_nil (rows2 := kb_79_0) rfl (List.cons_ne_nil _ _) ?_
  refine tr_blk 3 (pc' := 5) (rows' := kb_79_0.drop 3) (loc' := [.inr (12, 0, 0, 72), ab_top, ab_top]) (st' := []) (P1 := (ab_pI P 72 0 (0 : Int32))) rfl ⟨trivial, trivial, trivial, trivial⟩ ?_
  refine tr_lt (fun P1 => ?_)
  refine tr_blk 4 (pc' := 9) (rows' := kb_79_0.drop 7) (loc' := [.inr (12, 0, 0, 72), .inl (.int (0 : Int32)), .inl (.int (0 : Int32))]) (st' := []) (P1 := P1) rfl ⟨trivial, trivial, trivial, trivial, trivial⟩ ?_
  exact t_79_9 N N (0 : Int32) (0 : Int32) P1
def f_272_5 (i0 : Nat) (P : ab_P) : Nat → Int32 → Int64 → Int32 → Option Int64
  | 0, _, _, _ => none
  | n + 1, x1, x2, x4 =>
    if x4 < (P.1 i0 2) then
      Option.bind (f_263 i0 P x4) fun v1 =>
      if v1 = (0 : Int32) then
        f_272_5 i0 P n x1 x2 (x4 + 1)
      else
      Option.bind (f_231 i0 P (3 : Int32) x4) fun v2 =>
      if ((P.1 i0 3) - v2) < x1 then
        f_272_5 i0 P n x1 x2 (x4 + 1)
      else
      f_272_5 i0 P n x1 (x2 ||| ((1 : Int64) <<< ((x4).toInt64 &&& 63))) (x4 + 1)
    else
    some x2
theorem t_272_5 {xs : Nat × (Nat → Int32)} {d : Nat} (i0 : Nat) (P : ab_P) : ∀ n : Nat, ∀ (x1 : Int32) (x2 : Int64) (x4 : Int32), ab_tr xs (rL P) (d + 2) 272 5 [] [.inr (6, 0, 0, i0), .inl (.int x1), .inl (.long x2), ab_top, .inl (.int x4)] [] P (f_272_5 i0 P n x1 x2 x4) := by
  intro n
  induction n with
  | zero => intro x1 x2 x4; exact tr_no
  | succ n ih =>
    intro x1 x2 x4
    refine tr_nil (rows2 := kb_272_5) rfl (List.cons_ne_nil _ _) ?_
    refine tr_blk 3 (pc' := 11) (rows' := kb_272_5.drop 3) (loc' := [.inr (6, 0, 0, i0), .inl (.int x1), .inl (.long x2), ab_top, .inl (.int x4)]) (st' := [.inl (.int (P.1 i0 2)), .inl (.int x4)]) (P1 := P) rfl ⟨trivial, trivial, trivial, trivial⟩ ?_
    refine tr_if (fun h3 => ?_) (fun h3 => ?_)
    · refine tr_icF (cd := .ge) (Int32.not_le.mpr h3) ?_
      refine tr_blk 2 (pc' := 17) (rows' := kb_272_5.drop 6) (loc' := [.inr (6, 0, 0, i0), .inl (.int x1), .inl (.long x2), ab_top, .inl (.int x4)]) (st' := [.inl (.int x4), .inr (6, 0, 0, i0)]) (P1 := P) rfl ⟨trivial, trivial, trivial⟩ ?_
      refine tr_cRI (z := km_263) (av := [.inr (6, 0, 0, i0), .inl (.int x4)]) (st' := []) rfl rfl rfl (Nat.le_of_ble_eq_true rfl) ⟨rfl, Or.inl (by decide)⟩ rfl (Nat.le_of_ble_eq_true rfl) (t_263 i0 P x4) (fun v1 => ?_)
      refine tr_if (fun h4 => ?_) (fun h4 => ?_)
      · refine tr_ifT (cd := .eq) h4 ?_
        refine tr_nil (rows2 := kb_272_46) rfl (List.cons_ne_nil _ _) ?_
        refine tr_blk 1 (pc' := 49) (rows' := kb_272_46.drop 1) (loc' := [.inr (6, 0, 0, i0), .inl (.int x1), .inl (.long x2), ab_top, .inl (.int (x4 + 1))]) (st' := []) (P1 := P) rfl ⟨trivial, trivial⟩ ?_
        refine tr_goto ?_
        exact ih x1 x2 (x4 + 1)
      · refine tr_ifF (cd := .eq) h4 ?_
        refine tr_blk 5 (pc' := 31) (rows' := kb_272_5.drop 13) (loc' := [.inr (6, 0, 0, i0), .inl (.int x1), .inl (.long x2), ab_top, .inl (.int x4)]) (st' := [.inl (.int x4), .inl (.int (3 : Int32)), .inr (6, 0, 0, i0), .inl (.int (P.1 i0 3))]) (P1 := P) rfl ⟨trivial, trivial, trivial, trivial, trivial, trivial⟩ ?_
        refine tr_cRI (z := km_231) (av := [.inr (6, 0, 0, i0), .inl (.int (3 : Int32)), .inl (.int x4)]) (st' := [.inl (.int (P.1 i0 3))]) rfl rfl rfl (Nat.le_of_ble_eq_true rfl) ⟨rfl, Or.inl (by decide)⟩ rfl (Nat.le_of_ble_eq_true rfl) (t_231 i0 P (3 : Int32) x4) (fun v2 => ?_)
        refine tr_blk 2 (pc' := 36) (rows' := kb_272_5.drop 16) (loc' := [.inr (6, 0, 0, i0), .inl (.int x1), .inl (.long x2), ab_top, .inl (.int x4)]) (st' := [.inl (.int x1), .inl (.int ((P.1 i0 3) - v2))]) (P1 := P) rfl ⟨trivial, trivial, trivial⟩ ?_
        refine tr_if (fun h5 => ?_) (fun h5 => ?_)
        · refine tr_icT (cd := .lt) h5 ?_
          refine tr_nil (rows2 := kb_272_46) rfl (List.cons_ne_nil _ _) ?_
          refine tr_blk 1 (pc' := 49) (rows' := kb_272_46.drop 1) (loc' := [.inr (6, 0, 0, i0), .inl (.int x1), .inl (.long x2), ab_top, .inl (.int (x4 + 1))]) (st' := []) (P1 := P) rfl ⟨trivial, trivial⟩ ?_
          refine tr_goto ?_
          exact ih x1 x2 (x4 + 1)
        · refine tr_icF (cd := .lt) h5 ?_
          refine tr_blk 6 (pc' := 46) (rows' := kb_272_5.drop 23) (loc' := [.inr (6, 0, 0, i0), .inl (.int x1), .inl (.long (x2 ||| ((1 : Int64) <<< ((x4).toInt64 &&& 63)))), ab_top, .inl (.int x4)]) (st' := []) (P1 := P) rfl ⟨trivial, trivial, trivial, trivial, trivial, trivial, trivial⟩ ?_
          refine tr_nil (rows2 := kb_272_46) rfl (List.cons_ne_nil _ _) ?_
          refine tr_blk 1 (pc' := 49) (rows' := kb_272_46.drop 1) (loc' := [.inr (6, 0, 0, i0), .inl (.int x1), .inl (.long (x2 ||| ((1 : Int64) <<< ((x4).toInt64 &&& 63)))), ab_top, .inl (.int (x4 + 1))]) (st' := []) (P1 := P) rfl ⟨trivial, trivial⟩ ?_
          refine tr_goto ?_
          exact ih x1 (x2 ||| ((1 : Int64) <<< ((x4).toInt64 &&& 63))) (x4 + 1)
    · refine tr_icT (cd := .ge) (Int32.not_lt.mp h3) ?_
      refine tr_nil (rows2 := kb_272_52) rfl (List.cons_ne_nil _ _) ?_
      refine tr_blk 1 (pc' := 53) (rows' := kb_272_52.drop 1) (loc' := [.inr (6, 0, 0, i0), .inl (.int x1), .inl (.long x2), ab_top, .inl (.int x4)]) (st' := [.inl (.long x2)]) (P1 := P) rfl ⟨trivial, trivial⟩ ?_
      exact tr_reL (z := km_272) rfl rfl rfl
def f_272 (i0 : Nat) (N : Nat) (P : ab_P) (a1 : Int32) : Option Int64 :=
    f_272_5 i0 P N a1 (0 : Int64) (0 : Int32)
theorem t_272 {xs : Nat × (Nat → Int32)} {d : Nat} (i0 : Nat) (N : Nat) (P : ab_P) : ∀ (a1 : Int32), ab_tr xs (rL P) (d + 2) 272 0 [] [.inr (6, 0, 0, i0), .inl (.int a1), ab_top, ab_top, ab_top] [] P (f_272 i0 N P a1) := by
  intro a1
  unfold f_272
  refine tr_nil (rows2 := kb_272_0) rfl (List.cons_ne_nil _ _) ?_
  refine tr_blk 4 (pc' := 5) (rows' := kb_272_0.drop 4) (loc' := [.inr (6, 0, 0, i0), .inl (.int a1), .inl (.long (0 : Int64)), ab_top, .inl (.int (0 : Int32))]) (st' := []) (P1 := P) rfl ⟨trivial, trivial, trivial, trivial, trivial⟩ ?_
  exact t_272_5 i0 P N a1 (0 : Int64) (0 : Int32)
def f_187 (N : Nat) (a1 : Int32) (P : ab_P) : Option ((Int64 ⊕ Fin 3) × ab_P) :=
    Option.bind (f_240 P a1 (0 : Int32) (9999 : Int32)) fun v1 =>
    ab_x2 (f_228 v1 P) (fun _ P2 =>
    Option.bind (f_272 43 N P2 a1) fun v3 =>
    some (.inl v3, P2)) (fun q => q)
theorem t_187 {xs : Nat × (Nat → Int32)} {d : Nat} (N : Nat) : ∀ (a1 : Int32) (P : ab_P), ab_tr xs xL (d + 3) 187 0 [] [.inr (11, 0, 0, 0), .inl (.int a1)] [] P (f_187 N a1 P) := by
  intro a1 P
  unfold f_187
  refine tr_nil (rows2 := kb_187_0) rfl (List.cons_ne_nil _ _) ?_
  refine tr_blk 4 (pc' := 6) (rows' := kb_187_0.drop 4) (loc' := [.inr (11, 0, 0, 0), .inl (.int a1)]) (st' := [.inl (.int (9999 : Int32)), .inl (.int (0 : Int32)), .inl (.int a1), .inr (11, 0, 0, 0)]) (P1 := P) rfl ⟨trivial, trivial, trivial, trivial, trivial⟩ ?_
  refine tr_cRI (z := km_240) (av := [.inl (.int a1), .inl (.int (0 : Int32)), .inl (.int (9999 : Int32))]) (st' := [.inr (11, 0, 0, 0)]) rfl rfl rfl (Nat.le_of_ble_eq_true rfl) trivial rfl (Nat.le_of_ble_eq_true rfl) (t_240 P a1 (0 : Int32) (9999 : Int32)) (fun v1 => ?_)
  refine tr_cax (fun _ => none) (zi := km_187) (fun _ => rfl) (fun _ _ => rfl) rfl rfl (z := km_228) (av := [.inr (11, 0, 0, 0), .inl (.int v1)]) (st' := []) rfl rfl rfl (Nat.le_of_ble_eq_true rfl) ⟨rfl, Or.inl (by decide)⟩ rfl (Nat.le_of_ble_eq_true rfl) (t_228 v1 P) (fun _ P2 => ?_)
  refine tr_blk 3 (pc' := 17) (rows' := kb_187_0.drop 9) (loc' := [.inr (11, 0, 0, 0), .inl (.int a1)]) (st' := [.inl (.int a1), .inr (6, 0, 0, 43)]) (P1 := P2) rfl ⟨trivial, trivial, trivial, trivial⟩ ?_
  refine tr_cRL (z := km_272) (av := [.inr (6, 0, 0, 43), .inl (.int a1)]) (st' := []) rfl rfl rfl (Nat.le_of_ble_eq_true rfl) ⟨rfl, Or.inl (by decide)⟩ rfl (Nat.le_of_ble_eq_true rfl) (t_272 43 N P2 a1) (fun v3 => ?_)
  exact tr_reL (z := km_187) rfl rfl rfl
def f_80_1 (N : Nat) (a1 : Int32) (P : ab_P) : Option (Int32 × ab_P) :=
    ab_h2 (f_187 N a1 P) (fun v2 P1 =>
    ab_lt (ab_pL P1 570 0 v2) fun P3 =>
    some ((0 : Int32), P3))
    (fun _ => none) (fun P9 => some ((1 : Int32), P9)) (fun _ => none)
theorem t_80_1 {xs : Nat × (Nat → Int32)} {d : Nat} (N : Nat) : ∀ (a1 : Int32) (P : ab_P), ab_tr xs wI (d + 4) 80 0 [] [.inr (11, 0, 0, 0), .inl (.int a1), .inr (22, 1, 0, 570), ab_top] [] P (f_80_1 N a1 P) := by
  intro a1 P
  unfold f_80_1
  refine tr_nil (rows2 := kb_80_0) rfl (List.cons_ne_nil _ _) ?_
  refine tr_blk 4 (pc' := 4) (rows' := kb_80_0.drop 4) (loc' := [.inr (11, 0, 0, 0), .inl (.int a1), .inr (22, 1, 0, 570), ab_top]) (st' := [.inl (.int a1), .inr (11, 0, 0, 0), .inl (.int (0 : Int32)), .inr (22, 1, 0, 570)]) (P1 := P) rfl ⟨trivial, trivial, trivial, trivial, trivial⟩ ?_
  refine tr_cah (fun b => some (.inl (.long b))) (zi := km_80) (fun _ => rfl) rfl (z := km_187) (av := [.inr (11, 0, 0, 0), .inl (.int a1)]) (st' := [.inl (.int (0 : Int32)), .inr (22, 1, 0, 570)]) rfl rfl rfl (Nat.le_of_ble_eq_true rfl) ⟨rfl, Or.inl (by decide)⟩ rfl (Nat.le_of_ble_eq_true rfl) (t_187 N a1 P) (fun v2 P1 => ?_) ?_ ?_ ?_
  · refine tr_blk 1 (pc' := 8) (rows' := kb_80_0.drop 6) (loc' := [.inr (11, 0, 0, 0), .inl (.int a1), .inr (22, 1, 0, 570), ab_top]) (st' := []) (P1 := (ab_pL P1 570 0 v2)) rfl ⟨(ab_vi (by decide)), trivial⟩ ?_
    refine tr_lt (fun P3 => ?_)
    refine tr_goto ?_
    refine tr_nil (rows2 := kb_80_14) rfl (List.cons_ne_nil _ _) ?_
    refine tr_blk 1 (pc' := 15) (rows' := kb_80_14.drop 1) (loc' := [.inr (11, 0, 0, 0), .inl (.int a1), .inr (22, 1, 0, 570), ab_top]) (st' := [.inl (.int (0 : Int32))]) (P1 := P3) rfl ⟨trivial, trivial⟩ ?_
    exact tr_reI (z := km_80) rfl ⟨_, rfl, rfl⟩ rfl
  · exact fun _ => rfl
  · exact fun _ => tr_han (rows2 := kb_80_11) (z := km_80) _ (fun q => [.inr (11, 0, 0, 0), .inl (.int a1), .inr (22, 1, 0, 570), .inr (40, 1, 0, q)]) rfl (List.cons_ne_nil _ _) (fun q => rfl) ⟨trivial, trivial, trivial⟩ rfl ⟨_, rfl, rfl⟩ rfl
  · exact fun _ => rfl
def f_81_37 : Nat → Int32 → Int64 → Int32 → ab_P → Option (Int64 × ab_P)
  | 0, _, _, _, _ => none
  | n + 1, x1, x2, x4, P =>
    if x4 < (P.1 477 360) then
      Option.bind (f_144_366 477 P x4) fun v5 =>
      if v5 = (0 : Int32) then
        f_81_37 n x1 (x2 ||| (0 : Int64)) (x4 + 1) P
      else
      Option.bind (f_135_366 477 P x4 (3 : Int32)) fun v6 =>
      if ((P.1 477 361) - v6) < x1 then
        f_81_37 n x1 (x2 ||| (0 : Int64)) (x4 + 1) P
      else
      f_81_37 n x1 (x2 ||| ((1 : Int64) <<< ((x4).toInt64 &&& 63))) (x4 + 1) P
    else
    some (x2, P)
theorem t_81_37 {xs : Nat × (Nat → Int32)} {d : Nat} : ∀ n : Nat, ∀ (x1 : Int32) (x2 : Int64) (x4 : Int32) (P : ab_P), ab_tr xs wL (d + 2) 81 37 [] [.inr (12, 0, 0, 72), .inl (.int x1), .inl (.long x2), ab_top, .inl (.int x4)] [] P (f_81_37 n x1 x2 x4 P) := by
  intro n
  induction n with
  | zero => intro x1 x2 x4 P; exact tr_no
  | succ n ih =>
    intro x1 x2 x4 P
    refine tr_nil (rows2 := kb_81_37) rfl (List.cons_ne_nil _ _) ?_
    refine tr_blk 5 (pc' := 47) (rows' := kb_81_37.drop 5) (loc' := [.inr (12, 0, 0, 72), .inl (.int x1), .inl (.long x2), ab_top, .inl (.int x4)]) (st' := [.inl (.int (P.1 477 360)), .inl (.int x4)]) (P1 := P) rfl ⟨trivial, trivial, trivial, trivial, (ab_vi (by decide)), trivial⟩ ?_
    refine tr_if (fun h7 => ?_) (fun h7 => ?_)
    · refine tr_icF (cd := .ge) (Int32.not_le.mpr h7) ?_
      refine tr_blk 4 (pc' := 57) (rows' := kb_81_37.drop 10) (loc' := [.inr (12, 0, 0, 72), .inl (.int x1), .inl (.long x2), ab_top, .inl (.int x4)]) (st' := [.inl (.int x4), .inr (20, 366, 0, 477), .inl (.long x2)]) (P1 := P) rfl ⟨trivial, trivial, trivial, trivial, trivial⟩ ?_
      refine tr_cRI (z := km_144) (av := [.inr (20, 366, 0, 477), .inl (.int x4)]) (st' := [.inl (.long x2)]) rfl rfl rfl (Nat.le_of_ble_eq_true rfl) trivial rfl (Nat.le_of_ble_eq_true rfl) (t_144_366 477 P x4) (fun v5 => ?_)
      refine tr_if (fun h8 => ?_) (fun h8 => ?_)
      · refine tr_ifT (cd := .eq) h8 ?_
        refine tr_nil (rows2 := kb_81_93) rfl (List.cons_ne_nil _ _) ?_
        refine tr_blk 1 (pc' := 94) (rows' := kb_81_93.drop 1) (loc' := [.inr (12, 0, 0, 72), .inl (.int x1), .inl (.long x2), ab_top, .inl (.int x4)]) (st' := [.inl (.long (0 : Int64)), .inl (.long x2)]) (P1 := P) rfl ⟨trivial, trivial⟩ ?_
        refine tr_nil (rows2 := kb_81_94) rfl (List.cons_ne_nil _ _) ?_
        refine tr_blk 3 (pc' := 99) (rows' := kb_81_94.drop 3) (loc' := [.inr (12, 0, 0, 72), .inl (.int x1), .inl (.long (x2 ||| (0 : Int64))), ab_top, .inl (.int (x4 + 1))]) (st' := []) (P1 := P) rfl ⟨trivial, trivial, trivial, trivial⟩ ?_
        refine tr_goto ?_
        exact ih x1 (x2 ||| (0 : Int64)) (x4 + 1) P
      · refine tr_ifF (cd := .eq) h8 ?_
        refine tr_blk 8 (pc' := 78) (rows' := kb_81_37.drop 20) (loc' := [.inr (12, 0, 0, 72), .inl (.int x1), .inl (.long x2), ab_top, .inl (.int x4)]) (st' := [.inl (.int (3 : Int32)), .inl (.int x4), .inr (20, 366, 0, 477), .inl (.int (P.1 477 361)), .inl (.long x2)]) (P1 := P) rfl ⟨trivial, trivial, trivial, (ab_vi (by decide)), trivial, trivial, trivial, trivial, trivial⟩ ?_
        refine tr_cRI (z := km_135) (av := [.inr (20, 366, 0, 477), .inl (.int x4), .inl (.int (3 : Int32))]) (st' := [.inl (.int (P.1 477 361)), .inl (.long x2)]) rfl rfl rfl (Nat.le_of_ble_eq_true rfl) trivial rfl (Nat.le_of_ble_eq_true rfl) (t_135_366 477 P x4 (3 : Int32)) (fun v6 => ?_)
        refine tr_blk 2 (pc' := 83) (rows' := kb_81_37.drop 23) (loc' := [.inr (12, 0, 0, 72), .inl (.int x1), .inl (.long x2), ab_top, .inl (.int x4)]) (st' := [.inl (.int x1), .inl (.int ((P.1 477 361) - v6)), .inl (.long x2)]) (P1 := P) rfl ⟨trivial, trivial, trivial⟩ ?_
        refine tr_if (fun h9 => ?_) (fun h9 => ?_)
        · refine tr_icT (cd := .lt) h9 ?_
          refine tr_nil (rows2 := kb_81_93) rfl (List.cons_ne_nil _ _) ?_
          refine tr_blk 1 (pc' := 94) (rows' := kb_81_93.drop 1) (loc' := [.inr (12, 0, 0, 72), .inl (.int x1), .inl (.long x2), ab_top, .inl (.int x4)]) (st' := [.inl (.long (0 : Int64)), .inl (.long x2)]) (P1 := P) rfl ⟨trivial, trivial⟩ ?_
          refine tr_nil (rows2 := kb_81_94) rfl (List.cons_ne_nil _ _) ?_
          refine tr_blk 3 (pc' := 99) (rows' := kb_81_94.drop 3) (loc' := [.inr (12, 0, 0, 72), .inl (.int x1), .inl (.long (x2 ||| (0 : Int64))), ab_top, .inl (.int (x4 + 1))]) (st' := []) (P1 := P) rfl ⟨trivial, trivial, trivial, trivial⟩ ?_
          refine tr_goto ?_
          exact ih x1 (x2 ||| (0 : Int64)) (x4 + 1) P
        · refine tr_icF (cd := .lt) h9 ?_
          refine tr_blk 3 (pc' := 90) (rows' := kb_81_37.drop 27) (loc' := [.inr (12, 0, 0, 72), .inl (.int x1), .inl (.long x2), ab_top, .inl (.int x4)]) (st' := [.inl (.long ((1 : Int64) <<< ((x4).toInt64 &&& 63))), .inl (.long x2)]) (P1 := P) rfl ⟨trivial, trivial, trivial, trivial⟩ ?_
          refine tr_goto ?_
          refine tr_nil (rows2 := kb_81_94) rfl (List.cons_ne_nil _ _) ?_
          refine tr_blk 3 (pc' := 99) (rows' := kb_81_94.drop 3) (loc' := [.inr (12, 0, 0, 72), .inl (.int x1), .inl (.long (x2 ||| ((1 : Int64) <<< ((x4).toInt64 &&& 63)))), ab_top, .inl (.int (x4 + 1))]) (st' := []) (P1 := P) rfl ⟨trivial, trivial, trivial, trivial⟩ ?_
          refine tr_goto ?_
          exact ih x1 (x2 ||| ((1 : Int64) <<< ((x4).toInt64 &&& 63))) (x4 + 1) P
    · refine tr_icT (cd := .ge) (Int32.not_lt.mp h7) ?_
      refine tr_nil (rows2 := kb_81_102) rfl (List.cons_ne_nil _ _) ?_
      refine tr_blk 1 (pc' := 103) (rows' := kb_81_102.drop 1) (loc' := [.inr (12, 0, 0, 72), .inl (.int x1), .inl (.long x2), ab_top, .inl (.int x4)]) (st' := [.inl (.long x2)]) (P1 := P) rfl ⟨trivial, trivial⟩ ?_
      exact tr_reL (z := km_81) rfl rfl rfl
def f_81_22 (N : Nat) (x1 : Int32) (s0 : Int32) (P : ab_P) : Option (Int64 × ab_P) :=
    ab_b2 (f_113 s0 (1 : Int32) (1 : Int32) P) fun v4 P3 =>
    if v4 = (0 : Int32) then
      f_81_37 N x1 (0 : Int64) (0 : Int32) P3
    else
    some ((0 : Int64), P3)
theorem t_81_22 {xs : Nat × (Nat → Int32)} {d : Nat} (N : Nat) : ∀ (x1 : Int32) (s0 : Int32) (P : ab_P), ab_tr xs wL (d + 2) 81 22 [] [.inr (12, 0, 0, 72), .inl (.int x1), ab_top, ab_top, ab_top] [.inl (.int s0), .inr (12, 0, 0, 72)] P (f_81_22 N x1 s0 P) := by
  intro x1 s0 P
  unfold f_81_22
  refine tr_nil (rows2 := kb_81_22) rfl (List.cons_ne_nil _ _) ?_
  refine tr_blk 2 (pc' := 24) (rows' := kb_81_22.drop 2) (loc' := [.inr (12, 0, 0, 72), .inl (.int x1), ab_top, ab_top, ab_top]) (st' := [.inl (.int (1 : Int32)), .inl (.int (1 : Int32)), .inl (.int s0), .inr (12, 0, 0, 72)]) (P1 := P) rfl ⟨trivial, trivial, trivial⟩ ?_
  refine tr_cWI (z := km_113) (av := [.inr (12, 0, 0, 72), .inl (.int s0), .inl (.int (1 : Int32)), .inl (.int (1 : Int32))]) (st' := []) rfl rfl rfl (Nat.le_of_ble_eq_true rfl) ⟨rfl, Or.inl (by decide)⟩ rfl (Nat.le_of_ble_eq_true rfl) (t_113 s0 (1 : Int32) (1 : Int32) P) (fun v4 P3 => ?_)
  refine tr_if (fun h10 => ?_) (fun h10 => ?_)
  · refine tr_ifT (cd := .eq) h10 ?_
    refine tr_nil (rows2 := kb_81_32) rfl (List.cons_ne_nil _ _) ?_
    refine tr_blk 4 (pc' := 37) (rows' := kb_81_32.drop 4) (loc' := [.inr (12, 0, 0, 72), .inl (.int x1), .inl (.long (0 : Int64)), ab_top, .inl (.int (0 : Int32))]) (st' := []) (P1 := P3) rfl ⟨trivial, trivial, trivial, trivial, trivial⟩ ?_
    exact t_81_37 N x1 (0 : Int64) (0 : Int32) P3
  · refine tr_ifF (cd := .eq) h10 ?_
    refine tr_blk 1 (pc' := 31) (rows' := kb_81_22.drop 5) (loc' := [.inr (12, 0, 0, 72), .inl (.int x1), ab_top, ab_top, ab_top]) (st' := [.inl (.long (0 : Int64))]) (P1 := P3) rfl ⟨trivial, trivial⟩ ?_
    exact tr_reL (z := km_81) rfl rfl rfl
def f_81 (N : Nat) (a1 : Int32) (P : ab_P) : Option (Int64 × ab_P) :=
    ab_lt (ab_pI P 72 0 (0 : Int32)) fun P1 =>
    Option.bind (f_112 P1 a1 (0 : Int32) (9999 : Int32)) fun v2 =>
    if v2 = (0 : Int32) then
      f_81_22 N a1 (1 : Int32) P1
    else
    f_81_22 N a1 (0 : Int32) P1
theorem t_81 {xs : Nat × (Nat → Int32)} {d : Nat} (N : Nat) : ∀ (a1 : Int32) (P : ab_P), ab_tr xs wL (d + 2) 81 0 [] [.inr (12, 0, 0, 72), .inl (.int a1), ab_top, ab_top, ab_top] [] P (f_81 N a1 P) := by
  intro a1 P
  unfold f_81
  refine tr_nil (rows2 := kb_81_0) rfl (List.cons_ne_nil _ _) ?_
  refine tr_blk 3 (pc' := 5) (rows' := kb_81_0.drop 3) (loc' := [.inr (12, 0, 0, 72), .inl (.int a1), ab_top, ab_top, ab_top]) (st' := []) (P1 := (ab_pI P 72 0 (0 : Int32))) rfl ⟨trivial, trivial, trivial, trivial⟩ ?_
  refine tr_lt (fun P1 => ?_)
  refine tr_blk 4 (pc' := 11) (rows' := kb_81_0.drop 7) (loc' := [.inr (12, 0, 0, 72), .inl (.int a1), ab_top, ab_top, ab_top]) (st' := [.inl (.int (9999 : Int32)), .inl (.int (0 : Int32)), .inl (.int a1), .inr (12, 0, 0, 72)]) (P1 := P1) rfl ⟨trivial, trivial, trivial, trivial, trivial⟩ ?_
  refine tr_cRI (z := km_112) (av := [.inl (.int a1), .inl (.int (0 : Int32)), .inl (.int (9999 : Int32))]) (st' := [.inr (12, 0, 0, 72)]) rfl rfl rfl (Nat.le_of_ble_eq_true rfl) trivial rfl (Nat.le_of_ble_eq_true rfl) (t_112 P1 a1 (0 : Int32) (9999 : Int32)) (fun v2 => ?_)
  refine tr_if (fun h11 => ?_) (fun h11 => ?_)
  · refine tr_ifF (cd := .ne) (fun q => q h11) ?_
    refine tr_blk 1 (pc' := 18) (rows' := kb_81_0.drop 10) (loc' := [.inr (12, 0, 0, 72), .inl (.int a1), ab_top, ab_top, ab_top]) (st' := [.inl (.int (1 : Int32)), .inr (12, 0, 0, 72)]) (P1 := P1) rfl ⟨trivial, trivial⟩ ?_
    refine tr_goto ?_
    exact t_81_22 N a1 (1 : Int32) P1
  · refine tr_ifT (cd := .ne) h11 ?_
    refine tr_nil (rows2 := kb_81_21) rfl (List.cons_ne_nil _ _) ?_
    refine tr_blk 1 (pc' := 22) (rows' := kb_81_21.drop 1) (loc' := [.inr (12, 0, 0, 72), .inl (.int a1), ab_top, ab_top, ab_top]) (st' := [.inl (.int (0 : Int32)), .inr (12, 0, 0, 72)]) (P1 := P1) rfl ⟨trivial, trivial⟩ ?_
    exact t_81_22 N a1 (0 : Int32) P1
def f_188_12 (N : Nat) : Nat → Int32 → Int32 → Int32 → Int32 → ab_P → Option ((Int32 ⊕ Fin 3) × ab_P)
  | 0, _, _, _, _, _ => none
  | n + 1, x1, x2, x3, x4, P =>
    if x4 < (P.1 3 5) then
      Option.bind (f_238 43 N P x1 x4) fun v2 =>
      if x3 < v2 then
        f_188_12 N n x1 x4 v2 (x4 + 1) P
      else
      f_188_12 N n x1 x2 x3 (x4 + 1) P
    else
    some (.inl x2, P)
theorem t_188_12 {xs : Nat × (Nat → Int32)} {d : Nat} (N : Nat) : ∀ n : Nat, ∀ (x1 : Int32) (x2 : Int32) (x3 : Int32) (x4 : Int32) (d5 : ab_V) (P : ab_P), ab_tr xs xI (d + 3) 188 12 [] [.inr (11, 0, 0, 0), .inl (.int x1), .inl (.int x2), .inl (.int x3), .inl (.int x4), d5] [] P (f_188_12 N n x1 x2 x3 x4 P) := by
  intro n
  induction n with
  | zero => intro x1 x2 x3 x4 d5 P; exact tr_no
  | succ n ih =>
    intro x1 x2 x3 x4 d5 P
    refine tr_nil (rows2 := kb_188_12) rfl (List.cons_ne_nil _ _) ?_
    refine tr_blk 4 (pc' := 21) (rows' := kb_188_12.drop 4) (loc' := [.inr (11, 0, 0, 0), .inl (.int x1), .inl (.int x2), .inl (.int x3), .inl (.int x4), d5]) (st' := [.inl (.int (P.1 3 5)), .inl (.int x4)]) (P1 := P) rfl ⟨trivial, trivial, trivial, trivial, trivial⟩ ?_
    refine tr_if (fun h3 => ?_) (fun h3 => ?_)
    · refine tr_icF (cd := .ge) (Int32.not_le.mpr h3) ?_
      refine tr_blk 4 (pc' := 31) (rows' := kb_188_12.drop 9) (loc' := [.inr (11, 0, 0, 0), .inl (.int x1), .inl (.int x2), .inl (.int x3), .inl (.int x4), d5]) (st' := [.inl (.int x4), .inl (.int x1), .inr (6, 0, 0, 43)]) (P1 := P) rfl ⟨trivial, trivial, trivial, trivial, trivial⟩ ?_
      refine tr_cRI (z := km_238) (av := [.inr (6, 0, 0, 43), .inl (.int x1), .inl (.int x4)]) (st' := []) rfl rfl rfl (Nat.le_of_ble_eq_true rfl) ⟨rfl, Or.inl (by decide)⟩ rfl (Nat.le_of_ble_eq_true rfl) (t_238 43 N P x1 x4) (fun v2 => ?_)
      refine tr_blk 3 (pc' := 39) (rows' := kb_188_12.drop 13) (loc' := [.inr (11, 0, 0, 0), .inl (.int x1), .inl (.int x2), .inl (.int x3), .inl (.int x4), .inl (.int v2)]) (st' := [.inl (.int x3), .inl (.int v2)]) (P1 := P) rfl ⟨trivial, trivial, trivial, trivial⟩ ?_
      refine tr_if (fun h4 => ?_) (fun h4 => ?_)
      · refine tr_icF (cd := .le) (Int32.not_le.mpr h4) ?_
        refine tr_blk 4 (pc' := 48) (rows' := kb_188_12.drop 18) (loc' := [.inr (11, 0, 0, 0), .inl (.int x1), .inl (.int x4), .inl (.int v2), .inl (.int x4), .inl (.int v2)]) (st' := []) (P1 := P) rfl ⟨trivial, trivial, trivial, trivial, trivial⟩ ?_
        refine tr_nil (rows2 := kb_188_48) rfl (List.cons_ne_nil _ _) ?_
        refine tr_blk 1 (pc' := 51) (rows' := kb_188_48.drop 1) (loc' := [.inr (11, 0, 0, 0), .inl (.int x1), .inl (.int x4), .inl (.int v2), .inl (.int (x4 + 1)), .inl (.int v2)]) (st' := []) (P1 := P) rfl ⟨trivial, trivial⟩ ?_
        refine tr_goto ?_
        exact ih x1 x4 v2 (x4 + 1) (.inl (.int v2)) P
      · refine tr_icT (cd := .le) (Int32.not_lt.mp h4) ?_
        refine tr_nil (rows2 := kb_188_48) rfl (List.cons_ne_nil _ _) ?_
        refine tr_blk 1 (pc' := 51) (rows' := kb_188_48.drop 1) (loc' := [.inr (11, 0, 0, 0), .inl (.int x1), .inl (.int x2), .inl (.int x3), .inl (.int (x4 + 1)), .inl (.int v2)]) (st' := []) (P1 := P) rfl ⟨trivial, trivial⟩ ?_
        refine tr_goto ?_
        exact ih x1 x2 x3 (x4 + 1) (.inl (.int v2)) P
    · refine tr_icT (cd := .ge) (Int32.not_lt.mp h3) ?_
      refine tr_nil (rows2 := kb_188_54) rfl (List.cons_ne_nil _ _) ?_
      refine tr_blk 1 (pc' := 55) (rows' := kb_188_54.drop 1) (loc' := [.inr (11, 0, 0, 0), .inl (.int x1), .inl (.int x2), .inl (.int x3), .inl (.int x4), d5]) (st' := [.inl (.int x2)]) (P1 := P) rfl ⟨trivial, trivial⟩ ?_
      exact tr_reI (z := km_188) rfl ⟨_, rfl, rfl⟩ rfl
def f_188 (N : Nat) (a1 : Int32) (P : ab_P) : Option ((Int32 ⊕ Fin 3) × ab_P) :=
    ab_x2 (f_232 a1 P) (fun _ P1 =>
    f_188_12 N N a1 (-1 : Int32) (0 : Int32) (0 : Int32) P1) (fun q => q)
theorem t_188 {xs : Nat × (Nat → Int32)} {d : Nat} (N : Nat) : ∀ (a1 : Int32) (P : ab_P), ab_tr xs xI (d + 3) 188 0 [] [.inr (11, 0, 0, 0), .inl (.int a1), ab_top, ab_top, ab_top, ab_top] [] P (f_188 N a1 P) := by
  intro a1 P
  unfold f_188
  refine tr_nil (rows2 := kb_188_0) rfl (List.cons_ne_nil _ _) ?_
  refine tr_blk 2 (pc' := 2) (rows' := kb_188_0.drop 2) (loc' := [.inr (11, 0, 0, 0), .inl (.int a1), ab_top, ab_top, ab_top, ab_top]) (st' := [.inl (.int a1), .inr (11, 0, 0, 0)]) (P1 := P) rfl ⟨trivial, trivial, trivial⟩ ?_
  refine tr_cax (fun _ => none) (zi := km_188) (fun _ => rfl) (fun _ _ => rfl) rfl rfl (z := km_232) (av := [.inr (11, 0, 0, 0), .inl (.int a1)]) (st' := []) rfl rfl rfl (Nat.le_of_ble_eq_true rfl) ⟨rfl, Or.inl (by decide)⟩ rfl (Nat.le_of_ble_eq_true rfl) (t_232 a1 P) (fun _ P1 => ?_)
  refine tr_blk 6 (pc' := 12) (rows' := kb_188_0.drop 9) (loc' := [.inr (11, 0, 0, 0), .inl (.int a1), .inl (.int (-1 : Int32)), .inl (.int (0 : Int32)), .inl (.int (0 : Int32)), ab_top]) (st' := []) (P1 := P1) rfl ⟨trivial, trivial, trivial, trivial, trivial, trivial, trivial⟩ ?_
  exact t_188_12 N N a1 (-1 : Int32) (0 : Int32) (0 : Int32) (ab_top) P1
def f_82_1 (N : Nat) (a1 : Int32) (P : ab_P) : Option (Int32 × ab_P) :=
    ab_h2 (f_188 N a1 P) (fun v2 P1 =>
    ab_lt (ab_pL P1 570 0 (v2).toInt64) fun P3 =>
    some ((0 : Int32), P3))
    (fun P9 => some ((1 : Int32), P9)) (fun _ => none) (fun _ => none)
theorem t_82_1 {xs : Nat × (Nat → Int32)} {d : Nat} (N : Nat) : ∀ (a1 : Int32) (P : ab_P), ab_tr xs wI (d + 4) 82 0 [] [.inr (11, 0, 0, 0), .inl (.int a1), .inr (22, 1, 0, 570), ab_top] [] P (f_82_1 N a1 P) := by
  intro a1 P
  unfold f_82_1
  refine tr_nil (rows2 := kb_82_0) rfl (List.cons_ne_nil _ _) ?_
  refine tr_blk 4 (pc' := 4) (rows' := kb_82_0.drop 4) (loc' := [.inr (11, 0, 0, 0), .inl (.int a1), .inr (22, 1, 0, 570), ab_top]) (st' := [.inl (.int a1), .inr (11, 0, 0, 0), .inl (.int (0 : Int32)), .inr (22, 1, 0, 570)]) (P1 := P) rfl ⟨trivial, trivial, trivial, trivial, trivial⟩ ?_
  refine tr_cah (fun b => some (.inl (.int b))) (zi := km_82) (fun _ => rfl) rfl (z := km_188) (av := [.inr (11, 0, 0, 0), .inl (.int a1)]) (st' := [.inl (.int (0 : Int32)), .inr (22, 1, 0, 570)]) rfl rfl rfl (Nat.le_of_ble_eq_true rfl) ⟨rfl, Or.inl (by decide)⟩ rfl (Nat.le_of_ble_eq_true rfl) (t_188 N a1 P) (fun v2 P1 => ?_) ?_ ?_ ?_
  · refine tr_blk 2 (pc' := 9) (rows' := kb_82_0.drop 7) (loc' := [.inr (11, 0, 0, 0), .inl (.int a1), .inr (22, 1, 0, 570), ab_top]) (st' := []) (P1 := (ab_pL P1 570 0 (v2).toInt64)) rfl ⟨trivial, (ab_vi (by decide)), trivial⟩ ?_
    refine tr_lt (fun P3 => ?_)
    refine tr_goto ?_
    refine tr_nil (rows2 := kb_82_15) rfl (List.cons_ne_nil _ _) ?_
    refine tr_blk 1 (pc' := 16) (rows' := kb_82_15.drop 1) (loc' := [.inr (11, 0, 0, 0), .inl (.int a1), .inr (22, 1, 0, 570), ab_top]) (st' := [.inl (.int (0 : Int32))]) (P1 := P3) rfl ⟨trivial, trivial⟩ ?_
    exact tr_reI (z := km_82) rfl ⟨_, rfl, rfl⟩ rfl
  · exact fun _ => tr_han (rows2 := kb_82_12) (z := km_82) _ (fun q => [.inr (11, 0, 0, 0), .inl (.int a1), .inr (22, 1, 0, 570), .inr (40, 0, 0, q)]) rfl (List.cons_ne_nil _ _) (fun q => rfl) ⟨trivial, trivial, trivial⟩ rfl ⟨_, rfl, rfl⟩ rfl
  · exact fun _ => rfl
  · exact fun _ => rfl
def f_83_53 (H36 : Int32 → Int32 → Int32 → Int32 → ab_P → Option (Int32 × ab_P)) : Nat → Int32 → Int32 → Int32 → Int32 → Int32 → Int32 → ab_P → Option (Int32 × ab_P)
  | 0, _, _, _, _, _, _, _ => none
  | n + 1, x1, x2, x3, x4, x5, x6, P =>
    if x6 < (P.1 477 360) then
      Option.bind (f_144_366 477 P x6) fun v5 =>
      if v5 = (0 : Int32) then
        f_83_53 H36 n x1 x2 x3 x4 (x5 + (0 : Int32)) (x6 + 1) P
      else
      Option.bind (f_135_366 477 P x6 (0 : Int32)) fun v6 =>
      if v6 = x1 then
        Option.bind (f_135_366 477 P x6 (1 : Int32)) fun v7 =>
        if v7 = x4 then
          Option.bind (f_135_366 477 P x6 (2 : Int32)) fun v8 =>
          f_83_53 H36 n x1 x2 x3 x4 (x5 + v8) (x6 + 1) P
        else
        f_83_53 H36 n x1 x2 x3 x4 (x5 + (0 : Int32)) (x6 + 1) P
      else
      f_83_53 H36 n x1 x2 x3 x4 (x5 + (0 : Int32)) (x6 + 1) P
    else
    if x3 < x5 then
      H36 x1 x4 x5 (x4 + 1) P
    else
    H36 x1 x2 x3 (x4 + 1) P
theorem t_83_53 {xs : Nat × (Nat → Int32)} {d : Nat} (H36 : Int32 → Int32 → Int32 → Int32 → ab_P → Option (Int32 × ab_P)) (hH36 : ∀ (x1 : Int32) (x2 : Int32) (x3 : Int32) (x4 : Int32) (d5 : ab_V) (d6 : ab_V) (P : ab_P), ab_tr xs wI (d + 2) 83 36 [] [.inr (12, 0, 0, 72), .inl (.int x1), .inl (.int x2), .inl (.int x3), .inl (.int x4), d5, d6] [] P (H36 x1 x2 x3 x4 P)) : ∀ n : Nat, ∀ (x1 : Int32) (x2 : Int32) (x3 : Int32) (x4 : Int32) (x5 : Int32) (x6 : Int32) (P : ab_P), ab_tr xs wI (d + 2) 83 53 [] [.inr (12, 0, 0, 72), .inl (.int x1), .inl (.int x2), .inl (.int x3), .inl (.int x4), .inl (.int x5), .inl (.int x6)] [] P (f_83_53 H36 n x1 x2 x3 x4 x5 x6 P) := by
  intro n
  induction n with
  | zero => intro x1 x2 x3 x4 x5 x6 P; exact tr_no
  | succ n ih =>
    intro x1 x2 x3 x4 x5 x6 P
    refine tr_nil (rows2 := kb_83_53) rfl (List.cons_ne_nil _ _) ?_
    refine tr_blk 5 (pc' := 63) (rows' := kb_83_53.drop 5) (loc' := [.inr (12, 0, 0, 72), .inl (.int x1), .inl (.int x2), .inl (.int x3), .inl (.int x4), .inl (.int x5), .inl (.int x6)]) (st' := [.inl (.int (P.1 477 360)), .inl (.int x6)]) (P1 := P) rfl ⟨trivial, trivial, trivial, trivial, (ab_vi (by decide)), trivial⟩ ?_
    refine tr_if (fun h9 => ?_) (fun h9 => ?_)
    · refine tr_icF (cd := .ge) (Int32.not_le.mpr h9) ?_
      refine tr_blk 4 (pc' := 74) (rows' := kb_83_53.drop 10) (loc' := [.inr (12, 0, 0, 72), .inl (.int x1), .inl (.int x2), .inl (.int x3), .inl (.int x4), .inl (.int x5), .inl (.int x6)]) (st' := [.inl (.int x6), .inr (20, 366, 0, 477), .inl (.int x5)]) (P1 := P) rfl ⟨trivial, trivial, trivial, trivial, trivial⟩ ?_
      refine tr_cRI (z := km_144) (av := [.inr (20, 366, 0, 477), .inl (.int x6)]) (st' := [.inl (.int x5)]) rfl rfl rfl (Nat.le_of_ble_eq_true rfl) trivial rfl (Nat.le_of_ble_eq_true rfl) (t_144_366 477 P x6) (fun v5 => ?_)
      refine tr_if (fun h11 => ?_) (fun h11 => ?_)
      · refine tr_ifT (cd := .eq) h11 ?_
        refine tr_nil (rows2 := kb_83_122) rfl (List.cons_ne_nil _ _) ?_
        refine tr_blk 1 (pc' := 123) (rows' := kb_83_122.drop 1) (loc' := [.inr (12, 0, 0, 72), .inl (.int x1), .inl (.int x2), .inl (.int x3), .inl (.int x4), .inl (.int x5), .inl (.int x6)]) (st' := [.inl (.int (0 : Int32)), .inl (.int x5)]) (P1 := P) rfl ⟨trivial, trivial⟩ ?_
        refine tr_nil (rows2 := kb_83_123) rfl (List.cons_ne_nil _ _) ?_
        refine tr_blk 3 (pc' := 129) (rows' := kb_83_123.drop 3) (loc' := [.inr (12, 0, 0, 72), .inl (.int x1), .inl (.int x2), .inl (.int x3), .inl (.int x4), .inl (.int (x5 + (0 : Int32))), .inl (.int (x6 + 1))]) (st' := []) (P1 := P) rfl ⟨trivial, trivial, trivial, trivial⟩ ?_
        refine tr_goto ?_
        exact ih x1 x2 x3 x4 (x5 + (0 : Int32)) (x6 + 1) P
      · refine tr_ifF (cd := .eq) h11 ?_
        refine tr_blk 4 (pc' := 87) (rows' := kb_83_53.drop 16) (loc' := [.inr (12, 0, 0, 72), .inl (.int x1), .inl (.int x2), .inl (.int x3), .inl (.int x4), .inl (.int x5), .inl (.int x6)]) (st' := [.inl (.int (0 : Int32)), .inl (.int x6), .inr (20, 366, 0, 477), .inl (.int x5)]) (P1 := P) rfl ⟨trivial, trivial, trivial, trivial, trivial⟩ ?_
        refine tr_cRI (z := km_135) (av := [.inr (20, 366, 0, 477), .inl (.int x6), .inl (.int (0 : Int32))]) (st' := [.inl (.int x5)]) rfl rfl rfl (Nat.le_of_ble_eq_true rfl) trivial rfl (Nat.le_of_ble_eq_true rfl) (t_135_366 477 P x6 (0 : Int32)) (fun v6 => ?_)
        refine tr_blk 1 (pc' := 91) (rows' := kb_83_53.drop 18) (loc' := [.inr (12, 0, 0, 72), .inl (.int x1), .inl (.int x2), .inl (.int x3), .inl (.int x4), .inl (.int x5), .inl (.int x6)]) (st' := [.inl (.int x1), .inl (.int v6), .inl (.int x5)]) (P1 := P) rfl ⟨trivial, trivial⟩ ?_
        refine tr_if (fun h12 => ?_) (fun h12 => ?_)
        · refine tr_icF (cd := .ne) (fun q => q h12) ?_
          refine tr_blk 4 (pc' := 101) (rows' := kb_83_53.drop 23) (loc' := [.inr (12, 0, 0, 72), .inl (.int x1), .inl (.int x2), .inl (.int x3), .inl (.int x4), .inl (.int x5), .inl (.int x6)]) (st' := [.inl (.int (1 : Int32)), .inl (.int x6), .inr (20, 366, 0, 477), .inl (.int x5)]) (P1 := P) rfl ⟨trivial, trivial, trivial, trivial, trivial⟩ ?_
          refine tr_cRI (z := km_135) (av := [.inr (20, 366, 0, 477), .inl (.int x6), .inl (.int (1 : Int32))]) (st' := [.inl (.int x5)]) rfl rfl rfl (Nat.le_of_ble_eq_true rfl) trivial rfl (Nat.le_of_ble_eq_true rfl) (t_135_366 477 P x6 (1 : Int32)) (fun v7 => ?_)
          refine tr_blk 1 (pc' := 106) (rows' := kb_83_53.drop 25) (loc' := [.inr (12, 0, 0, 72), .inl (.int x1), .inl (.int x2), .inl (.int x3), .inl (.int x4), .inl (.int x5), .inl (.int x6)]) (st' := [.inl (.int x4), .inl (.int v7), .inl (.int x5)]) (P1 := P) rfl ⟨trivial, trivial⟩ ?_
          refine tr_if (fun h13 => ?_) (fun h13 => ?_)
          · refine tr_icF (cd := .ne) (fun q => q h13) ?_
            refine tr_blk 4 (pc' := 116) (rows' := kb_83_53.drop 30) (loc' := [.inr (12, 0, 0, 72), .inl (.int x1), .inl (.int x2), .inl (.int x3), .inl (.int x4), .inl (.int x5), .inl (.int x6)]) (st' := [.inl (.int (2 : Int32)), .inl (.int x6), .inr (20, 366, 0, 477), .inl (.int x5)]) (P1 := P) rfl ⟨trivial, trivial, trivial, trivial, trivial⟩ ?_
            refine tr_cRI (z := km_135) (av := [.inr (20, 366, 0, 477), .inl (.int x6), .inl (.int (2 : Int32))]) (st' := [.inl (.int x5)]) rfl rfl rfl (Nat.le_of_ble_eq_true rfl) trivial rfl (Nat.le_of_ble_eq_true rfl) (t_135_366 477 P x6 (2 : Int32)) (fun v8 => ?_)
            refine tr_goto ?_
            refine tr_nil (rows2 := kb_83_123) rfl (List.cons_ne_nil _ _) ?_
            refine tr_blk 3 (pc' := 129) (rows' := kb_83_123.drop 3) (loc' := [.inr (12, 0, 0, 72), .inl (.int x1), .inl (.int x2), .inl (.int x3), .inl (.int x4), .inl (.int (x5 + v8)), .inl (.int (x6 + 1))]) (st' := []) (P1 := P) rfl ⟨trivial, trivial, trivial, trivial⟩ ?_
            refine tr_goto ?_
            exact ih x1 x2 x3 x4 (x5 + v8) (x6 + 1) P
          · refine tr_icT (cd := .ne) h13 ?_
            refine tr_nil (rows2 := kb_83_122) rfl (List.cons_ne_nil _ _) ?_
            refine tr_blk 1 (pc' := 123) (rows' := kb_83_122.drop 1) (loc' := [.inr (12, 0, 0, 72), .inl (.int x1), .inl (.int x2), .inl (.int x3), .inl (.int x4), .inl (.int x5), .inl (.int x6)]) (st' := [.inl (.int (0 : Int32)), .inl (.int x5)]) (P1 := P) rfl ⟨trivial, trivial⟩ ?_
            refine tr_nil (rows2 := kb_83_123) rfl (List.cons_ne_nil _ _) ?_
            refine tr_blk 3 (pc' := 129) (rows' := kb_83_123.drop 3) (loc' := [.inr (12, 0, 0, 72), .inl (.int x1), .inl (.int x2), .inl (.int x3), .inl (.int x4), .inl (.int (x5 + (0 : Int32))), .inl (.int (x6 + 1))]) (st' := []) (P1 := P) rfl ⟨trivial, trivial, trivial, trivial⟩ ?_
            refine tr_goto ?_
            exact ih x1 x2 x3 x4 (x5 + (0 : Int32)) (x6 + 1) P
        · refine tr_icT (cd := .ne) h12 ?_
          refine tr_nil (rows2 := kb_83_122) rfl (List.cons_ne_nil _ _) ?_
          refine tr_blk 1 (pc' := 123) (rows' := kb_83_122.drop 1) (loc' := [.inr (12, 0, 0, 72), .inl (.int x1), .inl (.int x2), .inl (.int x3), .inl (.int x4), .inl (.int x5), .inl (.int x6)]) (st' := [.inl (.int (0 : Int32)), .inl (.int x5)]) (P1 := P) rfl ⟨trivial, trivial⟩ ?_
          refine tr_nil (rows2 := kb_83_123) rfl (List.cons_ne_nil _ _) ?_
          refine tr_blk 3 (pc' := 129) (rows' := kb_83_123.drop 3) (loc' := [.inr (12, 0, 0, 72), .inl (.int x1), .inl (.int x2), .inl (.int x3), .inl (.int x4), .inl (.int (x5 + (0 : Int32))), .inl (.int (x6 + 1))]) (st' := []) (P1 := P) rfl ⟨trivial, trivial, trivial, trivial⟩ ?_
          refine tr_goto ?_
          exact ih x1 x2 x3 x4 (x5 + (0 : Int32)) (x6 + 1) P
    · refine tr_icT (cd := .ge) (Int32.not_lt.mp h9) ?_
      refine tr_nil (rows2 := kb_83_132) rfl (List.cons_ne_nil _ _) ?_
      refine tr_blk 2 (pc' := 135) (rows' := kb_83_132.drop 2) (loc' := [.inr (12, 0, 0, 72), .inl (.int x1), .inl (.int x2), .inl (.int x3), .inl (.int x4), .inl (.int x5), .inl (.int x6)]) (st' := [.inl (.int x3), .inl (.int x5)]) (P1 := P) rfl ⟨trivial, trivial, trivial⟩ ?_
      refine tr_if (fun h10 => ?_) (fun h10 => ?_)
      · refine tr_icT (cd := .gt) h10 ?_
        refine tr_nil (rows2 := kb_83_141) rfl (List.cons_ne_nil _ _) ?_
        refine tr_blk 4 (pc' := 147) (rows' := kb_83_141.drop 4) (loc' := [.inr (12, 0, 0, 72), .inl (.int x1), .inl (.int x4), .inl (.int x5), .inl (.int x4), .inl (.int x5), .inl (.int x6)]) (st' := []) (P1 := P) rfl ⟨trivial, trivial, trivial, trivial, trivial⟩ ?_
        refine tr_nil (rows2 := kb_83_147) rfl (List.cons_ne_nil _ _) ?_
        refine tr_blk 1 (pc' := 150) (rows' := kb_83_147.drop 1) (loc' := [.inr (12, 0, 0, 72), .inl (.int x1), .inl (.int x4), .inl (.int x5), .inl (.int (x4 + 1)), .inl (.int x5), .inl (.int x6)]) (st' := []) (P1 := P) rfl ⟨trivial, trivial⟩ ?_
        refine tr_goto ?_
        exact hH36 x1 x4 x5 (x4 + 1) (.inl (.int x5)) (.inl (.int x6)) P
      · refine tr_icF (cd := .gt) h10 ?_
        refine tr_goto ?_
        refine tr_nil (rows2 := kb_83_147) rfl (List.cons_ne_nil _ _) ?_
        refine tr_blk 1 (pc' := 150) (rows' := kb_83_147.drop 1) (loc' := [.inr (12, 0, 0, 72), .inl (.int x1), .inl (.int x2), .inl (.int x3), .inl (.int (x4 + 1)), .inl (.int x5), .inl (.int x6)]) (st' := []) (P1 := P) rfl ⟨trivial, trivial⟩ ?_
        refine tr_goto ?_
        exact hH36 x1 x2 x3 (x4 + 1) (.inl (.int x5)) (.inl (.int x6)) P
def f_83_36 (N : Nat) : Nat → Int32 → Int32 → Int32 → Int32 → ab_P → Option (Int32 × ab_P)
  | 0, _, _, _, _, _ => none
  | n + 1, x1, x2, x3, x4, P =>
    if x4 < (P.1 76 0) then
      f_83_53 (fun y0 y1 y2 y3 y4 => f_83_36 N n y0 y1 y2 y3 y4) N x1 x2 x3 x4 (0 : Int32) (0 : Int32) P
    else
    some (x2, P)
theorem t_83_36 {xs : Nat × (Nat → Int32)} {d : Nat} (N : Nat) : ∀ n : Nat, ∀ (x1 : Int32) (x2 : Int32) (x3 : Int32) (x4 : Int32) (d5 : ab_V) (d6 : ab_V) (P : ab_P), ab_tr xs wI (d + 2) 83 36 [] [.inr (12, 0, 0, 72), .inl (.int x1), .inl (.int x2), .inl (.int x3), .inl (.int x4), d5, d6] [] P (f_83_36 N n x1 x2 x3 x4 P) := by
  intro n
  induction n with
  | zero => intro x1 x2 x3 x4 d5 d6 P; exact tr_no
  | succ n ih =>
    intro x1 x2 x3 x4 d5 d6 P
    refine tr_nil (rows2 := kb_83_36) rfl (List.cons_ne_nil _ _) ?_
    refine tr_blk 5 (pc' := 44) (rows' := kb_83_36.drop 5) (loc' := [.inr (12, 0, 0, 72), .inl (.int x1), .inl (.int x2), .inl (.int x3), .inl (.int x4), d5, d6]) (st' := [.inl (.int (P.1 76 0)), .inl (.int x4)]) (P1 := P) rfl ⟨trivial, trivial, trivial, trivial, (ab_vi (by decide)), trivial⟩ ?_
    refine tr_if (fun h14 => ?_) (fun h14 => ?_)
    · refine tr_icF (cd := .ge) (Int32.not_le.mpr h14) ?_
      refine tr_blk 4 (pc' := 53) (rows' := kb_83_36.drop 10) (loc' := [.inr (12, 0, 0, 72), .inl (.int x1), .inl (.int x2), .inl (.int x3), .inl (.int x4), .inl (.int (0 : Int32)), .inl (.int (0 : Int32))]) (st' := []) (P1 := P) rfl ⟨trivial, trivial, trivial, trivial, trivial⟩ ?_
      exact t_83_53 _ ih N x1 x2 x3 x4 (0 : Int32) (0 : Int32) P
    · refine tr_icT (cd := .ge) (Int32.not_lt.mp h14) ?_
      refine tr_nil (rows2 := kb_83_153) rfl (List.cons_ne_nil _ _) ?_
      refine tr_blk 1 (pc' := 154) (rows' := kb_83_153.drop 1) (loc' := [.inr (12, 0, 0, 72), .inl (.int x1), .inl (.int x2), .inl (.int x3), .inl (.int x4), d5, d6]) (st' := [.inl (.int x2)]) (P1 := P) rfl ⟨trivial, trivial⟩ ?_
      exact tr_reI (z := km_83) rfl ⟨_, rfl, rfl⟩ rfl
def f_83_19 (N : Nat) (x1 : Int32) (s0 : Int32) (P : ab_P) : Option (Int32 × ab_P) :=
    ab_b2 (f_113 s0 (1 : Int32) (0 : Int32) P) fun v4 P3 =>
    if v4 = (0 : Int32) then
      f_83_36 N N x1 (-1 : Int32) (0 : Int32) (0 : Int32) P3
    else
    some ((0 : Int32), P3)
theorem t_83_19 {xs : Nat × (Nat → Int32)} {d : Nat} (N : Nat) : ∀ (x1 : Int32) (s0 : Int32) (P : ab_P), ab_tr xs wI (d + 2) 83 19 [] [.inr (12, 0, 0, 72), .inl (.int x1), ab_top, ab_top, ab_top, ab_top, ab_top] [.inl (.int s0), .inr (12, 0, 0, 72)] P (f_83_19 N x1 s0 P) := by
  intro x1 s0 P
  unfold f_83_19
  refine tr_nil (rows2 := kb_83_19) rfl (List.cons_ne_nil _ _) ?_
  refine tr_blk 2 (pc' := 21) (rows' := kb_83_19.drop 2) (loc' := [.inr (12, 0, 0, 72), .inl (.int x1), ab_top, ab_top, ab_top, ab_top, ab_top]) (st' := [.inl (.int (0 : Int32)), .inl (.int (1 : Int32)), .inl (.int s0), .inr (12, 0, 0, 72)]) (P1 := P) rfl ⟨trivial, trivial, trivial⟩ ?_
  refine tr_cWI (z := km_113) (av := [.inr (12, 0, 0, 72), .inl (.int s0), .inl (.int (1 : Int32)), .inl (.int (0 : Int32))]) (st' := []) rfl rfl rfl (Nat.le_of_ble_eq_true rfl) ⟨rfl, Or.inl (by decide)⟩ rfl (Nat.le_of_ble_eq_true rfl) (t_113 s0 (1 : Int32) (0 : Int32) P) (fun v4 P3 => ?_)
  refine tr_if (fun h15 => ?_) (fun h15 => ?_)
  · refine tr_ifT (cd := .eq) h15 ?_
    refine tr_nil (rows2 := kb_83_29) rfl (List.cons_ne_nil _ _) ?_
    refine tr_blk 6 (pc' := 36) (rows' := kb_83_29.drop 6) (loc' := [.inr (12, 0, 0, 72), .inl (.int x1), .inl (.int (-1 : Int32)), .inl (.int (0 : Int32)), .inl (.int (0 : Int32)), ab_top, ab_top]) (st' := []) (P1 := P3) rfl ⟨trivial, trivial, trivial, trivial, trivial, trivial, trivial⟩ ?_
    exact t_83_36 N N x1 (-1 : Int32) (0 : Int32) (0 : Int32) (ab_top) (ab_top) P3
  · refine tr_ifF (cd := .eq) h15 ?_
    refine tr_blk 1 (pc' := 28) (rows' := kb_83_19.drop 5) (loc' := [.inr (12, 0, 0, 72), .inl (.int x1), ab_top, ab_top, ab_top, ab_top, ab_top]) (st' := [.inl (.int (0 : Int32))]) (P1 := P3) rfl ⟨trivial, trivial⟩ ?_
    exact tr_reI (z := km_83) rfl ⟨_, rfl, rfl⟩ rfl
def f_83 (N : Nat) (a1 : Int32) (P : ab_P) : Option (Int32 × ab_P) :=
    ab_lt (ab_pI P 72 0 (0 : Int32)) fun P1 =>
    Option.bind (f_137 P1 a1) fun v2 =>
    if v2 = (0 : Int32) then
      f_83_19 N a1 (1 : Int32) P1
    else
    f_83_19 N a1 (0 : Int32) P1
theorem t_83 {xs : Nat × (Nat → Int32)} {d : Nat} (N : Nat) : ∀ (a1 : Int32) (P : ab_P), ab_tr xs wI (d + 2) 83 0 [] [.inr (12, 0, 0, 72), .inl (.int a1), ab_top, ab_top, ab_top, ab_top, ab_top] [] P (f_83 N a1 P) := by
  intro a1 P
  unfold f_83
  refine tr_nil (rows2 := kb_83_0) rfl (List.cons_ne_nil _ _) ?_
  refine tr_blk 3 (pc' := 5) (rows' := kb_83_0.drop 3) (loc' := [.inr (12, 0, 0, 72), .inl (.int a1), ab_top, ab_top, ab_top, ab_top, ab_top]) (st' := []) (P1 := (ab_pI P 72 0 (0 : Int32))) rfl ⟨trivial, trivial, trivial, trivial⟩ ?_
  refine tr_lt (fun P1 => ?_)
  refine tr_blk 3 (pc' := 8) (rows' := kb_83_0.drop 6) (loc' := [.inr (12, 0, 0, 72), .inl (.int a1), ab_top, ab_top, ab_top, ab_top, ab_top]) (st' := [.inl (.int a1), .inr (12, 0, 0, 72), .inr (12, 0, 0, 72)]) (P1 := P1) rfl ⟨trivial, trivial, trivial, trivial⟩ ?_
  refine tr_cRI (z := km_137) (av := [.inr (12, 0, 0, 72), .inl (.int a1)]) (st' := [.inr (12, 0, 0, 72)]) rfl rfl rfl (Nat.le_of_ble_eq_true rfl) ⟨rfl, Or.inl (by decide)⟩ rfl (Nat.le_of_ble_eq_true rfl) (t_137 P1 a1) (fun v2 => ?_)
  refine tr_if (fun h16 => ?_) (fun h16 => ?_)
  · refine tr_ifF (cd := .ne) (fun q => q h16) ?_
    refine tr_blk 1 (pc' := 15) (rows' := kb_83_0.drop 9) (loc' := [.inr (12, 0, 0, 72), .inl (.int a1), ab_top, ab_top, ab_top, ab_top, ab_top]) (st' := [.inl (.int (1 : Int32)), .inr (12, 0, 0, 72)]) (P1 := P1) rfl ⟨trivial, trivial⟩ ?_
    refine tr_goto ?_
    exact t_83_19 N a1 (1 : Int32) P1
  · refine tr_ifT (cd := .ne) h16 ?_
    refine tr_nil (rows2 := kb_83_18) rfl (List.cons_ne_nil _ _) ?_
    refine tr_blk 1 (pc' := 19) (rows' := kb_83_18.drop 1) (loc' := [.inr (12, 0, 0, 72), .inl (.int a1), ab_top, ab_top, ab_top, ab_top, ab_top]) (st' := [.inl (.int (0 : Int32)), .inr (12, 0, 0, 72)]) (P1 := P1) rfl ⟨trivial, trivial⟩ ?_
    exact t_83_19 N a1 (0 : Int32) P1
def f_273 (a1 : Int32) (a2 : Int32) (a3 : Int32) (P : ab_P) : Option ((Unit ⊕ Fin 3) × ab_P) :=
    Option.bind (f_240 P a1 (1 : Int32) (30 : Int32)) fun v1 =>
    if v1 = (0 : Int32) then
      ab_x2 (f_228 (0 : Int32) P) (fun _ P2 =>
      some (.inl (), P2)) (fun q => q)
    else
    Option.bind (f_240 P a2 (0 : Int32) (16 : Int32)) fun v3 =>
    if v3 = (0 : Int32) then
      ab_x2 (f_228 (0 : Int32) P) (fun _ P4 =>
      some (.inl (), P4)) (fun q => q)
    else
    Option.bind (f_240 P a3 (0 : Int32) (16 : Int32)) fun v5 =>
    if v5 = (0 : Int32) then
      ab_x2 (f_228 (0 : Int32) P) (fun _ P6 =>
      some (.inl (), P6)) (fun q => q)
    else
    ab_x2 (f_228 (1 : Int32) P) (fun _ P7 =>
    some (.inl (), P7)) (fun q => q)
theorem t_273 {xs : Nat × (Nat → Int32)} {d : Nat} : ∀ (a1 : Int32) (a2 : Int32) (a3 : Int32) (P : ab_P), ab_tr xs xV (d + 1) 273 0 [] [.inr (11, 0, 0, 0), .inl (.int a1), .inl (.int a2), .inl (.int a3)] [] P (f_273 a1 a2 a3 P) := by
  intro a1 a2 a3 P
  unfold f_273
  refine tr_nil (rows2 := kb_273_0) rfl (List.cons_ne_nil _ _) ?_
  refine tr_blk 4 (pc' := 5) (rows' := kb_273_0.drop 4) (loc' := [.inr (11, 0, 0, 0), .inl (.int a1), .inl (.int a2), .inl (.int a3)]) (st' := [.inl (.int (30 : Int32)), .inl (.int (1 : Int32)), .inl (.int a1), .inr (11, 0, 0, 0)]) (P1 := P) rfl ⟨trivial, trivial, trivial, trivial, trivial⟩ ?_
  refine tr_cRI (z := km_240) (av := [.inl (.int a1), .inl (.int (1 : Int32)), .inl (.int (30 : Int32))]) (st' := [.inr (11, 0, 0, 0)]) rfl rfl rfl (Nat.le_of_ble_eq_true rfl) trivial rfl (Nat.le_of_ble_eq_true rfl) (t_240 P a1 (1 : Int32) (30 : Int32)) (fun v1 => ?_)
  refine tr_if (fun h8 => ?_) (fun h8 => ?_)
  · refine tr_ifT (cd := .eq) h8 ?_
    refine tr_nil (rows2 := kb_273_35) rfl (List.cons_ne_nil _ _) ?_
    refine tr_blk 1 (pc' := 36) (rows' := kb_273_35.drop 1) (loc' := [.inr (11, 0, 0, 0), .inl (.int a1), .inl (.int a2), .inl (.int a3)]) (st' := [.inl (.int (0 : Int32)), .inr (11, 0, 0, 0)]) (P1 := P) rfl ⟨trivial, trivial⟩ ?_
    refine tr_nil (rows2 := kb_273_36) rfl (List.cons_ne_nil _ _) ?_
    refine tr_cax (fun _ => none) (zi := km_273) (fun _ => rfl) (fun _ _ => rfl) rfl rfl (z := km_228) (av := [.inr (11, 0, 0, 0), .inl (.int (0 : Int32))]) (st' := []) rfl rfl rfl (Nat.le_of_ble_eq_true rfl) ⟨rfl, Or.inl (by decide)⟩ rfl (Nat.le_of_ble_eq_true rfl) (t_228 (0 : Int32) P) (fun _ P2 => ?_)
    exact tr_reV (z := km_273) rfl rfl rfl
  · refine tr_ifF (cd := .eq) h8 ?_
    refine tr_blk 3 (pc' := 15) (rows' := kb_273_0.drop 9) (loc' := [.inr (11, 0, 0, 0), .inl (.int a1), .inl (.int a2), .inl (.int a3)]) (st' := [.inl (.int (16 : Int32)), .inl (.int (0 : Int32)), .inl (.int a2), .inr (11, 0, 0, 0)]) (P1 := P) rfl ⟨trivial, trivial, trivial, trivial⟩ ?_
    refine tr_cRI (z := km_240) (av := [.inl (.int a2), .inl (.int (0 : Int32)), .inl (.int (16 : Int32))]) (st' := [.inr (11, 0, 0, 0)]) rfl rfl rfl (Nat.le_of_ble_eq_true rfl) trivial rfl (Nat.le_of_ble_eq_true rfl) (t_240 P a2 (0 : Int32) (16 : Int32)) (fun v3 => ?_)
    refine tr_if (fun h9 => ?_) (fun h9 => ?_)
    · refine tr_ifT (cd := .eq) h9 ?_
      refine tr_nil (rows2 := kb_273_35) rfl (List.cons_ne_nil _ _) ?_
      refine tr_blk 1 (pc' := 36) (rows' := kb_273_35.drop 1) (loc' := [.inr (11, 0, 0, 0), .inl (.int a1), .inl (.int a2), .inl (.int a3)]) (st' := [.inl (.int (0 : Int32)), .inr (11, 0, 0, 0)]) (P1 := P) rfl ⟨trivial, trivial⟩ ?_
      refine tr_nil (rows2 := kb_273_36) rfl (List.cons_ne_nil _ _) ?_
      refine tr_cax (fun _ => none) (zi := km_273) (fun _ => rfl) (fun _ _ => rfl) rfl rfl (z := km_228) (av := [.inr (11, 0, 0, 0), .inl (.int (0 : Int32))]) (st' := []) rfl rfl rfl (Nat.le_of_ble_eq_true rfl) ⟨rfl, Or.inl (by decide)⟩ rfl (Nat.le_of_ble_eq_true rfl) (t_228 (0 : Int32) P) (fun _ P4 => ?_)
      exact tr_reV (z := km_273) rfl rfl rfl
    · refine tr_ifF (cd := .eq) h9 ?_
      refine tr_blk 3 (pc' := 25) (rows' := kb_273_0.drop 14) (loc' := [.inr (11, 0, 0, 0), .inl (.int a1), .inl (.int a2), .inl (.int a3)]) (st' := [.inl (.int (16 : Int32)), .inl (.int (0 : Int32)), .inl (.int a3), .inr (11, 0, 0, 0)]) (P1 := P) rfl ⟨trivial, trivial, trivial, trivial⟩ ?_
      refine tr_cRI (z := km_240) (av := [.inl (.int a3), .inl (.int (0 : Int32)), .inl (.int (16 : Int32))]) (st' := [.inr (11, 0, 0, 0)]) rfl rfl rfl (Nat.le_of_ble_eq_true rfl) trivial rfl (Nat.le_of_ble_eq_true rfl) (t_240 P a3 (0 : Int32) (16 : Int32)) (fun v5 => ?_)
      refine tr_if (fun h10 => ?_) (fun h10 => ?_)
      · refine tr_ifT (cd := .eq) h10 ?_
        refine tr_nil (rows2 := kb_273_35) rfl (List.cons_ne_nil _ _) ?_
        refine tr_blk 1 (pc' := 36) (rows' := kb_273_35.drop 1) (loc' := [.inr (11, 0, 0, 0), .inl (.int a1), .inl (.int a2), .inl (.int a3)]) (st' := [.inl (.int (0 : Int32)), .inr (11, 0, 0, 0)]) (P1 := P) rfl ⟨trivial, trivial⟩ ?_
        refine tr_nil (rows2 := kb_273_36) rfl (List.cons_ne_nil _ _) ?_
        refine tr_cax (fun _ => none) (zi := km_273) (fun _ => rfl) (fun _ _ => rfl) rfl rfl (z := km_228) (av := [.inr (11, 0, 0, 0), .inl (.int (0 : Int32))]) (st' := []) rfl rfl rfl (Nat.le_of_ble_eq_true rfl) ⟨rfl, Or.inl (by decide)⟩ rfl (Nat.le_of_ble_eq_true rfl) (t_228 (0 : Int32) P) (fun _ P6 => ?_)
        exact tr_reV (z := km_273) rfl rfl rfl
      · refine tr_ifF (cd := .eq) h10 ?_
        refine tr_blk 1 (pc' := 32) (rows' := kb_273_0.drop 17) (loc' := [.inr (11, 0, 0, 0), .inl (.int a1), .inl (.int a2), .inl (.int a3)]) (st' := [.inl (.int (1 : Int32)), .inr (11, 0, 0, 0)]) (P1 := P) rfl ⟨trivial, trivial⟩ ?_
        refine tr_goto ?_
        refine tr_nil (rows2 := kb_273_36) rfl (List.cons_ne_nil _ _) ?_
        refine tr_cax (fun _ => none) (zi := km_273) (fun _ => rfl) (fun _ _ => rfl) rfl rfl (z := km_228) (av := [.inr (11, 0, 0, 0), .inl (.int (1 : Int32))]) (st' := []) rfl rfl rfl (Nat.le_of_ble_eq_true rfl) ⟨rfl, Or.inl (by decide)⟩ rfl (Nat.le_of_ble_eq_true rfl) (t_228 (1 : Int32) P) (fun _ P7 => ?_)
        exact tr_reV (z := km_273) rfl rfl rfl
def f_316 (a1 : Int32) (P : ab_P) : Option (Int32 × ab_P) :=
    ab_lt (ab_pI P 61 3 (((P.1 61 3) * (1103515245 : Int32)) + (12345 : Int32))) fun P1 =>
    if (0 : Int32) < a1 then
      if ¬ a1 = 0 then
      some ((((((P1.1 61 3)).toUInt32 >>> (((16 : Int32)).toUInt32 &&& Int32.toUInt32 31)).toInt32 &&& (32767 : Int32)) - ((((P1.1 61 3)).toUInt32 >>> (((16 : Int32)).toUInt32 &&& Int32.toUInt32 31)).toInt32 &&& (32767 : Int32)) / a1 * a1), P1)
      else none
    else
    some ((0 : Int32), P1)
theorem t_316 {xs : Nat × (Nat → Int32)} {d : Nat} : ∀ (a1 : Int32) (P : ab_P), ab_tr xs wI (d + 0) 316 0 [] [.inr (7, 0, 0, 61), .inl (.int a1), ab_top] [] P (f_316 a1 P) := by
  intro a1 P
  unfold f_316
  refine tr_nil (rows2 := kb_316_0) rfl (List.cons_ne_nil _ _) ?_
  refine tr_blk 8 (pc' := 15) (rows' := kb_316_0.drop 8) (loc' := [.inr (7, 0, 0, 61), .inl (.int a1), ab_top]) (st' := []) (P1 := (ab_pI P 61 3 (((P.1 61 3) * (1103515245 : Int32)) + (12345 : Int32)))) rfl ⟨trivial, trivial, trivial, trivial, trivial, trivial, trivial, trivial, trivial⟩ ?_
  refine tr_lt (fun P1 => ?_)
  refine tr_blk 8 (pc' := 28) (rows' := kb_316_0.drop 16) (loc' := [.inr (7, 0, 0, 61), .inl (.int a1), .inl (.int ((((P1.1 61 3)).toUInt32 >>> (((16 : Int32)).toUInt32 &&& Int32.toUInt32 31)).toInt32 &&& (32767 : Int32)))]) (st' := [.inl (.int a1)]) (P1 := P1) rfl ⟨trivial, trivial, trivial, trivial, trivial, trivial, trivial, trivial, trivial⟩ ?_
  refine tr_if (fun h3 => ?_) (fun h3 => ?_)
  · refine tr_ifF (cd := .le) (Int32.not_le.mpr h3) ?_
    refine tr_gd (fun h2 => ?_)
    refine tr_blk 3 (pc' := 34) (rows' := kb_316_0.drop 20) (loc' := [.inr (7, 0, 0, 61), .inl (.int a1), .inl (.int ((((P1.1 61 3)).toUInt32 >>> (((16 : Int32)).toUInt32 &&& Int32.toUInt32 31)).toInt32 &&& (32767 : Int32)))]) (st' := [.inl (.int (((((P1.1 61 3)).toUInt32 >>> (((16 : Int32)).toUInt32 &&& Int32.toUInt32 31)).toInt32 &&& (32767 : Int32)) - ((((P1.1 61 3)).toUInt32 >>> (((16 : Int32)).toUInt32 &&& Int32.toUInt32 31)).toInt32 &&& (32767 : Int32)) / a1 * a1))]) (P1 := P1) rfl ⟨trivial, trivial, h2, trivial⟩ ?_
    refine tr_goto ?_
    refine tr_nil (rows2 := kb_316_38) rfl (List.cons_ne_nil _ _) ?_
    exact tr_reI (z := km_316) rfl ⟨_, rfl, rfl⟩ rfl
  · refine tr_ifT (cd := .le) (Int32.not_lt.mp h3) ?_
    refine tr_nil (rows2 := kb_316_37) rfl (List.cons_ne_nil _ _) ?_
    refine tr_blk 1 (pc' := 38) (rows' := kb_316_37.drop 1) (loc' := [.inr (7, 0, 0, 61), .inl (.int a1), .inl (.int ((((P1.1 61 3)).toUInt32 >>> (((16 : Int32)).toUInt32 &&& Int32.toUInt32 31)).toInt32 &&& (32767 : Int32)))]) (st' := [.inl (.int (0 : Int32))]) (P1 := P1) rfl ⟨trivial, trivial⟩ ?_
    refine tr_nil (rows2 := kb_316_38) rfl (List.cons_ne_nil _ _) ?_
    exact tr_reI (z := km_316) rfl ⟨_, rfl, rfl⟩ rfl
def f_346_4 (i0 : Nat) (P : ab_P) : Nat → Int32 → Int32 → Option Int32
  | 0, _, _ => none
  | n + 1, x1, x2 =>
    if x2 < (P.1 i0 2) then
      Option.bind (f_263 i0 P x2) fun v1 =>
      if v1 = (0 : Int32) then
        f_346_4 i0 P n x1 (x2 + 1)
      else
      if x1 = (-1 : Int32) then
        f_346_4 i0 P n x2 (x2 + 1)
      else
      Option.bind (f_231 i0 P (2 : Int32) x2) fun v2 =>
      Option.bind (f_231 i0 P (2 : Int32) x1) fun v3 =>
      if v3 < v2 then
        f_346_4 i0 P n x2 (x2 + 1)
      else
      f_346_4 i0 P n x1 (x2 + 1)
    else
    some x1
theorem t_346_4 {xs : Nat × (Nat → Int32)} {d : Nat} (i0 : Nat) (P : ab_P) : ∀ n : Nat, ∀ (x1 : Int32) (x2 : Int32), ab_tr xs (rI P) (d + 2) 346 4 [] [.inr (6, 0, 0, i0), .inl (.int x1), .inl (.int x2)] [] P (f_346_4 i0 P n x1 x2) := by
  intro n
  induction n with
  | zero => intro x1 x2; exact tr_no
  | succ n ih =>
    intro x1 x2
    refine tr_nil (rows2 := kb_346_4) rfl (List.cons_ne_nil _ _) ?_
    refine tr_blk 3 (pc' := 9) (rows' := kb_346_4.drop 3) (loc' := [.inr (6, 0, 0, i0), .inl (.int x1), .inl (.int x2)]) (st' := [.inl (.int (P.1 i0 2)), .inl (.int x2)]) (P1 := P) rfl ⟨trivial, trivial, trivial, trivial⟩ ?_
    refine tr_if (fun h4 => ?_) (fun h4 => ?_)
    · refine tr_icF (cd := .ge) (Int32.not_le.mpr h4) ?_
      refine tr_blk 2 (pc' := 14) (rows' := kb_346_4.drop 6) (loc' := [.inr (6, 0, 0, i0), .inl (.int x1), .inl (.int x2)]) (st' := [.inl (.int x2), .inr (6, 0, 0, i0)]) (P1 := P) rfl ⟨trivial, trivial, trivial⟩ ?_
      refine tr_cRI (z := km_263) (av := [.inr (6, 0, 0, i0), .inl (.int x2)]) (st' := []) rfl rfl rfl (Nat.le_of_ble_eq_true rfl) ⟨rfl, Or.inl (by decide)⟩ rfl (Nat.le_of_ble_eq_true rfl) (t_263 i0 P x2) (fun v1 => ?_)
      refine tr_if (fun h5 => ?_) (fun h5 => ?_)
      · refine tr_ifT (cd := .eq) h5 ?_
        refine tr_nil (rows2 := kb_346_42) rfl (List.cons_ne_nil _ _) ?_
        refine tr_blk 1 (pc' := 45) (rows' := kb_346_42.drop 1) (loc' := [.inr (6, 0, 0, i0), .inl (.int x1), .inl (.int (x2 + 1))]) (st' := []) (P1 := P) rfl ⟨trivial, trivial⟩ ?_
        refine tr_goto ?_
        exact ih x1 (x2 + 1)
      · refine tr_ifF (cd := .eq) h5 ?_
        refine tr_blk 2 (pc' := 22) (rows' := kb_346_4.drop 10) (loc' := [.inr (6, 0, 0, i0), .inl (.int x1), .inl (.int x2)]) (st' := [.inl (.int (-1 : Int32)), .inl (.int x1)]) (P1 := P) rfl ⟨trivial, trivial, trivial⟩ ?_
        refine tr_if (fun h6 => ?_) (fun h6 => ?_)
        · refine tr_icT (cd := .eq) h6 ?_
          refine tr_nil (rows2 := kb_346_40) rfl (List.cons_ne_nil _ _) ?_
          refine tr_blk 2 (pc' := 42) (rows' := kb_346_40.drop 2) (loc' := [.inr (6, 0, 0, i0), .inl (.int x2), .inl (.int x2)]) (st' := []) (P1 := P) rfl ⟨trivial, trivial, trivial⟩ ?_
          refine tr_nil (rows2 := kb_346_42) rfl (List.cons_ne_nil _ _) ?_
          refine tr_blk 1 (pc' := 45) (rows' := kb_346_42.drop 1) (loc' := [.inr (6, 0, 0, i0), .inl (.int x2), .inl (.int (x2 + 1))]) (st' := []) (P1 := P) rfl ⟨trivial, trivial⟩ ?_
          refine tr_goto ?_
          exact ih x2 (x2 + 1)
        · refine tr_icF (cd := .eq) h6 ?_
          refine tr_blk 3 (pc' := 28) (rows' := kb_346_4.drop 14) (loc' := [.inr (6, 0, 0, i0), .inl (.int x1), .inl (.int x2)]) (st' := [.inl (.int x2), .inl (.int (2 : Int32)), .inr (6, 0, 0, i0)]) (P1 := P) rfl ⟨trivial, trivial, trivial, trivial⟩ ?_
          refine tr_cRI (z := km_231) (av := [.inr (6, 0, 0, i0), .inl (.int (2 : Int32)), .inl (.int x2)]) (st' := []) rfl rfl rfl (Nat.le_of_ble_eq_true rfl) ⟨rfl, Or.inl (by decide)⟩ rfl (Nat.le_of_ble_eq_true rfl) (t_231 i0 P (2 : Int32) x2) (fun v2 => ?_)
          refine tr_blk 3 (pc' := 34) (rows' := kb_346_4.drop 18) (loc' := [.inr (6, 0, 0, i0), .inl (.int x1), .inl (.int x2)]) (st' := [.inl (.int x1), .inl (.int (2 : Int32)), .inr (6, 0, 0, i0), .inl (.int v2)]) (P1 := P) rfl ⟨trivial, trivial, trivial, trivial⟩ ?_
          refine tr_cRI (z := km_231) (av := [.inr (6, 0, 0, i0), .inl (.int (2 : Int32)), .inl (.int x1)]) (st' := [.inl (.int v2)]) rfl rfl rfl (Nat.le_of_ble_eq_true rfl) ⟨rfl, Or.inl (by decide)⟩ rfl (Nat.le_of_ble_eq_true rfl) (t_231 i0 P (2 : Int32) x1) (fun v3 => ?_)
          refine tr_if (fun h7 => ?_) (fun h7 => ?_)
          · refine tr_icF (cd := .le) (Int32.not_le.mpr h7) ?_
            refine tr_nil (rows2 := kb_346_40) rfl (List.cons_ne_nil _ _) ?_
            refine tr_blk 2 (pc' := 42) (rows' := kb_346_40.drop 2) (loc' := [.inr (6, 0, 0, i0), .inl (.int x2), .inl (.int x2)]) (st' := []) (P1 := P) rfl ⟨trivial, trivial, trivial⟩ ?_
            refine tr_nil (rows2 := kb_346_42) rfl (List.cons_ne_nil _ _) ?_
            refine tr_blk 1 (pc' := 45) (rows' := kb_346_42.drop 1) (loc' := [.inr (6, 0, 0, i0), .inl (.int x2), .inl (.int (x2 + 1))]) (st' := []) (P1 := P) rfl ⟨trivial, trivial⟩ ?_
            refine tr_goto ?_
            exact ih x2 (x2 + 1)
          · refine tr_icT (cd := .le) (Int32.not_lt.mp h7) ?_
            refine tr_nil (rows2 := kb_346_42) rfl (List.cons_ne_nil _ _) ?_
            refine tr_blk 1 (pc' := 45) (rows' := kb_346_42.drop 1) (loc' := [.inr (6, 0, 0, i0), .inl (.int x1), .inl (.int (x2 + 1))]) (st' := []) (P1 := P) rfl ⟨trivial, trivial⟩ ?_
            refine tr_goto ?_
            exact ih x1 (x2 + 1)
    · refine tr_icT (cd := .ge) (Int32.not_lt.mp h4) ?_
      refine tr_nil (rows2 := kb_346_48) rfl (List.cons_ne_nil _ _) ?_
      refine tr_blk 1 (pc' := 49) (rows' := kb_346_48.drop 1) (loc' := [.inr (6, 0, 0, i0), .inl (.int x1), .inl (.int x2)]) (st' := [.inl (.int x1)]) (P1 := P) rfl ⟨trivial, trivial⟩ ?_
      exact tr_reI (z := km_346) rfl ⟨_, rfl, rfl⟩ rfl
def f_346 (i0 : Nat) (N : Nat) (P : ab_P) : Option Int32 :=
    f_346_4 i0 P N (-1 : Int32) (0 : Int32)
theorem t_346 {xs : Nat × (Nat → Int32)} {d : Nat} (i0 : Nat) (N : Nat) (P : ab_P) : ab_tr xs (rI P) (d + 2) 346 0 [] [.inr (6, 0, 0, i0), ab_top, ab_top] [] P (f_346 i0 N P) := by
  unfold f_346
  refine tr_nil (rows2 := kb_346_0) rfl (List.cons_ne_nil _ _) ?_
  refine tr_blk 4 (pc' := 4) (rows' := kb_346_0.drop 4) (loc' := [.inr (6, 0, 0, i0), .inl (.int (-1 : Int32)), .inl (.int (0 : Int32))]) (st' := []) (P1 := P) rfl ⟨trivial, trivial, trivial, trivial, trivial⟩ ?_
  exact t_346_4 i0 P N (-1 : Int32) (0 : Int32)
def f_318 (N : Nat) (P : ab_P) : Option ab_P :=
    Option.bind (f_346 62 N P) fun v1 =>
    ab_b2 (f_339 62 v1 (2 : Int32) P) fun v3 P2 =>
    if v3 = (0 : Int32) then
      some P2
    else
    Option.bind (f_231 62 P2 (2 : Int32) v1) fun v4 =>
    ab_lt (ab_pI P2 61 4 ((P2.1 61 4) + v4)) fun P5 =>
    some P5
theorem t_318 {xs : Nat × (Nat → Int32)} {d : Nat} (N : Nat) : ∀ (P : ab_P), ab_tr xs wV (d + 3) 318 0 [] [.inr (7, 0, 0, 61), ab_top] [] P (f_318 N P) := by
  intro P
  unfold f_318
  refine tr_nil (rows2 := kb_318_0) rfl (List.cons_ne_nil _ _) ?_
  refine tr_blk 2 (pc' := 4) (rows' := kb_318_0.drop 2) (loc' := [.inr (7, 0, 0, 61), ab_top]) (st' := [.inr (6, 0, 0, 62)]) (P1 := P) rfl ⟨trivial, trivial, trivial⟩ ?_
  refine tr_cRI (z := km_346) (av := [.inr (6, 0, 0, 62)]) (st' := []) rfl rfl rfl (Nat.le_of_ble_eq_true rfl) ⟨rfl, Or.inl (by decide)⟩ rfl (Nat.le_of_ble_eq_true rfl) (t_346 62 N P) (fun v1 => ?_)
  refine tr_blk 5 (pc' := 14) (rows' := kb_318_0.drop 8) (loc' := [.inr (7, 0, 0, 61), .inl (.int v1)]) (st' := [.inl (.int (2 : Int32)), .inl (.int v1), .inr (6, 0, 0, 62)]) (P1 := P) rfl ⟨trivial, trivial, trivial, trivial, trivial, trivial⟩ ?_
  refine tr_cWI (z := km_339) (av := [.inr (6, 0, 0, 62), .inl (.int v1), .inl (.int (2 : Int32))]) (st' := []) rfl rfl rfl (Nat.le_of_ble_eq_true rfl) ⟨rfl, Or.inl (by decide)⟩ rfl (Nat.le_of_ble_eq_true rfl) (t_339 62 v1 (2 : Int32) P) (fun v3 P2 => ?_)
  refine tr_if (fun h6 => ?_) (fun h6 => ?_)
  · refine tr_ifT (cd := .eq) h6 ?_
    refine tr_nil (rows2 := kb_318_38) rfl (List.cons_ne_nil _ _) ?_
    exact tr_reV (z := km_318) rfl rfl rfl
  · refine tr_ifF (cd := .eq) h6 ?_
    refine tr_blk 7 (pc' := 31) (rows' := kb_318_0.drop 17) (loc' := [.inr (7, 0, 0, 61), .inl (.int v1)]) (st' := [.inl (.int v1), .inl (.int (2 : Int32)), .inr (6, 0, 0, 62), .inl (.int (P2.1 61 4)), .inr (7, 0, 0, 61)]) (P1 := P2) rfl ⟨trivial, trivial, trivial, trivial, trivial, trivial, trivial, trivial⟩ ?_
    refine tr_cRI (z := km_231) (av := [.inr (6, 0, 0, 62), .inl (.int (2 : Int32)), .inl (.int v1)]) (st' := [.inl (.int (P2.1 61 4)), .inr (7, 0, 0, 61)]) rfl rfl rfl (Nat.le_of_ble_eq_true rfl) ⟨rfl, Or.inl (by decide)⟩ rfl (Nat.le_of_ble_eq_true rfl) (t_231 62 P2 (2 : Int32) v1) (fun v4 => ?_)
    refine tr_blk 2 (pc' := 38) (rows' := kb_318_0.drop 20) (loc' := [.inr (7, 0, 0, 61), .inl (.int v1)]) (st' := []) (P1 := (ab_pI P2 61 4 ((P2.1 61 4) + v4))) rfl ⟨trivial, trivial, trivial⟩ ?_
    refine tr_lt (fun P5 => ?_)
    refine tr_nil (rows2 := kb_318_38) rfl (List.cons_ne_nil _ _) ?_
    exact tr_reV (z := km_318) rfl rfl rfl
def f_317 (a1 : Int32) (P : ab_P) : Option ab_P :=
    ab_b2 (f_316 ((P.1 3 5) - (1 : Int32)) P) fun v2 P1 =>
    ab_b2 (f_316 (9 : Int32) P1) fun v4 P3 =>
    if (a1 + (v2 + (1 : Int32))) < (P3.1 3 5) then
      ab_b2 (f_285 62 a1 (a1 + (v2 + (1 : Int32))) (v4 + (1 : Int32)) (1 : Int32) P3) fun v8 P7 =>
      some P7
    else
    ab_b2 (f_285 62 a1 ((a1 + (v2 + (1 : Int32))) - (P3.1 3 5)) (v4 + (1 : Int32)) (1 : Int32) P3) fun v6 P5 =>
    some P5
theorem t_317 {xs : Nat × (Nat → Int32)} {d : Nat} : ∀ (a1 : Int32) (P : ab_P), ab_tr xs wV (d + 2) 317 0 [] [.inr (7, 0, 0, 61), .inl (.int a1), ab_top, ab_top, ab_top] [] P (f_317 a1 P) := by
  intro a1 P
  unfold f_317
  refine tr_nil (rows2 := kb_317_0) rfl (List.cons_ne_nil _ _) ?_
  refine tr_blk 6 (pc' := 10) (rows' := kb_317_0.drop 6) (loc' := [.inr (7, 0, 0, 61), .inl (.int a1), ab_top, ab_top, ab_top]) (st' := [.inl (.int ((P.1 3 5) - (1 : Int32))), .inr (7, 0, 0, 61)]) (P1 := P) rfl ⟨trivial, trivial, trivial, trivial, trivial, trivial, trivial⟩ ?_
  refine tr_cWI (z := km_316) (av := [.inr (7, 0, 0, 61), .inl (.int ((P.1 3 5) - (1 : Int32)))]) (st' := []) rfl rfl rfl (Nat.le_of_ble_eq_true rfl) ⟨rfl, Or.inl (by decide)⟩ rfl (Nat.le_of_ble_eq_true rfl) (t_316 ((P.1 3 5) - (1 : Int32)) P) (fun v2 P1 => ?_)
  refine tr_blk 5 (pc' := 19) (rows' := kb_317_0.drop 12) (loc' := [.inr (7, 0, 0, 61), .inl (.int a1), .inl (.int (v2 + (1 : Int32))), ab_top, ab_top]) (st' := [.inl (.int (9 : Int32)), .inr (7, 0, 0, 61)]) (P1 := P1) rfl ⟨trivial, trivial, trivial, trivial, trivial, trivial⟩ ?_
  refine tr_cWI (z := km_316) (av := [.inr (7, 0, 0, 61), .inl (.int (9 : Int32))]) (st' := []) rfl rfl rfl (Nat.le_of_ble_eq_true rfl) ⟨rfl, Or.inl (by decide)⟩ rfl (Nat.le_of_ble_eq_true rfl) (t_316 (9 : Int32) P1) (fun v4 P3 => ?_)
  refine tr_blk 9 (pc' := 35) (rows' := kb_317_0.drop 22) (loc' := [.inr (7, 0, 0, 61), .inl (.int a1), .inl (.int (v2 + (1 : Int32))), .inl (.int (v4 + (1 : Int32))), ab_top]) (st' := [.inl (.int (P3.1 3 5)), .inl (.int (a1 + (v2 + (1 : Int32))))]) (P1 := P3) rfl ⟨trivial, trivial, trivial, trivial, trivial, trivial, trivial, trivial, trivial, trivial⟩ ?_
  refine tr_if (fun h9 => ?_) (fun h9 => ?_)
  · refine tr_icF (cd := .ge) (Int32.not_le.mpr h9) ?_
    refine tr_blk 3 (pc' := 41) (rows' := kb_317_0.drop 26) (loc' := [.inr (7, 0, 0, 61), .inl (.int a1), .inl (.int (v2 + (1 : Int32))), .inl (.int (v4 + (1 : Int32))), ab_top]) (st' := [.inl (.int (a1 + (v2 + (1 : Int32))))]) (P1 := P3) rfl ⟨trivial, trivial, trivial, trivial⟩ ?_
    refine tr_goto ?_
    refine tr_nil (rows2 := kb_317_55) rfl (List.cons_ne_nil _ _) ?_
    refine tr_blk 7 (pc' := 66) (rows' := kb_317_55.drop 7) (loc' := [.inr (7, 0, 0, 61), .inl (.int a1), .inl (.int (v2 + (1 : Int32))), .inl (.int (v4 + (1 : Int32))), .inl (.int (a1 + (v2 + (1 : Int32))))]) (st' := [.inl (.int (1 : Int32)), .inl (.int (v4 + (1 : Int32))), .inl (.int (a1 + (v2 + (1 : Int32)))), .inl (.int a1), .inr (6, 0, 0, 62)]) (P1 := P3) rfl ⟨trivial, trivial, trivial, trivial, trivial, trivial, trivial, trivial⟩ ?_
    refine tr_cWI (z := km_285) (av := [.inr (6, 0, 0, 62), .inl (.int a1), .inl (.int (a1 + (v2 + (1 : Int32)))), .inl (.int (v4 + (1 : Int32))), .inl (.int (1 : Int32))]) (st' := []) rfl rfl rfl (Nat.le_of_ble_eq_true rfl) ⟨rfl, Or.inl (by decide)⟩ rfl (Nat.le_of_ble_eq_true rfl) (t_285 62 a1 (a1 + (v2 + (1 : Int32))) (v4 + (1 : Int32)) (1 : Int32) P3) (fun v8 P7 => ?_)
    refine tr_blk 1 (pc' := 70) (rows' := kb_317_55.drop 9) (loc' := [.inr (7, 0, 0, 61), .inl (.int a1), .inl (.int (v2 + (1 : Int32))), .inl (.int (v4 + (1 : Int32))), .inl (.int (a1 + (v2 + (1 : Int32))))]) (st' := []) (P1 := P7) rfl ⟨trivial, trivial⟩ ?_
    exact tr_reV (z := km_317) rfl rfl rfl
  · refine tr_icT (cd := .ge) (Int32.not_lt.mp h9) ?_
    refine tr_nil (rows2 := kb_317_44) rfl (List.cons_ne_nil _ _) ?_
    refine tr_blk 7 (pc' := 55) (rows' := kb_317_44.drop 7) (loc' := [.inr (7, 0, 0, 61), .inl (.int a1), .inl (.int (v2 + (1 : Int32))), .inl (.int (v4 + (1 : Int32))), ab_top]) (st' := [.inl (.int ((a1 + (v2 + (1 : Int32))) - (P3.1 3 5)))]) (P1 := P3) rfl ⟨trivial, trivial, trivial, trivial, trivial, trivial, trivial, trivial⟩ ?_
    refine tr_nil (rows2 := kb_317_55) rfl (List.cons_ne_nil _ _) ?_
    refine tr_blk 7 (pc' := 66) (rows' := kb_317_55.drop 7) (loc' := [.inr (7, 0, 0, 61), .inl (.int a1), .inl (.int (v2 + (1 : Int32))), .inl (.int (v4 + (1 : Int32))), .inl (.int ((a1 + (v2 + (1 : Int32))) - (P3.1 3 5)))]) (st' := [.inl (.int (1 : Int32)), .inl (.int (v4 + (1 : Int32))), .inl (.int ((a1 + (v2 + (1 : Int32))) - (P3.1 3 5))), .inl (.int a1), .inr (6, 0, 0, 62)]) (P1 := P3) rfl ⟨trivial, trivial, trivial, trivial, trivial, trivial, trivial, trivial⟩ ?_
    refine tr_cWI (z := km_285) (av := [.inr (6, 0, 0, 62), .inl (.int a1), .inl (.int ((a1 + (v2 + (1 : Int32))) - (P3.1 3 5))), .inl (.int (v4 + (1 : Int32))), .inl (.int (1 : Int32))]) (st' := []) rfl rfl rfl (Nat.le_of_ble_eq_true rfl) ⟨rfl, Or.inl (by decide)⟩ rfl (Nat.le_of_ble_eq_true rfl) (t_285 62 a1 ((a1 + (v2 + (1 : Int32))) - (P3.1 3 5)) (v4 + (1 : Int32)) (1 : Int32) P3) (fun v6 P5 => ?_)
    refine tr_blk 1 (pc' := 70) (rows' := kb_317_55.drop 9) (loc' := [.inr (7, 0, 0, 61), .inl (.int a1), .inl (.int (v2 + (1 : Int32))), .inl (.int (v4 + (1 : Int32))), .inl (.int ((a1 + (v2 + (1 : Int32))) - (P3.1 3 5)))]) (st' := []) (P1 := P5) rfl ⟨trivial, trivial⟩ ?_
    exact tr_reV (z := km_317) rfl rfl rfl
def f_274_46 (N : Nat) (H24 : Int32 → Int32 → Int32 → Int32 → ab_P → Option ab_P) : Nat → Int32 → Int32 → Int32 → Int32 → Int32 → ab_P → Option ab_P
  | 0, _, _, _, _, _, _ => none
  | n + 1, x2, x3, x4, x5, x6, P =>
    if x6 < (P.1 3 5) then
      ab_b2 (f_316 (16 : Int32) P) fun v9 P8 =>
      if v9 < x3 then
        if (1 : Int32) < (P8.1 3 5) then
          Option.bind (f_317 x6 P8) fun P10 =>
          f_274_46 N H24 n x2 x3 x4 x5 (x6 + 1) P10
        else
        f_274_46 N H24 n x2 x3 x4 x5 (x6 + 1) P8
      else
      f_274_46 N H24 n x2 x3 x4 x5 (x6 + 1) P8
    else
    ab_b2 (f_316 (16 : Int32) P) fun v6 P5 =>
    if v6 < x4 then
      Option.bind (f_318 N P5) fun P7 =>
      H24 x2 x3 x4 (x5 + 1) P7
    else
    H24 x2 x3 x4 (x5 + 1) P5
theorem t_274_46 {xs : Nat × (Nat → Int32)} {d : Nat} (N : Nat) (H24 : Int32 → Int32 → Int32 → Int32 → ab_P → Option ab_P) (hH24 : ∀ (x2 : Int32) (x3 : Int32) (x4 : Int32) (x5 : Int32) (d1 : Int32) (d6 : ab_V) (P : ab_P), ab_tr xs wV (d + 4) 274 24 [] [.inr (7, 0, 0, 61), .inl (.int d1), .inl (.int x2), .inl (.int x3), .inl (.int x4), .inl (.int x5), d6] [] P (H24 x2 x3 x4 x5 P)) : ∀ n : Nat, ∀ (x2 : Int32) (x3 : Int32) (x4 : Int32) (x5 : Int32) (x6 : Int32) (d1 : Int32) (P : ab_P), ab_tr xs wV (d + 4) 274 46 [] [.inr (7, 0, 0, 61), .inl (.int d1), .inl (.int x2), .inl (.int x3), .inl (.int x4), .inl (.int x5), .inl (.int x6)] [] P (f_274_46 N H24 n x2 x3 x4 x5 x6 P) := by
  intro n
  induction n with
  | zero => intro x2 x3 x4 x5 x6 d1 P; exact tr_no
  | succ n ih =>
    intro x2 x3 x4 x5 x6 d1 P
    refine tr_nil (rows2 := kb_274_46) rfl (List.cons_ne_nil _ _) ?_
    refine tr_blk 4 (pc' := 55) (rows' := kb_274_46.drop 4) (loc' := [.inr (7, 0, 0, 61), .inl (.int d1), .inl (.int x2), .inl (.int x3), .inl (.int x4), .inl (.int x5), .inl (.int x6)]) (st' := [.inl (.int (P.1 3 5)), .inl (.int x6)]) (P1 := P) rfl ⟨trivial, trivial, trivial, trivial, trivial⟩ ?_
    refine tr_if (fun h11 => ?_) (fun h11 => ?_)
    · refine tr_icF (cd := .ge) (Int32.not_le.mpr h11) ?_
      refine tr_blk 2 (pc' := 61) (rows' := kb_274_46.drop 7) (loc' := [.inr (7, 0, 0, 61), .inl (.int d1), .inl (.int x2), .inl (.int x3), .inl (.int x4), .inl (.int x5), .inl (.int x6)]) (st' := [.inl (.int (16 : Int32)), .inr (7, 0, 0, 61)]) (P1 := P) rfl ⟨trivial, trivial, trivial⟩ ?_
      refine tr_cWI (z := km_316) (av := [.inr (7, 0, 0, 61), .inl (.int (16 : Int32))]) (st' := []) rfl rfl rfl (Nat.le_of_ble_eq_true rfl) ⟨rfl, Or.inl (by decide)⟩ rfl (Nat.le_of_ble_eq_true rfl) (t_316 (16 : Int32) P) (fun v9 P8 => ?_)
      refine tr_blk 1 (pc' := 65) (rows' := kb_274_46.drop 9) (loc' := [.inr (7, 0, 0, 61), .inl (.int d1), .inl (.int x2), .inl (.int x3), .inl (.int x4), .inl (.int x5), .inl (.int x6)]) (st' := [.inl (.int x3), .inl (.int v9)]) (P1 := P8) rfl ⟨trivial, trivial⟩ ?_
      refine tr_if (fun h13 => ?_) (fun h13 => ?_)
      · refine tr_icF (cd := .ge) (Int32.not_le.mpr h13) ?_
        refine tr_blk 4 (pc' := 76) (rows' := kb_274_46.drop 14) (loc' := [.inr (7, 0, 0, 61), .inl (.int d1), .inl (.int x2), .inl (.int x3), .inl (.int x4), .inl (.int x5), .inl (.int x6)]) (st' := [.inl (.int (1 : Int32)), .inl (.int (P8.1 3 5))]) (P1 := P8) rfl ⟨trivial, trivial, trivial, trivial, trivial⟩ ?_
        refine tr_if (fun h14 => ?_) (fun h14 => ?_)
        · refine tr_icF (cd := .le) (Int32.not_le.mpr h14) ?_
          refine tr_blk 2 (pc' := 82) (rows' := kb_274_46.drop 17) (loc' := [.inr (7, 0, 0, 61), .inl (.int d1), .inl (.int x2), .inl (.int x3), .inl (.int x4), .inl (.int x5), .inl (.int x6)]) (st' := [.inl (.int x6), .inr (7, 0, 0, 61)]) (P1 := P8) rfl ⟨trivial, trivial, trivial⟩ ?_
          refine tr_cWV (z := km_317) (av := [.inr (7, 0, 0, 61), .inl (.int x6)]) (st' := []) rfl rfl rfl (Nat.le_of_ble_eq_true rfl) ⟨rfl, Or.inl (by decide)⟩ rfl (Nat.le_of_ble_eq_true rfl) (t_317 x6 P8) (fun P10 => ?_)
          refine tr_nil (rows2 := kb_274_85) rfl (List.cons_ne_nil _ _) ?_
          refine tr_blk 1 (pc' := 88) (rows' := kb_274_85.drop 1) (loc' := [.inr (7, 0, 0, 61), .inl (.int d1), .inl (.int x2), .inl (.int x3), .inl (.int x4), .inl (.int x5), .inl (.int (x6 + 1))]) (st' := []) (P1 := P10) rfl ⟨trivial, trivial⟩ ?_
          refine tr_goto ?_
          exact ih x2 x3 x4 x5 (x6 + 1) (d1) P10
        · refine tr_icT (cd := .le) (Int32.not_lt.mp h14) ?_
          refine tr_nil (rows2 := kb_274_85) rfl (List.cons_ne_nil _ _) ?_
          refine tr_blk 1 (pc' := 88) (rows' := kb_274_85.drop 1) (loc' := [.inr (7, 0, 0, 61), .inl (.int d1), .inl (.int x2), .inl (.int x3), .inl (.int x4), .inl (.int x5), .inl (.int (x6 + 1))]) (st' := []) (P1 := P8) rfl ⟨trivial, trivial⟩ ?_
          refine tr_goto ?_
          exact ih x2 x3 x4 x5 (x6 + 1) (d1) P8
      · refine tr_icT (cd := .ge) (Int32.not_lt.mp h13) ?_
        refine tr_nil (rows2 := kb_274_85) rfl (List.cons_ne_nil _ _) ?_
        refine tr_blk 1 (pc' := 88) (rows' := kb_274_85.drop 1) (loc' := [.inr (7, 0, 0, 61), .inl (.int d1), .inl (.int x2), .inl (.int x3), .inl (.int x4), .inl (.int x5), .inl (.int (x6 + 1))]) (st' := []) (P1 := P8) rfl ⟨trivial, trivial⟩ ?_
        refine tr_goto ?_
        exact ih x2 x3 x4 x5 (x6 + 1) (d1) P8
    · refine tr_icT (cd := .ge) (Int32.not_lt.mp h11) ?_
      refine tr_nil (rows2 := kb_274_91) rfl (List.cons_ne_nil _ _) ?_
      refine tr_blk 2 (pc' := 94) (rows' := kb_274_91.drop 2) (loc' := [.inr (7, 0, 0, 61), .inl (.int d1), .inl (.int x2), .inl (.int x3), .inl (.int x4), .inl (.int x5), .inl (.int x6)]) (st' := [.inl (.int (16 : Int32)), .inr (7, 0, 0, 61)]) (P1 := P) rfl ⟨trivial, trivial, trivial⟩ ?_
      refine tr_cWI (z := km_316) (av := [.inr (7, 0, 0, 61), .inl (.int (16 : Int32))]) (st' := []) rfl rfl rfl (Nat.le_of_ble_eq_true rfl) ⟨rfl, Or.inl (by decide)⟩ rfl (Nat.le_of_ble_eq_true rfl) (t_316 (16 : Int32) P) (fun v6 P5 => ?_)
      refine tr_blk 1 (pc' := 99) (rows' := kb_274_91.drop 4) (loc' := [.inr (7, 0, 0, 61), .inl (.int d1), .inl (.int x2), .inl (.int x3), .inl (.int x4), .inl (.int x5), .inl (.int x6)]) (st' := [.inl (.int x4), .inl (.int v6)]) (P1 := P5) rfl ⟨trivial, trivial⟩ ?_
      refine tr_if (fun h12 => ?_) (fun h12 => ?_)
      · refine tr_icF (cd := .ge) (Int32.not_le.mpr h12) ?_
        refine tr_blk 1 (pc' := 103) (rows' := kb_274_91.drop 6) (loc' := [.inr (7, 0, 0, 61), .inl (.int d1), .inl (.int x2), .inl (.int x3), .inl (.int x4), .inl (.int x5), .inl (.int x6)]) (st' := [.inr (7, 0, 0, 61)]) (P1 := P5) rfl ⟨trivial, trivial⟩ ?_
        refine tr_cWV (z := km_318) (av := [.inr (7, 0, 0, 61)]) (st' := []) rfl rfl rfl (Nat.le_of_ble_eq_true rfl) ⟨rfl, Or.inl (by decide)⟩ rfl (Nat.le_of_ble_eq_true rfl) (t_318 N P5) (fun P7 => ?_)
        refine tr_nil (rows2 := kb_274_106) rfl (List.cons_ne_nil _ _) ?_
        refine tr_blk 1 (pc' := 109) (rows' := kb_274_106.drop 1) (loc' := [.inr (7, 0, 0, 61), .inl (.int d1), .inl (.int x2), .inl (.int x3), .inl (.int x4), .inl (.int (x5 + 1)), .inl (.int x6)]) (st' := []) (P1 := P7) rfl ⟨trivial, trivial⟩ ?_
        refine tr_goto ?_
        exact hH24 x2 x3 x4 (x5 + 1) (d1) (.inl (.int x6)) P7
      · refine tr_icT (cd := .ge) (Int32.not_lt.mp h12) ?_
        refine tr_nil (rows2 := kb_274_106) rfl (List.cons_ne_nil _ _) ?_
        refine tr_blk 1 (pc' := 109) (rows' := kb_274_106.drop 1) (loc' := [.inr (7, 0, 0, 61), .inl (.int d1), .inl (.int x2), .inl (.int x3), .inl (.int x4), .inl (.int (x5 + 1)), .inl (.int x6)]) (st' := []) (P1 := P5) rfl ⟨trivial, trivial⟩ ?_
        refine tr_goto ?_
        exact hH24 x2 x3 x4 (x5 + 1) (d1) (.inl (.int x6)) P5
def f_274_24 (N : Nat) : Nat → Int32 → Int32 → Int32 → Int32 → ab_P → Option ab_P
  | 0, _, _, _, _, _ => none
  | n + 1, x2, x3, x4, x5, P =>
    if x5 < x2 then
      ab_lt (ab_pI P 62 3 ((P.1 62 3) + (1 : Int32))) fun P4 =>
      f_274_46 N (fun y0 y1 y2 y3 y4 => f_274_24 N n y0 y1 y2 y3 y4) N x2 x3 x4 x5 (0 : Int32) P4
    else
    some P
theorem t_274_24 {xs : Nat × (Nat → Int32)} {d : Nat} (N : Nat) : ∀ n : Nat, ∀ (x2 : Int32) (x3 : Int32) (x4 : Int32) (x5 : Int32) (d1 : Int32) (d6 : ab_V) (P : ab_P), ab_tr xs wV (d + 4) 274 24 [] [.inr (7, 0, 0, 61), .inl (.int d1), .inl (.int x2), .inl (.int x3), .inl (.int x4), .inl (.int x5), d6] [] P (f_274_24 N n x2 x3 x4 x5 P) := by
  intro n
  induction n with
  | zero => intro x2 x3 x4 x5 d1 d6 P; exact tr_no
  | succ n ih =>
    intro x2 x3 x4 x5 d1 d6 P
    refine tr_nil (rows2 := kb_274_24) rfl (List.cons_ne_nil _ _) ?_
    refine tr_blk 2 (pc' := 27) (rows' := kb_274_24.drop 2) (loc' := [.inr (7, 0, 0, 61), .inl (.int d1), .inl (.int x2), .inl (.int x3), .inl (.int x4), .inl (.int x5), d6]) (st' := [.inl (.int x2), .inl (.int x5)]) (P1 := P) rfl ⟨trivial, trivial, trivial⟩ ?_
    refine tr_if (fun h15 => ?_) (fun h15 => ?_)
    · refine tr_icF (cd := .ge) (Int32.not_le.mpr h15) ?_
      refine tr_blk 7 (pc' := 43) (rows' := kb_274_24.drop 10) (loc' := [.inr (7, 0, 0, 61), .inl (.int d1), .inl (.int x2), .inl (.int x3), .inl (.int x4), .inl (.int x5), d6]) (st' := []) (P1 := (ab_pI P 62 3 ((P.1 62 3) + (1 : Int32)))) rfl ⟨trivial, trivial, trivial, trivial, trivial, trivial, trivial, trivial⟩ ?_
      refine tr_lt (fun P4 => ?_)
      refine tr_blk 2 (pc' := 46) (rows' := kb_274_24.drop 12) (loc' := [.inr (7, 0, 0, 61), .inl (.int d1), .inl (.int x2), .inl (.int x3), .inl (.int x4), .inl (.int x5), .inl (.int (0 : Int32))]) (st' := []) (P1 := P4) rfl ⟨trivial, trivial, trivial⟩ ?_
      exact t_274_46 N _ ih N x2 x3 x4 x5 (0 : Int32) (d1) P4
    · refine tr_icT (cd := .ge) (Int32.not_lt.mp h15) ?_
      refine tr_nil (rows2 := kb_274_112) rfl (List.cons_ne_nil _ _) ?_
      exact tr_reV (z := km_274) rfl rfl rfl
def f_274 (N : Nat) (a1 : Int32) (a2 : Int32) (a3 : Int32) (a4 : Int32) (P : ab_P) : Option ab_P :=
    Option.bind (f_295 62 43 P) fun P1 =>
    ab_lt (ab_pI P1 61 3 a1) fun P2 =>
    ab_lt (ab_pI P2 61 4 (0 : Int32)) fun P3 =>
    f_274_24 N N a2 a3 a4 (0 : Int32) P3
theorem t_274 {xs : Nat × (Nat → Int32)} {d : Nat} (N : Nat) : ∀ (a1 : Int32) (a2 : Int32) (a3 : Int32) (a4 : Int32) (P : ab_P), ab_tr xs wV (d + 4) 274 0 [] [.inr (7, 0, 0, 61), .inl (.int a1), .inl (.int a2), .inl (.int a3), .inl (.int a4), ab_top, ab_top] [] P (f_274 N a1 a2 a3 a4 P) := by
  intro a1 a2 a3 a4 P
  unfold f_274
  refine tr_nil (rows2 := kb_274_0) rfl (List.cons_ne_nil _ _) ?_
  refine tr_blk 4 (pc' := 8) (rows' := kb_274_0.drop 4) (loc' := [.inr (7, 0, 0, 61), .inl (.int a1), .inl (.int a2), .inl (.int a3), .inl (.int a4), ab_top, ab_top]) (st' := [.inr (6, 0, 0, 43), .inr (6, 0, 0, 62)]) (P1 := P) rfl ⟨trivial, trivial, trivial, trivial, trivial⟩ ?_
  refine tr_cWV (z := km_295) (av := [.inr (6, 0, 0, 62), .inr (6, 0, 0, 43)]) (st' := []) rfl rfl rfl (Nat.le_of_ble_eq_true rfl) ⟨rfl, Or.inl (by decide)⟩ rfl (Nat.le_of_ble_eq_true rfl) (t_295 62 43 P) (fun P1 => ?_)
  refine tr_blk 3 (pc' := 16) (rows' := kb_274_0.drop 8) (loc' := [.inr (7, 0, 0, 61), .inl (.int a1), .inl (.int a2), .inl (.int a3), .inl (.int a4), ab_top, ab_top]) (st' := []) (P1 := (ab_pI P1 61 3 a1)) rfl ⟨trivial, trivial, trivial, trivial⟩ ?_
  refine tr_lt (fun P2 => ?_)
  refine tr_blk 3 (pc' := 21) (rows' := kb_274_0.drop 11) (loc' := [.inr (7, 0, 0, 61), .inl (.int a1), .inl (.int a2), .inl (.int a3), .inl (.int a4), ab_top, ab_top]) (st' := []) (P1 := (ab_pI P2 61 4 (0 : Int32))) rfl ⟨trivial, trivial, trivial, trivial⟩ ?_
  refine tr_lt (fun P3 => ?_)
  refine tr_blk 2 (pc' := 24) (rows' := kb_274_0.drop 13) (loc' := [.inr (7, 0, 0, 61), .inl (.int a1), .inl (.int a2), .inl (.int a3), .inl (.int a4), .inl (.int (0 : Int32)), ab_top]) (st' := []) (P1 := P3) rfl ⟨trivial, trivial, trivial⟩ ?_
  exact t_274_24 N N a2 a3 a4 (0 : Int32) (a1) (ab_top) P3
def f_275 (N : Nat) (P : ab_P) : Option Int32 :=
    Option.bind (f_265 62 N P (P.1 3 5) (1 : Int32)) fun v1 =>
    some v1
theorem t_275 {xs : Nat × (Nat → Int32)} {d : Nat} (N : Nat) (P : ab_P) : ab_tr xs (rI P) (d + 4) 275 0 [] [.inr (7, 0, 0, 61)] [] P (f_275 N P) := by
  unfold f_275
  refine tr_nil (rows2 := kb_275_0) rfl (List.cons_ne_nil _ _) ?_
  refine tr_blk 6 (pc' := 12) (rows' := kb_275_0.drop 6) (loc' := [.inr (7, 0, 0, 61)]) (st' := [.inl (.int (1 : Int32)), .inl (.int (P.1 3 5)), .inr (6, 0, 0, 62)]) (P1 := P) rfl ⟨trivial, trivial, trivial, trivial, trivial, trivial, trivial⟩ ?_
  refine tr_cRI (z := km_265) (av := [.inr (6, 0, 0, 62), .inl (.int (P.1 3 5)), .inl (.int (1 : Int32))]) (st' := []) rfl rfl rfl (Nat.le_of_ble_eq_true rfl) ⟨rfl, Or.inl (by decide)⟩ rfl (Nat.le_of_ble_eq_true rfl) (t_265 62 N P (P.1 3 5) (1 : Int32)) (fun v1 => ?_)
  exact tr_reI (z := km_275) rfl ⟨_, rfl, rfl⟩ rfl
def f_189_25 (N : Nat) (x1 : Int32) (x2 : Int32) (x3 : Int32) (x4 : Int32) (x5 : Int32) (s0 : Int32) (P : ab_P) : Option ((Int32 ⊕ Fin 3) × ab_P) :=
    ab_x2 (f_228 s0 P) (fun _ P2 =>
    Option.bind (f_274 N x1 x2 x3 x4 P2) fun P3 =>
    if x5 = 0 then
      Option.bind (f_236 62 N P3) fun v4 =>
      some (.inl v4, P3)
    else
    if x5 = 1 then
      Option.bind (f_229 62 N P3) fun v5 =>
      some (.inl v5, P3)
    else
    if x5 = 2 then
      some (.inl (P3.1 61 4), P3)
    else
    Option.bind (f_275 N P3) fun v6 =>
    some (.inl v6, P3)) (fun q => q)
theorem t_189_25 {xs : Nat × (Nat → Int32)} {d : Nat} (N : Nat) : ∀ (x1 : Int32) (x2 : Int32) (x3 : Int32) (x4 : Int32) (x5 : Int32) (s0 : Int32) (P : ab_P), ab_tr xs xI (d + 5) 189 25 [] [.inr (11, 0, 0, 0), .inl (.int x1), .inl (.int x2), .inl (.int x3), .inl (.int x4), .inl (.int x5)] [.inl (.int s0), .inr (11, 0, 0, 0)] P (f_189_25 N x1 x2 x3 x4 x5 s0 P) := by
  intro x1 x2 x3 x4 x5 s0 P
  unfold f_189_25
  refine tr_nil (rows2 := kb_189_25) rfl (List.cons_ne_nil _ _) ?_
  refine tr_cax (fun _ => none) (zi := km_189) (fun _ => rfl) (fun _ _ => rfl) rfl rfl (z := km_228) (av := [.inr (11, 0, 0, 0), .inl (.int s0)]) (st' := []) rfl rfl rfl (Nat.le_of_ble_eq_true rfl) ⟨rfl, Or.inl (by decide)⟩ rfl (Nat.le_of_ble_eq_true rfl) (t_228 s0 P) (fun _ P2 => ?_)
  refine tr_blk 6 (pc' := 37) (rows' := kb_189_25.drop 7) (loc' := [.inr (11, 0, 0, 0), .inl (.int x1), .inl (.int x2), .inl (.int x3), .inl (.int x4), .inl (.int x5)]) (st' := [.inl (.int x4), .inl (.int x3), .inl (.int x2), .inl (.int x1), .inr (7, 0, 0, 61)]) (P1 := P2) rfl ⟨trivial, trivial, trivial, trivial, trivial, trivial, trivial⟩ ?_
  refine tr_cWV (z := km_274) (av := [.inr (7, 0, 0, 61), .inl (.int x1), .inl (.int x2), .inl (.int x3), .inl (.int x4)]) (st' := []) rfl rfl rfl (Nat.le_of_ble_eq_true rfl) ⟨rfl, Or.inl (by decide)⟩ rfl (Nat.le_of_ble_eq_true rfl) (t_274 N x1 x2 x3 x4 P2) (fun P3 => ?_)
  refine tr_blk 1 (pc' := 42) (rows' := kb_189_25.drop 9) (loc' := [.inr (11, 0, 0, 0), .inl (.int x1), .inl (.int x2), .inl (.int x3), .inl (.int x4), .inl (.int x5)]) (st' := [.inl (.int x5)]) (P1 := P3) rfl ⟨trivial, trivial⟩ ?_
  refine tr_if (fun h7 => ?_) (fun h7 => ?_)
  · refine tr_sw (t := 68) (by rw [h7]; rfl) ?_
    refine tr_nil (rows2 := kb_189_68) rfl (List.cons_ne_nil _ _) ?_
    refine tr_blk 3 (pc' := 75) (rows' := kb_189_68.drop 3) (loc' := [.inr (11, 0, 0, 0), .inl (.int x1), .inl (.int x2), .inl (.int x3), .inl (.int x4), .inl (.int x5)]) (st' := [.inr (6, 0, 0, 62)]) (P1 := P3) rfl ⟨trivial, trivial, trivial, trivial⟩ ?_
    refine tr_cRI (z := km_236) (av := [.inr (6, 0, 0, 62)]) (st' := []) rfl rfl rfl (Nat.le_of_ble_eq_true rfl) ⟨rfl, Or.inl (by decide)⟩ rfl (Nat.le_of_ble_eq_true rfl) (t_236 62 N P3) (fun v4 => ?_)
    exact tr_reI (z := km_189) rfl ⟨_, rfl, rfl⟩ rfl
  refine tr_if (fun h8 => ?_) (fun h8 => ?_)
  · refine tr_sw (t := 79) (by rw [h8]; rfl) ?_
    refine tr_nil (rows2 := kb_189_79) rfl (List.cons_ne_nil _ _) ?_
    refine tr_blk 3 (pc' := 86) (rows' := kb_189_79.drop 3) (loc' := [.inr (11, 0, 0, 0), .inl (.int x1), .inl (.int x2), .inl (.int x3), .inl (.int x4), .inl (.int x5)]) (st' := [.inr (6, 0, 0, 62)]) (P1 := P3) rfl ⟨trivial, trivial, trivial, trivial⟩ ?_
    refine tr_cRI (z := km_229) (av := [.inr (6, 0, 0, 62)]) (st' := []) rfl rfl rfl (Nat.le_of_ble_eq_true rfl) ⟨rfl, Or.inl (by decide)⟩ rfl (Nat.le_of_ble_eq_true rfl) (t_229 62 N P3) (fun v5 => ?_)
    exact tr_reI (z := km_189) rfl ⟨_, rfl, rfl⟩ rfl
  refine tr_if (fun h9 => ?_) (fun h9 => ?_)
  · refine tr_sw (t := 90) (by rw [h9]; rfl) ?_
    refine tr_nil (rows2 := kb_189_90) rfl (List.cons_ne_nil _ _) ?_
    refine tr_blk 3 (pc' := 97) (rows' := kb_189_90.drop 3) (loc' := [.inr (11, 0, 0, 0), .inl (.int x1), .inl (.int x2), .inl (.int x3), .inl (.int x4), .inl (.int x5)]) (st' := [.inl (.int (P3.1 61 4))]) (P1 := P3) rfl ⟨trivial, trivial, trivial, trivial⟩ ?_
    exact tr_reI (z := km_189) rfl ⟨_, rfl, rfl⟩ rfl
  refine tr_sw (t := 98) (ab_swd (k := 3) (by decide) rfl ⟨ab_nei h7 (by decide), ab_nei h8 (by decide), ab_nei h9 (by decide), trivial⟩) ?_
  refine tr_nil (rows2 := kb_189_98) rfl (List.cons_ne_nil _ _) ?_
  refine tr_blk 2 (pc' := 102) (rows' := kb_189_98.drop 2) (loc' := [.inr (11, 0, 0, 0), .inl (.int x1), .inl (.int x2), .inl (.int x3), .inl (.int x4), .inl (.int x5)]) (st' := [.inr (7, 0, 0, 61)]) (P1 := P3) rfl ⟨trivial, trivial, trivial⟩ ?_
  refine tr_cRI (z := km_275) (av := [.inr (7, 0, 0, 61)]) (st' := []) rfl rfl rfl (Nat.le_of_ble_eq_true rfl) ⟨rfl, Or.inl (by decide)⟩ rfl (Nat.le_of_ble_eq_true rfl) (t_275 N P3) (fun v6 => ?_)
  exact tr_reI (z := km_189) rfl ⟨_, rfl, rfl⟩ rfl
def f_189 (N : Nat) (a1 : Int32) (a2 : Int32) (a3 : Int32) (a4 : Int32) (a5 : Int32) (P : ab_P) : Option ((Int32 ⊕ Fin 3) × ab_P) :=
    ab_x2 (f_273 a2 a3 a4 P) (fun _ P1 =>
    if a5 < (0 : Int32) then
      f_189_25 N a1 a2 a3 a4 a5 (0 : Int32) P1
    else
    if (3 : Int32) < a5 then
      f_189_25 N a1 a2 a3 a4 a5 (0 : Int32) P1
    else
    f_189_25 N a1 a2 a3 a4 a5 (1 : Int32) P1) (fun q => q)
theorem t_189 {xs : Nat × (Nat → Int32)} {d : Nat} (N : Nat) : ∀ (a1 : Int32) (a2 : Int32) (a3 : Int32) (a4 : Int32) (a5 : Int32) (P : ab_P), ab_tr xs xI (d + 5) 189 0 [] [.inr (11, 0, 0, 0), .inl (.int a1), .inl (.int a2), .inl (.int a3), .inl (.int a4), .inl (.int a5)] [] P (f_189 N a1 a2 a3 a4 a5 P) := by
  intro a1 a2 a3 a4 a5 P
  unfold f_189
  refine tr_nil (rows2 := kb_189_0) rfl (List.cons_ne_nil _ _) ?_
  refine tr_blk 4 (pc' := 5) (rows' := kb_189_0.drop 4) (loc' := [.inr (11, 0, 0, 0), .inl (.int a1), .inl (.int a2), .inl (.int a3), .inl (.int a4), .inl (.int a5)]) (st' := [.inl (.int a4), .inl (.int a3), .inl (.int a2), .inr (11, 0, 0, 0)]) (P1 := P) rfl ⟨trivial, trivial, trivial, trivial, trivial⟩ ?_
  refine tr_cax (fun _ => none) (zi := km_189) (fun _ => rfl) (fun _ _ => rfl) rfl rfl (z := km_273) (av := [.inr (11, 0, 0, 0), .inl (.int a2), .inl (.int a3), .inl (.int a4)]) (st' := []) rfl rfl rfl (Nat.le_of_ble_eq_true rfl) ⟨rfl, Or.inl (by decide)⟩ rfl (Nat.le_of_ble_eq_true rfl) (t_273 a2 a3 a4 P) (fun _ P1 => ?_)
  refine tr_blk 2 (pc' := 11) (rows' := kb_189_0.drop 7) (loc' := [.inr (11, 0, 0, 0), .inl (.int a1), .inl (.int a2), .inl (.int a3), .inl (.int a4), .inl (.int a5)]) (st' := [.inl (.int a5), .inr (11, 0, 0, 0)]) (P1 := P1) rfl ⟨trivial, trivial, trivial⟩ ?_
  refine tr_if (fun h10 => ?_) (fun h10 => ?_)
  · refine tr_ifT (cd := .lt) h10 ?_
    refine tr_nil (rows2 := kb_189_24) rfl (List.cons_ne_nil _ _) ?_
    refine tr_blk 1 (pc' := 25) (rows' := kb_189_24.drop 1) (loc' := [.inr (11, 0, 0, 0), .inl (.int a1), .inl (.int a2), .inl (.int a3), .inl (.int a4), .inl (.int a5)]) (st' := [.inl (.int (0 : Int32)), .inr (11, 0, 0, 0)]) (P1 := P1) rfl ⟨trivial, trivial⟩ ?_
    exact t_189_25 N a1 a2 a3 a4 a5 (0 : Int32) P1
  · refine tr_ifF (cd := .lt) h10 ?_
    refine tr_blk 2 (pc' := 17) (rows' := kb_189_0.drop 10) (loc' := [.inr (11, 0, 0, 0), .inl (.int a1), .inl (.int a2), .inl (.int a3), .inl (.int a4), .inl (.int a5)]) (st' := [.inl (.int (3 : Int32)), .inl (.int a5), .inr (11, 0, 0, 0)]) (P1 := P1) rfl ⟨trivial, trivial, trivial⟩ ?_
    refine tr_if (fun h11 => ?_) (fun h11 => ?_)
    · refine tr_icT (cd := .gt) h11 ?_
      refine tr_nil (rows2 := kb_189_24) rfl (List.cons_ne_nil _ _) ?_
      refine tr_blk 1 (pc' := 25) (rows' := kb_189_24.drop 1) (loc' := [.inr (11, 0, 0, 0), .inl (.int a1), .inl (.int a2), .inl (.int a3), .inl (.int a4), .inl (.int a5)]) (st' := [.inl (.int (0 : Int32)), .inr (11, 0, 0, 0)]) (P1 := P1) rfl ⟨trivial, trivial⟩ ?_
      exact t_189_25 N a1 a2 a3 a4 a5 (0 : Int32) P1
    · refine tr_icF (cd := .gt) h11 ?_
      refine tr_blk 1 (pc' := 21) (rows' := kb_189_0.drop 12) (loc' := [.inr (11, 0, 0, 0), .inl (.int a1), .inl (.int a2), .inl (.int a3), .inl (.int a4), .inl (.int a5)]) (st' := [.inl (.int (1 : Int32)), .inr (11, 0, 0, 0)]) (P1 := P1) rfl ⟨trivial, trivial⟩ ?_
      refine tr_goto ?_
      exact t_189_25 N a1 a2 a3 a4 a5 (1 : Int32) P1
def f_84_1 (N : Nat) (a1 : Int32) (a2 : Int32) (a3 : Int32) (a4 : Int32) (a5 : Int32) (P : ab_P) : Option (Int32 × ab_P) :=
    ab_h2 (f_189 N a1 a2 a3 a4 a5 P) (fun v2 P1 =>
    ab_lt (ab_pL P1 570 0 (v2).toInt64) fun P3 =>
    some ((0 : Int32), P3))
    (fun _ => none) (fun P9 => some ((1 : Int32), P9)) (fun _ => none)
theorem t_84_1 {xs : Nat × (Nat → Int32)} {d : Nat} (N : Nat) : ∀ (a1 : Int32) (a2 : Int32) (a3 : Int32) (a4 : Int32) (a5 : Int32) (P : ab_P), ab_tr xs wI (d + 6) 84 0 [] [.inr (11, 0, 0, 0), .inl (.int a1), .inl (.int a2), .inl (.int a3), .inl (.int a4), .inl (.int a5), .inr (22, 1, 0, 570), ab_top] [] P (f_84_1 N a1 a2 a3 a4 a5 P) := by
  intro a1 a2 a3 a4 a5 P
  unfold f_84_1
  refine tr_nil (rows2 := kb_84_0) rfl (List.cons_ne_nil _ _) ?_
  refine tr_blk 8 (pc' := 11) (rows' := kb_84_0.drop 8) (loc' := [.inr (11, 0, 0, 0), .inl (.int a1), .inl (.int a2), .inl (.int a3), .inl (.int a4), .inl (.int a5), .inr (22, 1, 0, 570), ab_top]) (st' := [.inl (.int a5), .inl (.int a4), .inl (.int a3), .inl (.int a2), .inl (.int a1), .inr (11, 0, 0, 0), .inl (.int (0 : Int32)), .inr (22, 1, 0, 570)]) (P1 := P) rfl ⟨trivial, trivial, trivial, trivial, trivial, trivial, trivial, trivial, trivial⟩ ?_
  refine tr_cah (fun b => some (.inl (.int b))) (zi := km_84) (fun _ => rfl) rfl (z := km_189) (av := [.inr (11, 0, 0, 0), .inl (.int a1), .inl (.int a2), .inl (.int a3), .inl (.int a4), .inl (.int a5)]) (st' := [.inl (.int (0 : Int32)), .inr (22, 1, 0, 570)]) rfl rfl rfl (Nat.le_of_ble_eq_true rfl) ⟨rfl, Or.inl (by decide)⟩ rfl (Nat.le_of_ble_eq_true rfl) (t_189 N a1 a2 a3 a4 a5 P) (fun v2 P1 => ?_) ?_ ?_ ?_
  · refine tr_blk 2 (pc' := 16) (rows' := kb_84_0.drop 11) (loc' := [.inr (11, 0, 0, 0), .inl (.int a1), .inl (.int a2), .inl (.int a3), .inl (.int a4), .inl (.int a5), .inr (22, 1, 0, 570), ab_top]) (st' := []) (P1 := (ab_pL P1 570 0 (v2).toInt64)) rfl ⟨trivial, (ab_vi (by decide)), trivial⟩ ?_
    refine tr_lt (fun P3 => ?_)
    refine tr_goto ?_
    refine tr_nil (rows2 := kb_84_23) rfl (List.cons_ne_nil _ _) ?_
    refine tr_blk 1 (pc' := 24) (rows' := kb_84_23.drop 1) (loc' := [.inr (11, 0, 0, 0), .inl (.int a1), .inl (.int a2), .inl (.int a3), .inl (.int a4), .inl (.int a5), .inr (22, 1, 0, 570), ab_top]) (st' := [.inl (.int (0 : Int32))]) (P1 := P3) rfl ⟨trivial, trivial⟩ ?_
    exact tr_reI (z := km_84) rfl ⟨_, rfl, rfl⟩ rfl
  · exact fun _ => rfl
  · exact fun _ => tr_han (rows2 := kb_84_19) (z := km_84) _ (fun q => [.inr (11, 0, 0, 0), .inl (.int a1), .inl (.int a2), .inl (.int a3), .inl (.int a4), .inl (.int a5), .inr (22, 1, 0, 570), .inr (40, 1, 0, q)]) rfl (List.cons_ne_nil _ _) (fun q => rfl) ⟨trivial, trivial, trivial⟩ rfl ⟨_, rfl, rfl⟩ rfl
  · exact fun _ => rfl
def f_276 (a1 : Int32) (P : ab_P) : Option (Int32 × ab_P) :=
    ab_lt (ab_pI P 72 43 (((P.1 72 43) * (1103515245 : Int32)) + (12345 : Int32))) fun P1 =>
    if ¬ a1 = 0 then
    some (((((P1.1 72 43) >>> ((16 : Int32) &&& 31)) &&& (32767 : Int32)) - (((P1.1 72 43) >>> ((16 : Int32) &&& 31)) &&& (32767 : Int32)) / a1 * a1), P1)
    else none
theorem t_276 {xs : Nat × (Nat → Int32)} {d : Nat} : ∀ (a1 : Int32) (P : ab_P), ab_tr xs wI (d + 0) 276 0 [] [.inr (12, 0, 0, 72), .inl (.int a1)] [] P (f_276 a1 P) := by
  intro a1 P
  unfold f_276
  refine tr_nil (rows2 := kb_276_0) rfl (List.cons_ne_nil _ _) ?_
  refine tr_blk 8 (pc' := 16) (rows' := kb_276_0.drop 8) (loc' := [.inr (12, 0, 0, 72), .inl (.int a1)]) (st' := []) (P1 := (ab_pI P 72 43 (((P.1 72 43) * (1103515245 : Int32)) + (12345 : Int32)))) rfl ⟨trivial, trivial, trivial, trivial, trivial, trivial, trivial, trivial, trivial⟩ ?_
  refine tr_lt (fun P1 => ?_)
  refine tr_gd (fun h2 => ?_)
  refine tr_blk 8 (pc' := 29) (rows' := kb_276_0.drop 16) (loc' := [.inr (12, 0, 0, 72), .inl (.int a1)]) (st' := [.inl (.int ((((P1.1 72 43) >>> ((16 : Int32) &&& 31)) &&& (32767 : Int32)) - (((P1.1 72 43) >>> ((16 : Int32) &&& 31)) &&& (32767 : Int32)) / a1 * a1))]) (P1 := P1) rfl ⟨trivial, trivial, trivial, trivial, trivial, trivial, trivial, h2, trivial⟩ ?_
  exact tr_reI (z := km_276) rfl ⟨_, rfl, rfl⟩ rfl
def f_277_366_4 (i1 : Nat) : Nat → Int32 → Int32 → ab_P → Option ab_P
  | 0, _, _, _ => none
  | n + 1, x2, x3, P =>
    if x3 < (P.1 i1 360) then
      Option.bind (f_144_366 i1 P x3) fun v4 =>
      if v4 = (0 : Int32) then
        f_277_366_4 i1 n x2 (x3 + 1) P
      else
      if x2 = (-1 : Int32) then
        f_277_366_4 i1 n x3 (x3 + 1) P
      else
      Option.bind (f_135_366 i1 P x3 (2 : Int32)) fun v5 =>
      Option.bind (f_135_366 i1 P x2 (2 : Int32)) fun v6 =>
      if v6 < v5 then
        f_277_366_4 i1 n x3 (x3 + 1) P
      else
      f_277_366_4 i1 n x2 (x3 + 1) P
    else
    if x2 = (-1 : Int32) then
      some P
    else
    Option.bind (f_135_366 i1 P x2 (2 : Int32)) fun v1 =>
    ab_lt (ab_pI P 72 44 ((P.1 72 44) + v1)) fun P2 =>
    Option.bind (f_223_366 i1 x2 (2 : Int32) P2) fun P3 =>
    some P3
theorem t_277_366_4 {xs : Nat × (Nat → Int32)} {d : Nat} (i1 : Nat) : ∀ n : Nat, ∀ (x2 : Int32) (x3 : Int32) (P : ab_P), ab_tr xs wV (d + 2) 277 4 [] [.inr (12, 0, 0, 72), .inr (20, 366, 0, i1), .inl (.int x2), .inl (.int x3)] [] P (f_277_366_4 i1 n x2 x3 P) := by
  intro n
  induction n with
  | zero => intro x2 x3 P; exact tr_no
  | succ n ih =>
    intro x2 x3 P
    refine tr_nil (rows2 := kb_277_4) rfl (List.cons_ne_nil _ _) ?_
    refine tr_blk 4 (pc' := 10) (rows' := kb_277_4.drop 4) (loc' := [.inr (12, 0, 0, 72), .inr (20, 366, 0, i1), .inl (.int x2), .inl (.int x3)]) (st' := [.inl (.int (P.1 i1 360)), .inl (.int x3)]) (P1 := P) rfl ⟨trivial, trivial, trivial, (ab_vi (by decide)), trivial⟩ ?_
    refine tr_if (fun h7 => ?_) (fun h7 => ?_)
    · refine tr_icF (cd := .ge) (Int32.not_le.mpr h7) ?_
      refine tr_blk 2 (pc' := 15) (rows' := kb_277_4.drop 7) (loc' := [.inr (12, 0, 0, 72), .inr (20, 366, 0, i1), .inl (.int x2), .inl (.int x3)]) (st' := [.inl (.int x3), .inr (20, 366, 0, i1)]) (P1 := P) rfl ⟨trivial, trivial, trivial⟩ ?_
      refine tr_cRI (z := km_144) (av := [.inr (20, 366, 0, i1), .inl (.int x3)]) (st' := []) rfl rfl rfl (Nat.le_of_ble_eq_true rfl) trivial rfl (Nat.le_of_ble_eq_true rfl) (t_144_366 i1 P x3) (fun v4 => ?_)
      refine tr_if (fun h9 => ?_) (fun h9 => ?_)
      · refine tr_ifT (cd := .eq) h9 ?_
        refine tr_nil (rows2 := kb_277_43) rfl (List.cons_ne_nil _ _) ?_
        refine tr_blk 1 (pc' := 46) (rows' := kb_277_43.drop 1) (loc' := [.inr (12, 0, 0, 72), .inr (20, 366, 0, i1), .inl (.int x2), .inl (.int (x3 + 1))]) (st' := []) (P1 := P) rfl ⟨trivial, trivial⟩ ?_
        refine tr_goto ?_
        exact ih x2 (x3 + 1) P
      · refine tr_ifF (cd := .eq) h9 ?_
        refine tr_blk 2 (pc' := 23) (rows' := kb_277_4.drop 11) (loc' := [.inr (12, 0, 0, 72), .inr (20, 366, 0, i1), .inl (.int x2), .inl (.int x3)]) (st' := [.inl (.int (-1 : Int32)), .inl (.int x2)]) (P1 := P) rfl ⟨trivial, trivial, trivial⟩ ?_
        refine tr_if (fun h10 => ?_) (fun h10 => ?_)
        · refine tr_icT (cd := .eq) h10 ?_
          refine tr_nil (rows2 := kb_277_41) rfl (List.cons_ne_nil _ _) ?_
          refine tr_blk 2 (pc' := 43) (rows' := kb_277_41.drop 2) (loc' := [.inr (12, 0, 0, 72), .inr (20, 366, 0, i1), .inl (.int x3), .inl (.int x3)]) (st' := []) (P1 := P) rfl ⟨trivial, trivial, trivial⟩ ?_
          refine tr_nil (rows2 := kb_277_43) rfl (List.cons_ne_nil _ _) ?_
          refine tr_blk 1 (pc' := 46) (rows' := kb_277_43.drop 1) (loc' := [.inr (12, 0, 0, 72), .inr (20, 366, 0, i1), .inl (.int x3), .inl (.int (x3 + 1))]) (st' := []) (P1 := P) rfl ⟨trivial, trivial⟩ ?_
          refine tr_goto ?_
          exact ih x3 (x3 + 1) P
        · refine tr_icF (cd := .eq) h10 ?_
          refine tr_blk 3 (pc' := 29) (rows' := kb_277_4.drop 15) (loc' := [.inr (12, 0, 0, 72), .inr (20, 366, 0, i1), .inl (.int x2), .inl (.int x3)]) (st' := [.inl (.int (2 : Int32)), .inl (.int x3), .inr (20, 366, 0, i1)]) (P1 := P) rfl ⟨trivial, trivial, trivial, trivial⟩ ?_
          refine tr_cRI (z := km_135) (av := [.inr (20, 366, 0, i1), .inl (.int x3), .inl (.int (2 : Int32))]) (st' := []) rfl rfl rfl (Nat.le_of_ble_eq_true rfl) trivial rfl (Nat.le_of_ble_eq_true rfl) (t_135_366 i1 P x3 (2 : Int32)) (fun v5 => ?_)
          refine tr_blk 3 (pc' := 35) (rows' := kb_277_4.drop 19) (loc' := [.inr (12, 0, 0, 72), .inr (20, 366, 0, i1), .inl (.int x2), .inl (.int x3)]) (st' := [.inl (.int (2 : Int32)), .inl (.int x2), .inr (20, 366, 0, i1), .inl (.int v5)]) (P1 := P) rfl ⟨trivial, trivial, trivial, trivial⟩ ?_
          refine tr_cRI (z := km_135) (av := [.inr (20, 366, 0, i1), .inl (.int x2), .inl (.int (2 : Int32))]) (st' := [.inl (.int v5)]) rfl rfl rfl (Nat.le_of_ble_eq_true rfl) trivial rfl (Nat.le_of_ble_eq_true rfl) (t_135_366 i1 P x2 (2 : Int32)) (fun v6 => ?_)
          refine tr_if (fun h11 => ?_) (fun h11 => ?_)
          · refine tr_icF (cd := .le) (Int32.not_le.mpr h11) ?_
            refine tr_nil (rows2 := kb_277_41) rfl (List.cons_ne_nil _ _) ?_
            refine tr_blk 2 (pc' := 43) (rows' := kb_277_41.drop 2) (loc' := [.inr (12, 0, 0, 72), .inr (20, 366, 0, i1), .inl (.int x3), .inl (.int x3)]) (st' := []) (P1 := P) rfl ⟨trivial, trivial, trivial⟩ ?_
            refine tr_nil (rows2 := kb_277_43) rfl (List.cons_ne_nil _ _) ?_
            refine tr_blk 1 (pc' := 46) (rows' := kb_277_43.drop 1) (loc' := [.inr (12, 0, 0, 72), .inr (20, 366, 0, i1), .inl (.int x3), .inl (.int (x3 + 1))]) (st' := []) (P1 := P) rfl ⟨trivial, trivial⟩ ?_
            refine tr_goto ?_
            exact ih x3 (x3 + 1) P
          · refine tr_icT (cd := .le) (Int32.not_lt.mp h11) ?_
            refine tr_nil (rows2 := kb_277_43) rfl (List.cons_ne_nil _ _) ?_
            refine tr_blk 1 (pc' := 46) (rows' := kb_277_43.drop 1) (loc' := [.inr (12, 0, 0, 72), .inr (20, 366, 0, i1), .inl (.int x2), .inl (.int (x3 + 1))]) (st' := []) (P1 := P) rfl ⟨trivial, trivial⟩ ?_
            refine tr_goto ?_
            exact ih x2 (x3 + 1) P
    · refine tr_icT (cd := .ge) (Int32.not_lt.mp h7) ?_
      refine tr_nil (rows2 := kb_277_49) rfl (List.cons_ne_nil _ _) ?_
      refine tr_blk 2 (pc' := 51) (rows' := kb_277_49.drop 2) (loc' := [.inr (12, 0, 0, 72), .inr (20, 366, 0, i1), .inl (.int x2), .inl (.int x3)]) (st' := [.inl (.int (-1 : Int32)), .inl (.int x2)]) (P1 := P) rfl ⟨trivial, trivial, trivial⟩ ?_
      refine tr_if (fun h8 => ?_) (fun h8 => ?_)
      · refine tr_icF (cd := .ne) (fun q => q h8) ?_
        exact tr_reV (z := km_277) rfl rfl rfl
      · refine tr_icT (cd := .ne) h8 ?_
        refine tr_nil (rows2 := kb_277_55) rfl (List.cons_ne_nil _ _) ?_
        refine tr_blk 6 (pc' := 63) (rows' := kb_277_55.drop 6) (loc' := [.inr (12, 0, 0, 72), .inr (20, 366, 0, i1), .inl (.int x2), .inl (.int x3)]) (st' := [.inl (.int (2 : Int32)), .inl (.int x2), .inr (20, 366, 0, i1), .inl (.int (P.1 72 44)), .inr (12, 0, 0, 72)]) (P1 := P) rfl ⟨trivial, trivial, trivial, trivial, trivial, trivial, trivial⟩ ?_
        refine tr_cRI (z := km_135) (av := [.inr (20, 366, 0, i1), .inl (.int x2), .inl (.int (2 : Int32))]) (st' := [.inl (.int (P.1 72 44)), .inr (12, 0, 0, 72)]) rfl rfl rfl (Nat.le_of_ble_eq_true rfl) trivial rfl (Nat.le_of_ble_eq_true rfl) (t_135_366 i1 P x2 (2 : Int32)) (fun v1 => ?_)
        refine tr_blk 2 (pc' := 70) (rows' := kb_277_55.drop 9) (loc' := [.inr (12, 0, 0, 72), .inr (20, 366, 0, i1), .inl (.int x2), .inl (.int x3)]) (st' := []) (P1 := (ab_pI P 72 44 ((P.1 72 44) + v1))) rfl ⟨trivial, trivial, trivial⟩ ?_
        refine tr_lt (fun P2 => ?_)
        refine tr_blk 3 (pc' := 73) (rows' := kb_277_55.drop 12) (loc' := [.inr (12, 0, 0, 72), .inr (20, 366, 0, i1), .inl (.int x2), .inl (.int x3)]) (st' := [.inl (.int (2 : Int32)), .inl (.int x2), .inr (20, 366, 0, i1)]) (P1 := P2) rfl ⟨trivial, trivial, trivial, trivial⟩ ?_
        refine tr_cWV (z := km_223) (av := [.inr (20, 366, 0, i1), .inl (.int x2), .inl (.int (2 : Int32))]) (st' := []) rfl rfl rfl (Nat.le_of_ble_eq_true rfl) trivial rfl (Nat.le_of_ble_eq_true rfl) (t_223_366 i1 x2 (2 : Int32) P2) (fun P3 => ?_)
        exact tr_reV (z := km_277) rfl rfl rfl
def f_277_366 (i1 : Nat) (N : Nat) (P : ab_P) : Option ab_P :=
    f_277_366_4 i1 N (-1 : Int32) (0 : Int32) P
theorem t_277_366 {xs : Nat × (Nat → Int32)} {d : Nat} (i1 : Nat) (N : Nat) : ∀ (P : ab_P), ab_tr xs wV (d + 2) 277 0 [] [.inr (12, 0, 0, 72), .inr (20, 366, 0, i1), ab_top, ab_top] [] P (f_277_366 i1 N P) := by
  intro P
  unfold f_277_366
  refine tr_nil (rows2 := kb_277_0) rfl (List.cons_ne_nil _ _) ?_
  refine tr_blk 4 (pc' := 4) (rows' := kb_277_0.drop 4) (loc' := [.inr (12, 0, 0, 72), .inr (20, 366, 0, i1), .inl (.int (-1 : Int32)), .inl (.int (0 : Int32))]) (st' := []) (P1 := P) rfl ⟨trivial, trivial, trivial, trivial, trivial⟩ ?_
  exact t_277_366_4 i1 N (-1 : Int32) (0 : Int32) P
def f_190_45 (N : Nat) (H24 : Int32 → Int32 → Int32 → Int32 → ab_P → Option ab_P) : Nat → Int32 → Int32 → Int32 → Int32 → Int32 → ab_P → Option ab_P
  | 0, _, _, _, _, _, _ => none
  | n + 1, x2, x3, x4, x5, x6, P =>
    if x6 < (P.1 76 0) then
      ab_b2 (f_276 (16 : Int32) P) fun v9 P8 =>
      if v9 < x3 then
        if (P8.1 76 0) < (2 : Int32) then
          f_190_45 N H24 n x2 x3 x4 x5 (x6 + 1) P8
        else
        ab_b2 (f_276 ((P8.1 76 0) - (1 : Int32)) P8) fun v11 P10 =>
        if ¬ (P10.1 76 0) = 0 then
        ab_b2 (f_276 (9 : Int32) P10) fun v14 P13 =>
        ab_b2 (f_197_366 478 x6 (((x6 + (1 : Int32)) + v11) - ((x6 + (1 : Int32)) + v11) / (P10.1 76 0) * (P10.1 76 0)) ((1 : Int32) + v14) (1 : Int32) P13) fun v16 P15 =>
        f_190_45 N H24 n x2 x3 x4 x5 (x6 + 1) P15
        else none
      else
      f_190_45 N H24 n x2 x3 x4 x5 (x6 + 1) P8
    else
    ab_b2 (f_276 (16 : Int32) P) fun v6 P5 =>
    if v6 < x4 then
      Option.bind (f_277_366 478 N P5) fun P7 =>
      H24 x2 x3 x4 (x5 + 1) P7
    else
    H24 x2 x3 x4 (x5 + 1) P5
theorem t_190_45 {xs : Nat × (Nat → Int32)} {d : Nat} (N : Nat) (H24 : Int32 → Int32 → Int32 → Int32 → ab_P → Option ab_P) (hH24 : ∀ (x2 : Int32) (x3 : Int32) (x4 : Int32) (x5 : Int32) (d1 : Int32) (d6 : ab_V) (d7 : ab_V) (d8 : ab_V) (P : ab_P), ab_tr xs wV (d + 3) 190 24 [] [.inr (12, 0, 0, 72), .inl (.int d1), .inl (.int x2), .inl (.int x3), .inl (.int x4), .inl (.int x5), d6, d7, d8] [] P (H24 x2 x3 x4 x5 P)) : ∀ n : Nat, ∀ (x2 : Int32) (x3 : Int32) (x4 : Int32) (x5 : Int32) (x6 : Int32) (d1 : Int32) (d7 : ab_V) (d8 : ab_V) (P : ab_P), ab_tr xs wV (d + 3) 190 45 [] [.inr (12, 0, 0, 72), .inl (.int d1), .inl (.int x2), .inl (.int x3), .inl (.int x4), .inl (.int x5), .inl (.int x6), d7, d8] [] P (f_190_45 N H24 n x2 x3 x4 x5 x6 P) := by
  intro n
  induction n with
  | zero => intro x2 x3 x4 x5 x6 d1 d7 d8 P; exact tr_no
  | succ n ih =>
    intro x2 x3 x4 x5 x6 d1 d7 d8 P
    refine tr_nil (rows2 := kb_190_45) rfl (List.cons_ne_nil _ _) ?_
    refine tr_blk 5 (pc' := 53) (rows' := kb_190_45.drop 5) (loc' := [.inr (12, 0, 0, 72), .inl (.int d1), .inl (.int x2), .inl (.int x3), .inl (.int x4), .inl (.int x5), .inl (.int x6), d7, d8]) (st' := [.inl (.int (P.1 76 0)), .inl (.int x6)]) (P1 := P) rfl ⟨trivial, trivial, trivial, trivial, (ab_vi (by decide)), trivial⟩ ?_
    refine tr_if (fun h17 => ?_) (fun h17 => ?_)
    · refine tr_icF (cd := .ge) (Int32.not_le.mpr h17) ?_
      refine tr_blk 2 (pc' := 59) (rows' := kb_190_45.drop 8) (loc' := [.inr (12, 0, 0, 72), .inl (.int d1), .inl (.int x2), .inl (.int x3), .inl (.int x4), .inl (.int x5), .inl (.int x6), d7, d8]) (st' := [.inl (.int (16 : Int32)), .inr (12, 0, 0, 72)]) (P1 := P) rfl ⟨trivial, trivial, trivial⟩ ?_
      refine tr_cWI (z := km_276) (av := [.inr (12, 0, 0, 72), .inl (.int (16 : Int32))]) (st' := []) rfl rfl rfl (Nat.le_of_ble_eq_true rfl) ⟨rfl, Or.inl (by decide)⟩ rfl (Nat.le_of_ble_eq_true rfl) (t_276 (16 : Int32) P) (fun v9 P8 => ?_)
      refine tr_blk 1 (pc' := 63) (rows' := kb_190_45.drop 10) (loc' := [.inr (12, 0, 0, 72), .inl (.int d1), .inl (.int x2), .inl (.int x3), .inl (.int x4), .inl (.int x5), .inl (.int x6), d7, d8]) (st' := [.inl (.int x3), .inl (.int v9)]) (P1 := P8) rfl ⟨trivial, trivial⟩ ?_
      refine tr_if (fun h19 => ?_) (fun h19 => ?_)
      · refine tr_icF (cd := .ge) (Int32.not_le.mpr h19) ?_
        refine tr_blk 5 (pc' := 73) (rows' := kb_190_45.drop 16) (loc' := [.inr (12, 0, 0, 72), .inl (.int d1), .inl (.int x2), .inl (.int x3), .inl (.int x4), .inl (.int x5), .inl (.int x6), d7, d8]) (st' := [.inl (.int (2 : Int32)), .inl (.int (P8.1 76 0))]) (P1 := P8) rfl ⟨trivial, trivial, trivial, (ab_vi (by decide)), trivial, trivial⟩ ?_
        refine tr_if (fun h20 => ?_) (fun h20 => ?_)
        · refine tr_icF (cd := .ge) (Int32.not_le.mpr h20) ?_
          refine tr_goto ?_
          refine tr_nil (rows2 := kb_190_130) rfl (List.cons_ne_nil _ _) ?_
          refine tr_blk 1 (pc' := 133) (rows' := kb_190_130.drop 1) (loc' := [.inr (12, 0, 0, 72), .inl (.int d1), .inl (.int x2), .inl (.int x3), .inl (.int x4), .inl (.int x5), .inl (.int (x6 + 1)), d7, d8]) (st' := []) (P1 := P8) rfl ⟨trivial, trivial⟩ ?_
          refine tr_goto ?_
          exact ih x2 x3 x4 x5 (x6 + 1) (d1) (d7) (d8) P8
        · refine tr_icT (cd := .ge) (Int32.not_lt.mp h20) ?_
          refine tr_nil (rows2 := kb_190_79) rfl (List.cons_ne_nil _ _) ?_
          refine tr_blk 10 (pc' := 92) (rows' := kb_190_79.drop 10) (loc' := [.inr (12, 0, 0, 72), .inl (.int d1), .inl (.int x2), .inl (.int x3), .inl (.int x4), .inl (.int x5), .inl (.int x6), d7, d8]) (st' := [.inl (.int ((P8.1 76 0) - (1 : Int32))), .inr (12, 0, 0, 72), .inl (.int (x6 + (1 : Int32)))]) (P1 := P8) rfl ⟨trivial, trivial, trivial, trivial, trivial, trivial, trivial, (ab_vi (by decide)), trivial, trivial, trivial⟩ ?_
          refine tr_cWI (z := km_276) (av := [.inr (12, 0, 0, 72), .inl (.int ((P8.1 76 0) - (1 : Int32)))]) (st' := [.inl (.int (x6 + (1 : Int32)))]) rfl rfl rfl (Nat.le_of_ble_eq_true rfl) ⟨rfl, Or.inl (by decide)⟩ rfl (Nat.le_of_ble_eq_true rfl) (t_276 ((P8.1 76 0) - (1 : Int32)) P8) (fun v11 P10 => ?_)
          refine tr_gd (fun h12 => ?_)
          refine tr_blk 10 (pc' := 109) (rows' := kb_190_79.drop 21) (loc' := [.inr (12, 0, 0, 72), .inl (.int d1), .inl (.int x2), .inl (.int x3), .inl (.int x4), .inl (.int x5), .inl (.int x6), .inl (.int (((x6 + (1 : Int32)) + v11) - ((x6 + (1 : Int32)) + v11) / (P10.1 76 0) * (P10.1 76 0))), d8]) (st' := [.inl (.int (9 : Int32)), .inr (12, 0, 0, 72), .inl (.int (1 : Int32))]) (P1 := P10) rfl ⟨trivial, trivial, trivial, trivial, (ab_vi (by decide)), h12, trivial, trivial, trivial, trivial, trivial⟩ ?_
          refine tr_cWI (z := km_276) (av := [.inr (12, 0, 0, 72), .inl (.int (9 : Int32))]) (st' := [.inl (.int (1 : Int32))]) rfl rfl rfl (Nat.le_of_ble_eq_true rfl) ⟨rfl, Or.inl (by decide)⟩ rfl (Nat.le_of_ble_eq_true rfl) (t_276 (9 : Int32) P10) (fun v14 P13 => ?_)
          refine tr_blk 8 (pc' := 126) (rows' := kb_190_79.drop 30) (loc' := [.inr (12, 0, 0, 72), .inl (.int d1), .inl (.int x2), .inl (.int x3), .inl (.int x4), .inl (.int x5), .inl (.int x6), .inl (.int (((x6 + (1 : Int32)) + v11) - ((x6 + (1 : Int32)) + v11) / (P10.1 76 0) * (P10.1 76 0))), .inl (.int ((1 : Int32) + v14))]) (st' := [.inl (.int (1 : Int32)), .inl (.int ((1 : Int32) + v14)), .inl (.int (((x6 + (1 : Int32)) + v11) - ((x6 + (1 : Int32)) + v11) / (P10.1 76 0) * (P10.1 76 0))), .inl (.int x6), .inr (20, 366, 0, 478)]) (P1 := P13) rfl ⟨trivial, trivial, trivial, trivial, trivial, trivial, trivial, trivial, trivial⟩ ?_
          refine tr_cWI (z := km_197) (av := [.inr (20, 366, 0, 478), .inl (.int x6), .inl (.int (((x6 + (1 : Int32)) + v11) - ((x6 + (1 : Int32)) + v11) / (P10.1 76 0) * (P10.1 76 0))), .inl (.int ((1 : Int32) + v14)), .inl (.int (1 : Int32))]) (st' := []) rfl rfl rfl (Nat.le_of_ble_eq_true rfl) trivial rfl (Nat.le_of_ble_eq_true rfl) (t_197_366 478 x6 (((x6 + (1 : Int32)) + v11) - ((x6 + (1 : Int32)) + v11) / (P10.1 76 0) * (P10.1 76 0)) ((1 : Int32) + v14) (1 : Int32) P13) (fun v16 P15 => ?_)
          refine tr_blk 1 (pc' := 130) (rows' := kb_190_79.drop 32) (loc' := [.inr (12, 0, 0, 72), .inl (.int d1), .inl (.int x2), .inl (.int x3), .inl (.int x4), .inl (.int x5), .inl (.int x6), .inl (.int (((x6 + (1 : Int32)) + v11) - ((x6 + (1 : Int32)) + v11) / (P10.1 76 0) * (P10.1 76 0))), .inl (.int ((1 : Int32) + v14))]) (st' := []) (P1 := P15) rfl ⟨trivial, trivial⟩ ?_
          refine tr_nil (rows2 := kb_190_130) rfl (List.cons_ne_nil _ _) ?_
          refine tr_blk 1 (pc' := 133) (rows' := kb_190_130.drop 1) (loc' := [.inr (12, 0, 0, 72), .inl (.int d1), .inl (.int x2), .inl (.int x3), .inl (.int x4), .inl (.int x5), .inl (.int (x6 + 1)), .inl (.int (((x6 + (1 : Int32)) + v11) - ((x6 + (1 : Int32)) + v11) / (P10.1 76 0) * (P10.1 76 0))), .inl (.int ((1 : Int32) + v14))]) (st' := []) (P1 := P15) rfl ⟨trivial, trivial⟩ ?_
          refine tr_goto ?_
          exact ih x2 x3 x4 x5 (x6 + 1) (d1) (.inl (.int (((x6 + (1 : Int32)) + v11) - ((x6 + (1 : Int32)) + v11) / (P10.1 76 0) * (P10.1 76 0)))) (.inl (.int ((1 : Int32) + v14))) P15
      · refine tr_icT (cd := .ge) (Int32.not_lt.mp h19) ?_
        refine tr_nil (rows2 := kb_190_130) rfl (List.cons_ne_nil _ _) ?_
        refine tr_blk 1 (pc' := 133) (rows' := kb_190_130.drop 1) (loc' := [.inr (12, 0, 0, 72), .inl (.int d1), .inl (.int x2), .inl (.int x3), .inl (.int x4), .inl (.int x5), .inl (.int (x6 + 1)), d7, d8]) (st' := []) (P1 := P8) rfl ⟨trivial, trivial⟩ ?_
        refine tr_goto ?_
        exact ih x2 x3 x4 x5 (x6 + 1) (d1) (d7) (d8) P8
    · refine tr_icT (cd := .ge) (Int32.not_lt.mp h17) ?_
      refine tr_nil (rows2 := kb_190_136) rfl (List.cons_ne_nil _ _) ?_
      refine tr_blk 2 (pc' := 139) (rows' := kb_190_136.drop 2) (loc' := [.inr (12, 0, 0, 72), .inl (.int d1), .inl (.int x2), .inl (.int x3), .inl (.int x4), .inl (.int x5), .inl (.int x6), d7, d8]) (st' := [.inl (.int (16 : Int32)), .inr (12, 0, 0, 72)]) (P1 := P) rfl ⟨trivial, trivial, trivial⟩ ?_
      refine tr_cWI (z := km_276) (av := [.inr (12, 0, 0, 72), .inl (.int (16 : Int32))]) (st' := []) rfl rfl rfl (Nat.le_of_ble_eq_true rfl) ⟨rfl, Or.inl (by decide)⟩ rfl (Nat.le_of_ble_eq_true rfl) (t_276 (16 : Int32) P) (fun v6 P5 => ?_)
      refine tr_blk 1 (pc' := 144) (rows' := kb_190_136.drop 4) (loc' := [.inr (12, 0, 0, 72), .inl (.int d1), .inl (.int x2), .inl (.int x3), .inl (.int x4), .inl (.int x5), .inl (.int x6), d7, d8]) (st' := [.inl (.int x4), .inl (.int v6)]) (P1 := P5) rfl ⟨trivial, trivial⟩ ?_
      refine tr_if (fun h18 => ?_) (fun h18 => ?_)
      · refine tr_icF (cd := .ge) (Int32.not_le.mpr h18) ?_
        refine tr_blk 3 (pc' := 152) (rows' := kb_190_136.drop 8) (loc' := [.inr (12, 0, 0, 72), .inl (.int d1), .inl (.int x2), .inl (.int x3), .inl (.int x4), .inl (.int x5), .inl (.int x6), d7, d8]) (st' := [.inr (20, 366, 0, 478), .inr (12, 0, 0, 72)]) (P1 := P5) rfl ⟨trivial, trivial, trivial, trivial⟩ ?_
        refine tr_cWV (z := km_277) (av := [.inr (12, 0, 0, 72), .inr (20, 366, 0, 478)]) (st' := []) rfl rfl rfl (Nat.le_of_ble_eq_true rfl) ⟨rfl, Or.inl (by decide)⟩ rfl (Nat.le_of_ble_eq_true rfl) (t_277_366 478 N P5) (fun P7 => ?_)
        refine tr_nil (rows2 := kb_190_155) rfl (List.cons_ne_nil _ _) ?_
        refine tr_blk 1 (pc' := 158) (rows' := kb_190_155.drop 1) (loc' := [.inr (12, 0, 0, 72), .inl (.int d1), .inl (.int x2), .inl (.int x3), .inl (.int x4), .inl (.int (x5 + 1)), .inl (.int x6), d7, d8]) (st' := []) (P1 := P7) rfl ⟨trivial, trivial⟩ ?_
        refine tr_goto ?_
        exact hH24 x2 x3 x4 (x5 + 1) (d1) (.inl (.int x6)) (d7) (d8) P7
      · refine tr_icT (cd := .ge) (Int32.not_lt.mp h18) ?_
        refine tr_nil (rows2 := kb_190_155) rfl (List.cons_ne_nil _ _) ?_
        refine tr_blk 1 (pc' := 158) (rows' := kb_190_155.drop 1) (loc' := [.inr (12, 0, 0, 72), .inl (.int d1), .inl (.int x2), .inl (.int x3), .inl (.int x4), .inl (.int (x5 + 1)), .inl (.int x6), d7, d8]) (st' := []) (P1 := P5) rfl ⟨trivial, trivial⟩ ?_
        refine tr_goto ?_
        exact hH24 x2 x3 x4 (x5 + 1) (d1) (.inl (.int x6)) (d7) (d8) P5
def f_190_24 (N : Nat) : Nat → Int32 → Int32 → Int32 → Int32 → ab_P → Option ab_P
  | 0, _, _, _, _, _ => none
  | n + 1, x2, x3, x4, x5, P =>
    if x5 < x2 then
      ab_lt (ab_pI P 478 361 ((P.1 478 361) + (1 : Int32))) fun P4 =>
      f_190_45 N (fun y0 y1 y2 y3 y4 => f_190_24 N n y0 y1 y2 y3 y4) N x2 x3 x4 x5 (0 : Int32) P4
    else
    some P
theorem t_190_24 {xs : Nat × (Nat → Int32)} {d : Nat} (N : Nat) : ∀ n : Nat, ∀ (x2 : Int32) (x3 : Int32) (x4 : Int32) (x5 : Int32) (d1 : Int32) (d6 : ab_V) (d7 : ab_V) (d8 : ab_V) (P : ab_P), ab_tr xs wV (d + 3) 190 24 [] [.inr (12, 0, 0, 72), .inl (.int d1), .inl (.int x2), .inl (.int x3), .inl (.int x4), .inl (.int x5), d6, d7, d8] [] P (f_190_24 N n x2 x3 x4 x5 P) := by
  intro n
  induction n with
  | zero => intro x2 x3 x4 x5 d1 d6 d7 d8 P; exact tr_no
  | succ n ih =>
    intro x2 x3 x4 x5 d1 d6 d7 d8 P
    refine tr_nil (rows2 := kb_190_24) rfl (List.cons_ne_nil _ _) ?_
    refine tr_blk 2 (pc' := 27) (rows' := kb_190_24.drop 2) (loc' := [.inr (12, 0, 0, 72), .inl (.int d1), .inl (.int x2), .inl (.int x3), .inl (.int x4), .inl (.int x5), d6, d7, d8]) (st' := [.inl (.int x2), .inl (.int x5)]) (P1 := P) rfl ⟨trivial, trivial, trivial⟩ ?_
    refine tr_if (fun h21 => ?_) (fun h21 => ?_)
    · refine tr_icF (cd := .ge) (Int32.not_le.mpr h21) ?_
      refine tr_blk 8 (pc' := 42) (rows' := kb_190_24.drop 11) (loc' := [.inr (12, 0, 0, 72), .inl (.int d1), .inl (.int x2), .inl (.int x3), .inl (.int x4), .inl (.int x5), d6, d7, d8]) (st' := []) (P1 := (ab_pI P 478 361 ((P.1 478 361) + (1 : Int32)))) rfl ⟨trivial, trivial, trivial, trivial, (ab_vi (by decide)), trivial, trivial, (ab_vi (by decide)), trivial⟩ ?_
      refine tr_lt (fun P4 => ?_)
      refine tr_blk 2 (pc' := 45) (rows' := kb_190_24.drop 13) (loc' := [.inr (12, 0, 0, 72), .inl (.int d1), .inl (.int x2), .inl (.int x3), .inl (.int x4), .inl (.int x5), .inl (.int (0 : Int32)), d7, d8]) (st' := []) (P1 := P4) rfl ⟨trivial, trivial, trivial⟩ ?_
      exact t_190_45 N _ ih N x2 x3 x4 x5 (0 : Int32) (d1) (d7) (d8) P4
    · refine tr_icT (cd := .ge) (Int32.not_lt.mp h21) ?_
      refine tr_nil (rows2 := kb_190_161) rfl (List.cons_ne_nil _ _) ?_
      exact tr_reV (z := km_190) rfl rfl rfl
def f_190 (N : Nat) (a1 : Int32) (a2 : Int32) (a3 : Int32) (a4 : Int32) (P : ab_P) : Option ab_P :=
    Option.bind (f_123_366_366 477 478 N P) fun P1 =>
    ab_lt (ab_pI P1 72 43 a1) fun P2 =>
    ab_lt (ab_pI P2 72 44 (0 : Int32)) fun P3 =>
    f_190_24 N N a2 a3 a4 (0 : Int32) P3
theorem t_190 {xs : Nat × (Nat → Int32)} {d : Nat} (N : Nat) : ∀ (a1 : Int32) (a2 : Int32) (a3 : Int32) (a4 : Int32) (P : ab_P), ab_tr xs wV (d + 3) 190 0 [] [.inr (12, 0, 0, 72), .inl (.int a1), .inl (.int a2), .inl (.int a3), .inl (.int a4), ab_top, ab_top, ab_top, ab_top] [] P (f_190 N a1 a2 a3 a4 P) := by
  intro a1 a2 a3 a4 P
  unfold f_190
  refine tr_nil (rows2 := kb_190_0) rfl (List.cons_ne_nil _ _) ?_
  refine tr_blk 4 (pc' := 8) (rows' := kb_190_0.drop 4) (loc' := [.inr (12, 0, 0, 72), .inl (.int a1), .inl (.int a2), .inl (.int a3), .inl (.int a4), ab_top, ab_top, ab_top, ab_top]) (st' := [.inr (20, 366, 0, 478), .inr (20, 366, 0, 477)]) (P1 := P) rfl ⟨trivial, trivial, trivial, trivial, trivial⟩ ?_
  refine tr_cWV (z := km_123) (av := [.inr (20, 366, 0, 477), .inr (20, 366, 0, 478)]) (st' := []) rfl rfl rfl (Nat.le_of_ble_eq_true rfl) trivial rfl (Nat.le_of_ble_eq_true rfl) (t_123_366_366 477 478 N P) (fun P1 => ?_)
  refine tr_blk 3 (pc' := 16) (rows' := kb_190_0.drop 8) (loc' := [.inr (12, 0, 0, 72), .inl (.int a1), .inl (.int a2), .inl (.int a3), .inl (.int a4), ab_top, ab_top, ab_top, ab_top]) (st' := []) (P1 := (ab_pI P1 72 43 a1)) rfl ⟨trivial, trivial, trivial, trivial⟩ ?_
  refine tr_lt (fun P2 => ?_)
  refine tr_blk 3 (pc' := 21) (rows' := kb_190_0.drop 11) (loc' := [.inr (12, 0, 0, 72), .inl (.int a1), .inl (.int a2), .inl (.int a3), .inl (.int a4), ab_top, ab_top, ab_top, ab_top]) (st' := []) (P1 := (ab_pI P2 72 44 (0 : Int32))) rfl ⟨trivial, trivial, trivial, trivial⟩ ?_
  refine tr_lt (fun P3 => ?_)
  refine tr_blk 2 (pc' := 24) (rows' := kb_190_0.drop 13) (loc' := [.inr (12, 0, 0, 72), .inl (.int a1), .inl (.int a2), .inl (.int a3), .inl (.int a4), .inl (.int (0 : Int32)), ab_top, ab_top, ab_top]) (st' := []) (P1 := P3) rfl ⟨trivial, trivial, trivial⟩ ?_
  exact t_190_24 N N a2 a3 a4 (0 : Int32) (a1) (ab_top) (ab_top) (ab_top) P3
def f_85_104 (N : Nat) (x5 : Int32) (P : ab_P) : Option (Int32 × ab_P) :=
    if x5 = (2 : Int32) then
      some ((P.1 72 44), P)
    else
    Option.bind (f_177_366 478 N P (1 : Int32)) fun v11 =>
    some (v11, P)
theorem t_85_104 {xs : Nat × (Nat → Int32)} {d : Nat} (N : Nat) : ∀ (x5 : Int32) (d1 : Int32) (d2 : Int32) (d3 : Int32) (d4 : Int32) (P : ab_P), ab_tr xs wI (d + 4) 85 104 [] [.inr (12, 0, 0, 72), .inl (.int d1), .inl (.int d2), .inl (.int d3), .inl (.int d4), .inl (.int x5)] [] P (f_85_104 N x5 P) := by
  intro x5 d1 d2 d3 d4 P
  unfold f_85_104
  refine tr_nil (rows2 := kb_85_104) rfl (List.cons_ne_nil _ _) ?_
  refine tr_blk 2 (pc' := 107) (rows' := kb_85_104.drop 2) (loc' := [.inr (12, 0, 0, 72), .inl (.int d1), .inl (.int d2), .inl (.int d3), .inl (.int d4), .inl (.int x5)]) (st' := [.inl (.int (2 : Int32)), .inl (.int x5)]) (P1 := P) rfl ⟨trivial, trivial, trivial⟩ ?_
  refine tr_if (fun h12 => ?_) (fun h12 => ?_)
  · refine tr_icF (cd := .ne) (fun q => q h12) ?_
    refine tr_blk 2 (pc' := 114) (rows' := kb_85_104.drop 5) (loc' := [.inr (12, 0, 0, 72), .inl (.int d1), .inl (.int d2), .inl (.int d3), .inl (.int d4), .inl (.int x5)]) (st' := [.inl (.int (P.1 72 44))]) (P1 := P) rfl ⟨trivial, trivial, trivial⟩ ?_
    refine tr_goto ?_
    refine tr_nil (rows2 := kb_85_126) rfl (List.cons_ne_nil _ _) ?_
    exact tr_reI (z := km_85) rfl ⟨_, rfl, rfl⟩ rfl
  · refine tr_icT (cd := .ne) h12 ?_
    refine tr_nil (rows2 := kb_85_117) rfl (List.cons_ne_nil _ _) ?_
    refine tr_blk 4 (pc' := 123) (rows' := kb_85_117.drop 4) (loc' := [.inr (12, 0, 0, 72), .inl (.int d1), .inl (.int d2), .inl (.int d3), .inl (.int d4), .inl (.int x5)]) (st' := [.inl (.int (1 : Int32)), .inr (20, 366, 0, 478), .inr (12, 0, 0, 72)]) (P1 := P) rfl ⟨trivial, trivial, trivial, trivial, trivial⟩ ?_
    refine tr_cRI (z := km_177) (av := [.inr (12, 0, 0, 72), .inr (20, 366, 0, 478), .inl (.int (1 : Int32))]) (st' := []) rfl rfl rfl (Nat.le_of_ble_eq_true rfl) ⟨rfl, Or.inl (by decide)⟩ rfl (Nat.le_of_ble_eq_true rfl) (t_177_366 478 N P (1 : Int32)) (fun v11 => ?_)
    refine tr_nil (rows2 := kb_85_126) rfl (List.cons_ne_nil _ _) ?_
    exact tr_reI (z := km_85) rfl ⟨_, rfl, rfl⟩ rfl
def f_85_87 (N : Nat) (x5 : Int32) (P : ab_P) : Option (Int32 × ab_P) :=
    if x5 = (1 : Int32) then
      Option.bind (f_132_366 478 N P) fun v10 =>
      some (v10, P)
    else
    f_85_104 N x5 P
theorem t_85_87 {xs : Nat × (Nat → Int32)} {d : Nat} (N : Nat) : ∀ (x5 : Int32) (d1 : Int32) (d2 : Int32) (d3 : Int32) (d4 : Int32) (P : ab_P), ab_tr xs wI (d + 4) 85 87 [] [.inr (12, 0, 0, 72), .inl (.int d1), .inl (.int d2), .inl (.int d3), .inl (.int d4), .inl (.int x5)] [] P (f_85_87 N x5 P) := by
  intro x5 d1 d2 d3 d4 P
  unfold f_85_87
  refine tr_nil (rows2 := kb_85_87) rfl (List.cons_ne_nil _ _) ?_
  refine tr_blk 2 (pc' := 90) (rows' := kb_85_87.drop 2) (loc' := [.inr (12, 0, 0, 72), .inl (.int d1), .inl (.int d2), .inl (.int d3), .inl (.int d4), .inl (.int x5)]) (st' := [.inl (.int (1 : Int32)), .inl (.int x5)]) (P1 := P) rfl ⟨trivial, trivial, trivial⟩ ?_
  refine tr_if (fun h13 => ?_) (fun h13 => ?_)
  · refine tr_icF (cd := .ne) (fun q => q h13) ?_
    refine tr_blk 3 (pc' := 98) (rows' := kb_85_87.drop 6) (loc' := [.inr (12, 0, 0, 72), .inl (.int d1), .inl (.int d2), .inl (.int d3), .inl (.int d4), .inl (.int x5)]) (st' := [.inr (20, 366, 0, 478), .inr (12, 0, 0, 72)]) (P1 := P) rfl ⟨trivial, trivial, trivial, trivial⟩ ?_
    refine tr_cRI (z := km_132) (av := [.inr (12, 0, 0, 72), .inr (20, 366, 0, 478)]) (st' := []) rfl rfl rfl (Nat.le_of_ble_eq_true rfl) ⟨rfl, Or.inl (by decide)⟩ rfl (Nat.le_of_ble_eq_true rfl) (t_132_366 478 N P) (fun v10 => ?_)
    refine tr_goto ?_
    refine tr_nil (rows2 := kb_85_126) rfl (List.cons_ne_nil _ _) ?_
    exact tr_reI (z := km_85) rfl ⟨_, rfl, rfl⟩ rfl
  · refine tr_icT (cd := .ne) h13 ?_
    exact t_85_104 N x5 (d1) (d2) (d3) (d4) P
def f_85_62 (N : Nat) (x1 : Int32) (x2 : Int32) (x3 : Int32) (x4 : Int32) (x5 : Int32) (P : ab_P) : Option (Int32 × ab_P) :=
    Option.bind (f_190 N x1 x2 x3 x4 P) fun P8 =>
    if x5 = (0 : Int32) then
      Option.bind (f_142_366 478 N P8) fun v9 =>
      some (v9, P8)
    else
    f_85_87 N x5 P8
theorem t_85_62 {xs : Nat × (Nat → Int32)} {d : Nat} (N : Nat) : ∀ (x1 : Int32) (x2 : Int32) (x3 : Int32) (x4 : Int32) (x5 : Int32) (P : ab_P), ab_tr xs wI (d + 4) 85 62 [] [.inr (12, 0, 0, 72), .inl (.int x1), .inl (.int x2), .inl (.int x3), .inl (.int x4), .inl (.int x5)] [] P (f_85_62 N x1 x2 x3 x4 x5 P) := by
  intro x1 x2 x3 x4 x5 P
  unfold f_85_62
  refine tr_nil (rows2 := kb_85_62) rfl (List.cons_ne_nil _ _) ?_
  refine tr_blk 5 (pc' := 68) (rows' := kb_85_62.drop 5) (loc' := [.inr (12, 0, 0, 72), .inl (.int x1), .inl (.int x2), .inl (.int x3), .inl (.int x4), .inl (.int x5)]) (st' := [.inl (.int x4), .inl (.int x3), .inl (.int x2), .inl (.int x1), .inr (12, 0, 0, 72)]) (P1 := P) rfl ⟨trivial, trivial, trivial, trivial, trivial, trivial⟩ ?_
  refine tr_cWV (z := km_190) (av := [.inr (12, 0, 0, 72), .inl (.int x1), .inl (.int x2), .inl (.int x3), .inl (.int x4)]) (st' := []) rfl rfl rfl (Nat.le_of_ble_eq_true rfl) ⟨rfl, Or.inl (by decide)⟩ rfl (Nat.le_of_ble_eq_true rfl) (t_190 N x1 x2 x3 x4 P) (fun P8 => ?_)
  refine tr_blk 1 (pc' := 73) (rows' := kb_85_62.drop 7) (loc' := [.inr (12, 0, 0, 72), .inl (.int x1), .inl (.int x2), .inl (.int x3), .inl (.int x4), .inl (.int x5)]) (st' := [.inl (.int x5)]) (P1 := P8) rfl ⟨trivial, trivial⟩ ?_
  refine tr_if (fun h14 => ?_) (fun h14 => ?_)
  · refine tr_ifF (cd := .ne) (fun q => q h14) ?_
    refine tr_blk 3 (pc' := 81) (rows' := kb_85_62.drop 11) (loc' := [.inr (12, 0, 0, 72), .inl (.int x1), .inl (.int x2), .inl (.int x3), .inl (.int x4), .inl (.int x5)]) (st' := [.inr (20, 366, 0, 478), .inr (12, 0, 0, 72)]) (P1 := P8) rfl ⟨trivial, trivial, trivial, trivial⟩ ?_
    refine tr_cRI (z := km_142) (av := [.inr (12, 0, 0, 72), .inr (20, 366, 0, 478)]) (st' := []) rfl rfl rfl (Nat.le_of_ble_eq_true rfl) ⟨rfl, Or.inl (by decide)⟩ rfl (Nat.le_of_ble_eq_true rfl) (t_142_366 478 N P8) (fun v9 => ?_)
    refine tr_goto ?_
    refine tr_nil (rows2 := kb_85_126) rfl (List.cons_ne_nil _ _) ?_
    exact tr_reI (z := km_85) rfl ⟨_, rfl, rfl⟩ rfl
  · refine tr_ifT (cd := .ne) h14 ?_
    exact t_85_87 N x5 (x1) (x2) (x3) (x4) P8
def f_85_52 (N : Nat) (x1 : Int32) (x2 : Int32) (x3 : Int32) (x4 : Int32) (x5 : Int32) (s0 : Int32) (P : ab_P) : Option (Int32 × ab_P) :=
    ab_b2 (f_113 s0 (1 : Int32) (1 : Int32) P) fun v7 P6 =>
    if v7 = (0 : Int32) then
      f_85_62 N x1 x2 x3 x4 x5 P6
    else
    some ((0 : Int32), P6)
theorem t_85_52 {xs : Nat × (Nat → Int32)} {d : Nat} (N : Nat) : ∀ (x1 : Int32) (x2 : Int32) (x3 : Int32) (x4 : Int32) (x5 : Int32) (s0 : Int32) (P : ab_P), ab_tr xs wI (d + 4) 85 52 [] [.inr (12, 0, 0, 72), .inl (.int x1), .inl (.int x2), .inl (.int x3), .inl (.int x4), .inl (.int x5)] [.inl (.int s0), .inr (12, 0, 0, 72)] P (f_85_52 N x1 x2 x3 x4 x5 s0 P) := by
  intro x1 x2 x3 x4 x5 s0 P
  unfold f_85_52
  refine tr_nil (rows2 := kb_85_52) rfl (List.cons_ne_nil _ _) ?_
  refine tr_blk 2 (pc' := 54) (rows' := kb_85_52.drop 2) (loc' := [.inr (12, 0, 0, 72), .inl (.int x1), .inl (.int x2), .inl (.int x3), .inl (.int x4), .inl (.int x5)]) (st' := [.inl (.int (1 : Int32)), .inl (.int (1 : Int32)), .inl (.int s0), .inr (12, 0, 0, 72)]) (P1 := P) rfl ⟨trivial, trivial, trivial⟩ ?_
  refine tr_cWI (z := km_113) (av := [.inr (12, 0, 0, 72), .inl (.int s0), .inl (.int (1 : Int32)), .inl (.int (1 : Int32))]) (st' := []) rfl rfl rfl (Nat.le_of_ble_eq_true rfl) ⟨rfl, Or.inl (by decide)⟩ rfl (Nat.le_of_ble_eq_true rfl) (t_113 s0 (1 : Int32) (1 : Int32) P) (fun v7 P6 => ?_)
  refine tr_if (fun h15 => ?_) (fun h15 => ?_)
  · refine tr_ifT (cd := .eq) h15 ?_
    exact t_85_62 N x1 x2 x3 x4 x5 P6
  · refine tr_ifF (cd := .eq) h15 ?_
    refine tr_blk 1 (pc' := 61) (rows' := kb_85_52.drop 5) (loc' := [.inr (12, 0, 0, 72), .inl (.int x1), .inl (.int x2), .inl (.int x3), .inl (.int x4), .inl (.int x5)]) (st' := [.inl (.int (0 : Int32))]) (P1 := P6) rfl ⟨trivial, trivial⟩ ?_
    exact tr_reI (z := km_85) rfl ⟨_, rfl, rfl⟩ rfl
def f_85 (N : Nat) (a1 : Int32) (a2 : Int32) (a3 : Int32) (a4 : Int32) (a5 : Int32) (P : ab_P) : Option (Int32 × ab_P) :=
    ab_lt (ab_pI P 72 0 (0 : Int32)) fun P1 =>
    Option.bind (f_112 P1 a2 (1 : Int32) (30 : Int32)) fun v2 =>
    if v2 = (0 : Int32) then
      f_85_52 N a1 a2 a3 a4 a5 (1 : Int32) P1
    else
    Option.bind (f_112 P1 a3 (0 : Int32) (16 : Int32)) fun v3 =>
    if v3 = (0 : Int32) then
      f_85_52 N a1 a2 a3 a4 a5 (1 : Int32) P1
    else
    Option.bind (f_112 P1 a4 (0 : Int32) (16 : Int32)) fun v4 =>
    if v4 = (0 : Int32) then
      f_85_52 N a1 a2 a3 a4 a5 (1 : Int32) P1
    else
    Option.bind (f_112 P1 a5 (0 : Int32) (3 : Int32)) fun v5 =>
    if v5 = (0 : Int32) then
      f_85_52 N a1 a2 a3 a4 a5 (1 : Int32) P1
    else
    f_85_52 N a1 a2 a3 a4 a5 (0 : Int32) P1
theorem t_85 {xs : Nat × (Nat → Int32)} {d : Nat} (N : Nat) : ∀ (a1 : Int32) (a2 : Int32) (a3 : Int32) (a4 : Int32) (a5 : Int32) (P : ab_P), ab_tr xs wI (d + 4) 85 0 [] [.inr (12, 0, 0, 72), .inl (.int a1), .inl (.int a2), .inl (.int a3), .inl (.int a4), .inl (.int a5)] [] P (f_85 N a1 a2 a3 a4 a5 P) := by
  intro a1 a2 a3 a4 a5 P
  unfold f_85
  refine tr_nil (rows2 := kb_85_0) rfl (List.cons_ne_nil _ _) ?_
  refine tr_blk 3 (pc' := 5) (rows' := kb_85_0.drop 3) (loc' := [.inr (12, 0, 0, 72), .inl (.int a1), .inl (.int a2), .inl (.int a3), .inl (.int a4), .inl (.int a5)]) (st' := []) (P1 := (ab_pI P 72 0 (0 : Int32))) rfl ⟨trivial, trivial, trivial, trivial⟩ ?_
  refine tr_lt (fun P1 => ?_)
  refine tr_blk 4 (pc' := 10) (rows' := kb_85_0.drop 7) (loc' := [.inr (12, 0, 0, 72), .inl (.int a1), .inl (.int a2), .inl (.int a3), .inl (.int a4), .inl (.int a5)]) (st' := [.inl (.int (30 : Int32)), .inl (.int (1 : Int32)), .inl (.int a2), .inr (12, 0, 0, 72)]) (P1 := P1) rfl ⟨trivial, trivial, trivial, trivial, trivial⟩ ?_
  refine tr_cRI (z := km_112) (av := [.inl (.int a2), .inl (.int (1 : Int32)), .inl (.int (30 : Int32))]) (st' := [.inr (12, 0, 0, 72)]) rfl rfl rfl (Nat.le_of_ble_eq_true rfl) trivial rfl (Nat.le_of_ble_eq_true rfl) (t_112 P1 a2 (1 : Int32) (30 : Int32)) (fun v2 => ?_)
  refine tr_if (fun h16 => ?_) (fun h16 => ?_)
  · refine tr_ifT (cd := .eq) h16 ?_
    refine tr_nil (rows2 := kb_85_47) rfl (List.cons_ne_nil _ _) ?_
    refine tr_blk 1 (pc' := 48) (rows' := kb_85_47.drop 1) (loc' := [.inr (12, 0, 0, 72), .inl (.int a1), .inl (.int a2), .inl (.int a3), .inl (.int a4), .inl (.int a5)]) (st' := [.inl (.int (1 : Int32)), .inr (12, 0, 0, 72)]) (P1 := P1) rfl ⟨trivial, trivial⟩ ?_
    refine tr_goto ?_
    exact t_85_52 N a1 a2 a3 a4 a5 (1 : Int32) P1
  · refine tr_ifF (cd := .eq) h16 ?_
    refine tr_blk 3 (pc' := 20) (rows' := kb_85_0.drop 12) (loc' := [.inr (12, 0, 0, 72), .inl (.int a1), .inl (.int a2), .inl (.int a3), .inl (.int a4), .inl (.int a5)]) (st' := [.inl (.int (16 : Int32)), .inl (.int (0 : Int32)), .inl (.int a3), .inr (12, 0, 0, 72)]) (P1 := P1) rfl ⟨trivial, trivial, trivial, trivial⟩ ?_
    refine tr_cRI (z := km_112) (av := [.inl (.int a3), .inl (.int (0 : Int32)), .inl (.int (16 : Int32))]) (st' := [.inr (12, 0, 0, 72)]) rfl rfl rfl (Nat.le_of_ble_eq_true rfl) trivial rfl (Nat.le_of_ble_eq_true rfl) (t_112 P1 a3 (0 : Int32) (16 : Int32)) (fun v3 => ?_)
    refine tr_if (fun h17 => ?_) (fun h17 => ?_)
    · refine tr_ifT (cd := .eq) h17 ?_
      refine tr_nil (rows2 := kb_85_47) rfl (List.cons_ne_nil _ _) ?_
      refine tr_blk 1 (pc' := 48) (rows' := kb_85_47.drop 1) (loc' := [.inr (12, 0, 0, 72), .inl (.int a1), .inl (.int a2), .inl (.int a3), .inl (.int a4), .inl (.int a5)]) (st' := [.inl (.int (1 : Int32)), .inr (12, 0, 0, 72)]) (P1 := P1) rfl ⟨trivial, trivial⟩ ?_
      refine tr_goto ?_
      exact t_85_52 N a1 a2 a3 a4 a5 (1 : Int32) P1
    · refine tr_ifF (cd := .eq) h17 ?_
      refine tr_blk 3 (pc' := 31) (rows' := kb_85_0.drop 17) (loc' := [.inr (12, 0, 0, 72), .inl (.int a1), .inl (.int a2), .inl (.int a3), .inl (.int a4), .inl (.int a5)]) (st' := [.inl (.int (16 : Int32)), .inl (.int (0 : Int32)), .inl (.int a4), .inr (12, 0, 0, 72)]) (P1 := P1) rfl ⟨trivial, trivial, trivial, trivial⟩ ?_
      refine tr_cRI (z := km_112) (av := [.inl (.int a4), .inl (.int (0 : Int32)), .inl (.int (16 : Int32))]) (st' := [.inr (12, 0, 0, 72)]) rfl rfl rfl (Nat.le_of_ble_eq_true rfl) trivial rfl (Nat.le_of_ble_eq_true rfl) (t_112 P1 a4 (0 : Int32) (16 : Int32)) (fun v4 => ?_)
      refine tr_if (fun h18 => ?_) (fun h18 => ?_)
      · refine tr_ifT (cd := .eq) h18 ?_
        refine tr_nil (rows2 := kb_85_47) rfl (List.cons_ne_nil _ _) ?_
        refine tr_blk 1 (pc' := 48) (rows' := kb_85_47.drop 1) (loc' := [.inr (12, 0, 0, 72), .inl (.int a1), .inl (.int a2), .inl (.int a3), .inl (.int a4), .inl (.int a5)]) (st' := [.inl (.int (1 : Int32)), .inr (12, 0, 0, 72)]) (P1 := P1) rfl ⟨trivial, trivial⟩ ?_
        refine tr_goto ?_
        exact t_85_52 N a1 a2 a3 a4 a5 (1 : Int32) P1
      · refine tr_ifF (cd := .eq) h18 ?_
        refine tr_blk 3 (pc' := 41) (rows' := kb_85_0.drop 22) (loc' := [.inr (12, 0, 0, 72), .inl (.int a1), .inl (.int a2), .inl (.int a3), .inl (.int a4), .inl (.int a5)]) (st' := [.inl (.int (3 : Int32)), .inl (.int (0 : Int32)), .inl (.int a5), .inr (12, 0, 0, 72)]) (P1 := P1) rfl ⟨trivial, trivial, trivial, trivial⟩ ?_
        refine tr_cRI (z := km_112) (av := [.inl (.int a5), .inl (.int (0 : Int32)), .inl (.int (3 : Int32))]) (st' := [.inr (12, 0, 0, 72)]) rfl rfl rfl (Nat.le_of_ble_eq_true rfl) trivial rfl (Nat.le_of_ble_eq_true rfl) (t_112 P1 a5 (0 : Int32) (3 : Int32)) (fun v5 => ?_)
        refine tr_if (fun h19 => ?_) (fun h19 => ?_)
        · refine tr_ifF (cd := .ne) (fun q => q h19) ?_
          refine tr_nil (rows2 := kb_85_47) rfl (List.cons_ne_nil _ _) ?_
          refine tr_blk 1 (pc' := 48) (rows' := kb_85_47.drop 1) (loc' := [.inr (12, 0, 0, 72), .inl (.int a1), .inl (.int a2), .inl (.int a3), .inl (.int a4), .inl (.int a5)]) (st' := [.inl (.int (1 : Int32)), .inr (12, 0, 0, 72)]) (P1 := P1) rfl ⟨trivial, trivial⟩ ?_
          refine tr_goto ?_
          exact t_85_52 N a1 a2 a3 a4 a5 (1 : Int32) P1
        · refine tr_ifT (cd := .ne) h19 ?_
          refine tr_nil (rows2 := kb_85_51) rfl (List.cons_ne_nil _ _) ?_
          refine tr_blk 1 (pc' := 52) (rows' := kb_85_51.drop 1) (loc' := [.inr (12, 0, 0, 72), .inl (.int a1), .inl (.int a2), .inl (.int a3), .inl (.int a4), .inl (.int a5)]) (st' := [.inl (.int (0 : Int32)), .inr (12, 0, 0, 72)]) (P1 := P1) rfl ⟨trivial, trivial⟩ ?_
          exact t_85_52 N a1 a2 a3 a4 a5 (0 : Int32) P1
def f_191_120 (N : Nat) (H69 : Int32 → Int32 → Int32 → Int32 → Int32 → Int32 → Int32 → Int32 → Int32 → Int32 → Int32 → ab_P → Option ((Int32 ⊕ Fin 3) × ab_P)) (x1 : Int32) (x2 : Int32) (x3 : Int32) (x4 : Int32) (x5 : Int32) (x6 : Int32) (x7 : Int32) (x9 : Int32) (x10 : Int32) (x11 : Int32) (x12 : Int32) (s0 : Int32) (P : ab_P) : Option ((Int32 ⊕ Fin 3) × ab_P) :=
    if x6 = (2 : Int32) then
      Option.bind (f_275 N P) fun v11 =>
      if v11 = x7 then
        H69 x1 x2 x3 x4 x5 x6 x7 s0 (ab_mx x9 x12) (x10 + (1 : Int32)) (x11 + 1) P
      else
      H69 x1 x2 x3 x4 x5 x6 x7 s0 (ab_mx x9 x12) (x10 + (0 : Int32)) (x11 + 1) P
    else
    H69 x1 x2 x3 x4 x5 x6 x7 s0 (ab_mx x9 x12) (x10 + (0 : Int32)) (x11 + 1) P
theorem t_191_120 {xs : Nat × (Nat → Int32)} {d : Nat} (N : Nat) (H69 : Int32 → Int32 → Int32 → Int32 → Int32 → Int32 → Int32 → Int32 → Int32 → Int32 → Int32 → ab_P → Option ((Int32 ⊕ Fin 3) × ab_P)) (hH69 : ∀ (x1 : Int32) (x2 : Int32) (x3 : Int32) (x4 : Int32) (x5 : Int32) (x6 : Int32) (x7 : Int32) (x8 : Int32) (x9 : Int32) (x10 : Int32) (x11 : Int32) (d12 : ab_V) (P : ab_P), ab_tr xs xI (d + 5) 191 69 [] [.inr (11, 0, 0, 0), .inl (.int x1), .inl (.int x2), .inl (.int x3), .inl (.int x4), .inl (.int x5), .inl (.int x6), .inl (.int x7), .inl (.int x8), .inl (.int x9), .inl (.int x10), .inl (.int x11), d12] [] P (H69 x1 x2 x3 x4 x5 x6 x7 x8 x9 x10 x11 P)) : ∀ (x1 : Int32) (x2 : Int32) (x3 : Int32) (x4 : Int32) (x5 : Int32) (x6 : Int32) (x7 : Int32) (x9 : Int32) (x10 : Int32) (x11 : Int32) (x12 : Int32) (s0 : Int32) (d8 : Int32) (P : ab_P), ab_tr xs xI (d + 5) 191 120 [] [.inr (11, 0, 0, 0), .inl (.int x1), .inl (.int x2), .inl (.int x3), .inl (.int x4), .inl (.int x5), .inl (.int x6), .inl (.int x7), .inl (.int d8), .inl (.int x9), .inl (.int x10), .inl (.int x11), .inl (.int x12)] [.inl (.int s0)] P (f_191_120 N H69 x1 x2 x3 x4 x5 x6 x7 x9 x10 x11 x12 s0 P) := by
  intro x1 x2 x3 x4 x5 x6 x7 x9 x10 x11 x12 s0 d8 P
  unfold f_191_120
  refine tr_nil (rows2 := kb_191_120) rfl (List.cons_ne_nil _ _) ?_
  refine tr_blk 8 (pc' := 136) (rows' := kb_191_120.drop 8) (loc' := [.inr (11, 0, 0, 0), .inl (.int x1), .inl (.int x2), .inl (.int x3), .inl (.int x4), .inl (.int x5), .inl (.int x6), .inl (.int x7), .inl (.int s0), .inl (.int (ab_mx x9 x12)), .inl (.int x10), .inl (.int x11), .inl (.int x12)]) (st' := [.inl (.int (2 : Int32)), .inl (.int x6), .inl (.int x10)]) (P1 := P) rfl ⟨trivial, trivial, trivial, (Nat.le_of_ble_eq_true rfl), trivial, trivial, trivial, trivial, trivial⟩ ?_
  refine tr_if (fun h12 => ?_) (fun h12 => ?_)
  · refine tr_icF (cd := .ne) (fun q => q h12) ?_
    refine tr_blk 2 (pc' := 143) (rows' := kb_191_120.drop 11) (loc' := [.inr (11, 0, 0, 0), .inl (.int x1), .inl (.int x2), .inl (.int x3), .inl (.int x4), .inl (.int x5), .inl (.int x6), .inl (.int x7), .inl (.int s0), .inl (.int (ab_mx x9 x12)), .inl (.int x10), .inl (.int x11), .inl (.int x12)]) (st' := [.inr (7, 0, 0, 61), .inl (.int x10)]) (P1 := P) rfl ⟨trivial, trivial, trivial⟩ ?_
    refine tr_cRI (z := km_275) (av := [.inr (7, 0, 0, 61)]) (st' := [.inl (.int x10)]) rfl rfl rfl (Nat.le_of_ble_eq_true rfl) ⟨rfl, Or.inl (by decide)⟩ rfl (Nat.le_of_ble_eq_true rfl) (t_275 N P) (fun v11 => ?_)
    refine tr_blk 1 (pc' := 148) (rows' := kb_191_120.drop 13) (loc' := [.inr (11, 0, 0, 0), .inl (.int x1), .inl (.int x2), .inl (.int x3), .inl (.int x4), .inl (.int x5), .inl (.int x6), .inl (.int x7), .inl (.int s0), .inl (.int (ab_mx x9 x12)), .inl (.int x10), .inl (.int x11), .inl (.int x12)]) (st' := [.inl (.int x7), .inl (.int v11), .inl (.int x10)]) (P1 := P) rfl ⟨trivial, trivial⟩ ?_
    refine tr_if (fun h13 => ?_) (fun h13 => ?_)
    · refine tr_icF (cd := .ne) (fun q => q h13) ?_
      refine tr_blk 1 (pc' := 152) (rows' := kb_191_120.drop 15) (loc' := [.inr (11, 0, 0, 0), .inl (.int x1), .inl (.int x2), .inl (.int x3), .inl (.int x4), .inl (.int x5), .inl (.int x6), .inl (.int x7), .inl (.int s0), .inl (.int (ab_mx x9 x12)), .inl (.int x10), .inl (.int x11), .inl (.int x12)]) (st' := [.inl (.int (1 : Int32)), .inl (.int x10)]) (P1 := P) rfl ⟨trivial, trivial⟩ ?_
      refine tr_goto ?_
      refine tr_nil (rows2 := kb_191_156) rfl (List.cons_ne_nil _ _) ?_
      refine tr_blk 3 (pc' := 162) (rows' := kb_191_156.drop 3) (loc' := [.inr (11, 0, 0, 0), .inl (.int x1), .inl (.int x2), .inl (.int x3), .inl (.int x4), .inl (.int x5), .inl (.int x6), .inl (.int x7), .inl (.int s0), .inl (.int (ab_mx x9 x12)), .inl (.int (x10 + (1 : Int32))), .inl (.int (x11 + 1)), .inl (.int x12)]) (st' := []) (P1 := P) rfl ⟨trivial, trivial, trivial, trivial⟩ ?_
      refine tr_goto ?_
      exact hH69 x1 x2 x3 x4 x5 x6 x7 s0 (ab_mx x9 x12) (x10 + (1 : Int32)) (x11 + 1) (.inl (.int x12)) P
    · refine tr_icT (cd := .ne) h13 ?_
      refine tr_nil (rows2 := kb_191_155) rfl (List.cons_ne_nil _ _) ?_
      refine tr_blk 1 (pc' := 156) (rows' := kb_191_155.drop 1) (loc' := [.inr (11, 0, 0, 0), .inl (.int x1), .inl (.int x2), .inl (.int x3), .inl (.int x4), .inl (.int x5), .inl (.int x6), .inl (.int x7), .inl (.int s0), .inl (.int (ab_mx x9 x12)), .inl (.int x10), .inl (.int x11), .inl (.int x12)]) (st' := [.inl (.int (0 : Int32)), .inl (.int x10)]) (P1 := P) rfl ⟨trivial, trivial⟩ ?_
      refine tr_nil (rows2 := kb_191_156) rfl (List.cons_ne_nil _ _) ?_
      refine tr_blk 3 (pc' := 162) (rows' := kb_191_156.drop 3) (loc' := [.inr (11, 0, 0, 0), .inl (.int x1), .inl (.int x2), .inl (.int x3), .inl (.int x4), .inl (.int x5), .inl (.int x6), .inl (.int x7), .inl (.int s0), .inl (.int (ab_mx x9 x12)), .inl (.int (x10 + (0 : Int32))), .inl (.int (x11 + 1)), .inl (.int x12)]) (st' := []) (P1 := P) rfl ⟨trivial, trivial, trivial, trivial⟩ ?_
      refine tr_goto ?_
      exact hH69 x1 x2 x3 x4 x5 x6 x7 s0 (ab_mx x9 x12) (x10 + (0 : Int32)) (x11 + 1) (.inl (.int x12)) P
  · refine tr_icT (cd := .ne) h12 ?_
    refine tr_nil (rows2 := kb_191_155) rfl (List.cons_ne_nil _ _) ?_
    refine tr_blk 1 (pc' := 156) (rows' := kb_191_155.drop 1) (loc' := [.inr (11, 0, 0, 0), .inl (.int x1), .inl (.int x2), .inl (.int x3), .inl (.int x4), .inl (.int x5), .inl (.int x6), .inl (.int x7), .inl (.int s0), .inl (.int (ab_mx x9 x12)), .inl (.int x10), .inl (.int x11), .inl (.int x12)]) (st' := [.inl (.int (0 : Int32)), .inl (.int x10)]) (P1 := P) rfl ⟨trivial, trivial⟩ ?_
    refine tr_nil (rows2 := kb_191_156) rfl (List.cons_ne_nil _ _) ?_
    refine tr_blk 3 (pc' := 162) (rows' := kb_191_156.drop 3) (loc' := [.inr (11, 0, 0, 0), .inl (.int x1), .inl (.int x2), .inl (.int x3), .inl (.int x4), .inl (.int x5), .inl (.int x6), .inl (.int x7), .inl (.int s0), .inl (.int (ab_mx x9 x12)), .inl (.int (x10 + (0 : Int32))), .inl (.int (x11 + 1)), .inl (.int x12)]) (st' := []) (P1 := P) rfl ⟨trivial, trivial, trivial, trivial⟩ ?_
    refine tr_goto ?_
    exact hH69 x1 x2 x3 x4 x5 x6 x7 s0 (ab_mx x9 x12) (x10 + (0 : Int32)) (x11 + 1) (.inl (.int x12)) P
def f_191_69 (N : Nat) : Nat → Int32 → Int32 → Int32 → Int32 → Int32 → Int32 → Int32 → Int32 → Int32 → Int32 → Int32 → ab_P → Option ((Int32 ⊕ Fin 3) × ab_P)
  | 0, _, _, _, _, _, _, _, _, _, _, _, _ => none
  | n + 1, x1, x2, x3, x4, x5, x6, x7, x8, x9, x10, x11, P =>
    if x11 < x2 then
      Option.bind (f_274 N (x1 + x11) x3 x4 x5 P) fun P9 =>
      Option.bind (f_236 62 N P9) fun v10 =>
      if x11 = (0 : Int32) then
        f_191_120 N (fun y0 y1 y2 y3 y4 y5 y6 y7 y8 y9 y10 y11 => f_191_69 N n y0 y1 y2 y3 y4 y5 y6 y7 y8 y9 y10 y11) x1 x2 x3 x4 x5 x6 x7 x9 x10 x11 v10 v10 P9
      else
      f_191_120 N (fun y0 y1 y2 y3 y4 y5 y6 y7 y8 y9 y10 y11 => f_191_69 N n y0 y1 y2 y3 y4 y5 y6 y7 y8 y9 y10 y11) x1 x2 x3 x4 x5 x6 x7 x9 x10 x11 v10 (ab_mn x8 v10) P9
    else
    if x6 = (0 : Int32) then
      some (.inl x8, P)
    else
    if x6 = (1 : Int32) then
      some (.inl x9, P)
    else
    some (.inl x10, P)
theorem t_191_69 {xs : Nat × (Nat → Int32)} {d : Nat} (N : Nat) : ∀ n : Nat, ∀ (x1 : Int32) (x2 : Int32) (x3 : Int32) (x4 : Int32) (x5 : Int32) (x6 : Int32) (x7 : Int32) (x8 : Int32) (x9 : Int32) (x10 : Int32) (x11 : Int32) (d12 : ab_V) (P : ab_P), ab_tr xs xI (d + 5) 191 69 [] [.inr (11, 0, 0, 0), .inl (.int x1), .inl (.int x2), .inl (.int x3), .inl (.int x4), .inl (.int x5), .inl (.int x6), .inl (.int x7), .inl (.int x8), .inl (.int x9), .inl (.int x10), .inl (.int x11), d12] [] P (f_191_69 N n x1 x2 x3 x4 x5 x6 x7 x8 x9 x10 x11 P) := by
  intro n
  induction n with
  | zero => intro x1 x2 x3 x4 x5 x6 x7 x8 x9 x10 x11 d12 P; exact tr_no
  | succ n ih =>
    intro x1 x2 x3 x4 x5 x6 x7 x8 x9 x10 x11 d12 P
    refine tr_nil (rows2 := kb_191_69) rfl (List.cons_ne_nil _ _) ?_
    refine tr_blk 2 (pc' := 72) (rows' := kb_191_69.drop 2) (loc' := [.inr (11, 0, 0, 0), .inl (.int x1), .inl (.int x2), .inl (.int x3), .inl (.int x4), .inl (.int x5), .inl (.int x6), .inl (.int x7), .inl (.int x8), .inl (.int x9), .inl (.int x10), .inl (.int x11), d12]) (st' := [.inl (.int x2), .inl (.int x11)]) (P1 := P) rfl ⟨trivial, trivial, trivial⟩ ?_
    refine tr_if (fun h14 => ?_) (fun h14 => ?_)
    · refine tr_icF (cd := .ge) (Int32.not_le.mpr h14) ?_
      refine tr_blk 8 (pc' := 88) (rows' := kb_191_69.drop 11) (loc' := [.inr (11, 0, 0, 0), .inl (.int x1), .inl (.int x2), .inl (.int x3), .inl (.int x4), .inl (.int x5), .inl (.int x6), .inl (.int x7), .inl (.int x8), .inl (.int x9), .inl (.int x10), .inl (.int x11), d12]) (st' := [.inl (.int x5), .inl (.int x4), .inl (.int x3), .inl (.int (x1 + x11)), .inr (7, 0, 0, 61)]) (P1 := P) rfl ⟨trivial, trivial, trivial, trivial, trivial, trivial, trivial, trivial, trivial⟩ ?_
      refine tr_cWV (z := km_274) (av := [.inr (7, 0, 0, 61), .inl (.int (x1 + x11)), .inl (.int x3), .inl (.int x4), .inl (.int x5)]) (st' := []) rfl rfl rfl (Nat.le_of_ble_eq_true rfl) ⟨rfl, Or.inl (by decide)⟩ rfl (Nat.le_of_ble_eq_true rfl) (t_274 N (x1 + x11) x3 x4 x5 P) (fun P9 => ?_)
      refine tr_blk 3 (pc' := 98) (rows' := kb_191_69.drop 15) (loc' := [.inr (11, 0, 0, 0), .inl (.int x1), .inl (.int x2), .inl (.int x3), .inl (.int x4), .inl (.int x5), .inl (.int x6), .inl (.int x7), .inl (.int x8), .inl (.int x9), .inl (.int x10), .inl (.int x11), d12]) (st' := [.inr (6, 0, 0, 62)]) (P1 := P9) rfl ⟨trivial, trivial, trivial, trivial⟩ ?_
      refine tr_cRI (z := km_236) (av := [.inr (6, 0, 0, 62)]) (st' := []) rfl rfl rfl (Nat.le_of_ble_eq_true rfl) ⟨rfl, Or.inl (by decide)⟩ rfl (Nat.le_of_ble_eq_true rfl) (t_236 62 N P9) (fun v10 => ?_)
      refine tr_blk 2 (pc' := 105) (rows' := kb_191_69.drop 18) (loc' := [.inr (11, 0, 0, 0), .inl (.int x1), .inl (.int x2), .inl (.int x3), .inl (.int x4), .inl (.int x5), .inl (.int x6), .inl (.int x7), .inl (.int x8), .inl (.int x9), .inl (.int x10), .inl (.int x11), .inl (.int v10)]) (st' := [.inl (.int x11)]) (P1 := P9) rfl ⟨trivial, trivial, trivial⟩ ?_
      refine tr_if (fun h17 => ?_) (fun h17 => ?_)
      · refine tr_ifF (cd := .ne) (fun q => q h17) ?_
        refine tr_blk 1 (pc' := 110) (rows' := kb_191_69.drop 20) (loc' := [.inr (11, 0, 0, 0), .inl (.int x1), .inl (.int x2), .inl (.int x3), .inl (.int x4), .inl (.int x5), .inl (.int x6), .inl (.int x7), .inl (.int x8), .inl (.int x9), .inl (.int x10), .inl (.int x11), .inl (.int v10)]) (st' := [.inl (.int v10)]) (P1 := P9) rfl ⟨trivial, trivial⟩ ?_
        refine tr_goto ?_
        exact t_191_120 N _ ih x1 x2 x3 x4 x5 x6 x7 x9 x10 x11 v10 v10 (x8) P9
      · refine tr_ifT (cd := .ne) h17 ?_
        refine tr_nil (rows2 := kb_191_113) rfl (List.cons_ne_nil _ _) ?_
        refine tr_blk 3 (pc' := 120) (rows' := kb_191_113.drop 3) (loc' := [.inr (11, 0, 0, 0), .inl (.int x1), .inl (.int x2), .inl (.int x3), .inl (.int x4), .inl (.int x5), .inl (.int x6), .inl (.int x7), .inl (.int x8), .inl (.int x9), .inl (.int x10), .inl (.int x11), .inl (.int v10)]) (st' := [.inl (.int (ab_mn x8 v10))]) (P1 := P9) rfl ⟨trivial, trivial, (Nat.le_of_ble_eq_true rfl), trivial⟩ ?_
        exact t_191_120 N _ ih x1 x2 x3 x4 x5 x6 x7 x9 x10 x11 v10 (ab_mn x8 v10) (x8) P9
    · refine tr_icT (cd := .ge) (Int32.not_lt.mp h14) ?_
      refine tr_nil (rows2 := kb_191_165) rfl (List.cons_ne_nil _ _) ?_
      refine tr_blk 1 (pc' := 167) (rows' := kb_191_165.drop 1) (loc' := [.inr (11, 0, 0, 0), .inl (.int x1), .inl (.int x2), .inl (.int x3), .inl (.int x4), .inl (.int x5), .inl (.int x6), .inl (.int x7), .inl (.int x8), .inl (.int x9), .inl (.int x10), .inl (.int x11), d12]) (st' := [.inl (.int x6)]) (P1 := P) rfl ⟨trivial, trivial⟩ ?_
      refine tr_if (fun h15 => ?_) (fun h15 => ?_)
      · refine tr_ifF (cd := .ne) (fun q => q h15) ?_
        refine tr_blk 1 (pc' := 172) (rows' := kb_191_165.drop 3) (loc' := [.inr (11, 0, 0, 0), .inl (.int x1), .inl (.int x2), .inl (.int x3), .inl (.int x4), .inl (.int x5), .inl (.int x6), .inl (.int x7), .inl (.int x8), .inl (.int x9), .inl (.int x10), .inl (.int x11), d12]) (st' := [.inl (.int x8)]) (P1 := P) rfl ⟨trivial, trivial⟩ ?_
        refine tr_goto ?_
        refine tr_nil (rows2 := kb_191_188) rfl (List.cons_ne_nil _ _) ?_
        exact tr_reI (z := km_191) rfl ⟨_, rfl, rfl⟩ rfl
      · refine tr_ifT (cd := .ne) h15 ?_
        refine tr_nil (rows2 := kb_191_175) rfl (List.cons_ne_nil _ _) ?_
        refine tr_blk 2 (pc' := 178) (rows' := kb_191_175.drop 2) (loc' := [.inr (11, 0, 0, 0), .inl (.int x1), .inl (.int x2), .inl (.int x3), .inl (.int x4), .inl (.int x5), .inl (.int x6), .inl (.int x7), .inl (.int x8), .inl (.int x9), .inl (.int x10), .inl (.int x11), d12]) (st' := [.inl (.int (1 : Int32)), .inl (.int x6)]) (P1 := P) rfl ⟨trivial, trivial, trivial⟩ ?_
        refine tr_if (fun h16 => ?_) (fun h16 => ?_)
        · refine tr_icF (cd := .ne) (fun q => q h16) ?_
          refine tr_blk 1 (pc' := 183) (rows' := kb_191_175.drop 4) (loc' := [.inr (11, 0, 0, 0), .inl (.int x1), .inl (.int x2), .inl (.int x3), .inl (.int x4), .inl (.int x5), .inl (.int x6), .inl (.int x7), .inl (.int x8), .inl (.int x9), .inl (.int x10), .inl (.int x11), d12]) (st' := [.inl (.int x9)]) (P1 := P) rfl ⟨trivial, trivial⟩ ?_
          refine tr_goto ?_
          refine tr_nil (rows2 := kb_191_188) rfl (List.cons_ne_nil _ _) ?_
          exact tr_reI (z := km_191) rfl ⟨_, rfl, rfl⟩ rfl
        · refine tr_icT (cd := .ne) h16 ?_
          refine tr_nil (rows2 := kb_191_186) rfl (List.cons_ne_nil _ _) ?_
          refine tr_blk 1 (pc' := 188) (rows' := kb_191_186.drop 1) (loc' := [.inr (11, 0, 0, 0), .inl (.int x1), .inl (.int x2), .inl (.int x3), .inl (.int x4), .inl (.int x5), .inl (.int x6), .inl (.int x7), .inl (.int x8), .inl (.int x9), .inl (.int x10), .inl (.int x11), d12]) (st' := [.inl (.int x10)]) (P1 := P) rfl ⟨trivial, trivial⟩ ?_
          refine tr_nil (rows2 := kb_191_188) rfl (List.cons_ne_nil _ _) ?_
          exact tr_reI (z := km_191) rfl ⟨_, rfl, rfl⟩ rfl
def f_191 (N : Nat) (a1 : Int32) (a2 : Int32) (a3 : Int32) (a4 : Int32) (a5 : Int32) (a6 : Int32) (a7 : Int32) (P : ab_P) : Option ((Int32 ⊕ Fin 3) × ab_P) :=
    ab_x2 (f_273 a3 a4 a5 P) (fun _ P1 =>
    Option.bind (f_240 P1 a2 (1 : Int32) (20 : Int32)) fun v2 =>
    if v2 = (0 : Int32) then
      ab_x2 (f_228 (0 : Int32) P1) (fun _ P3 =>
      f_191_69 N N a1 a2 a3 a4 a5 a6 a7 (0 : Int32) (0 : Int32) (0 : Int32) (0 : Int32) P3) (fun q => q)
    else
    if a6 < (0 : Int32) then
      ab_x2 (f_228 (0 : Int32) P1) (fun _ P4 =>
      f_191_69 N N a1 a2 a3 a4 a5 a6 a7 (0 : Int32) (0 : Int32) (0 : Int32) (0 : Int32) P4) (fun q => q)
    else
    if (2 : Int32) < a6 then
      ab_x2 (f_228 (0 : Int32) P1) (fun _ P5 =>
      f_191_69 N N a1 a2 a3 a4 a5 a6 a7 (0 : Int32) (0 : Int32) (0 : Int32) (0 : Int32) P5) (fun q => q)
    else
    Option.bind (f_240 P1 a7 (0 : Int32) ((P1.1 3 5) - (1 : Int32))) fun v6 =>
    if v6 = (0 : Int32) then
      ab_x2 (f_228 (0 : Int32) P1) (fun _ P7 =>
      f_191_69 N N a1 a2 a3 a4 a5 a6 a7 (0 : Int32) (0 : Int32) (0 : Int32) (0 : Int32) P7) (fun q => q)
    else
    ab_x2 (f_228 (1 : Int32) P1) (fun _ P8 =>
    f_191_69 N N a1 a2 a3 a4 a5 a6 a7 (0 : Int32) (0 : Int32) (0 : Int32) (0 : Int32) P8) (fun q => q)) (fun q => q)
theorem t_191 {xs : Nat × (Nat → Int32)} {d : Nat} (N : Nat) : ∀ (a1 : Int32) (a2 : Int32) (a3 : Int32) (a4 : Int32) (a5 : Int32) (a6 : Int32) (a7 : Int32) (P : ab_P), ab_tr xs xI (d + 5) 191 0 [] [.inr (11, 0, 0, 0), .inl (.int a1), .inl (.int a2), .inl (.int a3), .inl (.int a4), .inl (.int a5), .inl (.int a6), .inl (.int a7), ab_top, ab_top, ab_top, ab_top, ab_top] [] P (f_191 N a1 a2 a3 a4 a5 a6 a7 P) := by
  intro a1 a2 a3 a4 a5 a6 a7 P
  unfold f_191
  refine tr_nil (rows2 := kb_191_0) rfl (List.cons_ne_nil _ _) ?_
  refine tr_blk 4 (pc' := 6) (rows' := kb_191_0.drop 4) (loc' := [.inr (11, 0, 0, 0), .inl (.int a1), .inl (.int a2), .inl (.int a3), .inl (.int a4), .inl (.int a5), .inl (.int a6), .inl (.int a7), ab_top, ab_top, ab_top, ab_top, ab_top]) (st' := [.inl (.int a5), .inl (.int a4), .inl (.int a3), .inr (11, 0, 0, 0)]) (P1 := P) rfl ⟨trivial, trivial, trivial, trivial, trivial⟩ ?_
  refine tr_cax (fun _ => none) (zi := km_191) (fun _ => rfl) (fun _ _ => rfl) rfl rfl (z := km_273) (av := [.inr (11, 0, 0, 0), .inl (.int a3), .inl (.int a4), .inl (.int a5)]) (st' := []) rfl rfl rfl (Nat.le_of_ble_eq_true rfl) ⟨rfl, Or.inl (by decide)⟩ rfl (Nat.le_of_ble_eq_true rfl) (t_273 a3 a4 a5 P) (fun _ P1 => ?_)
  refine tr_blk 4 (pc' := 14) (rows' := kb_191_0.drop 9) (loc' := [.inr (11, 0, 0, 0), .inl (.int a1), .inl (.int a2), .inl (.int a3), .inl (.int a4), .inl (.int a5), .inl (.int a6), .inl (.int a7), ab_top, ab_top, ab_top, ab_top, ab_top]) (st' := [.inl (.int (20 : Int32)), .inl (.int (1 : Int32)), .inl (.int a2), .inr (11, 0, 0, 0)]) (P1 := P1) rfl ⟨trivial, trivial, trivial, trivial, trivial⟩ ?_
  refine tr_cRI (z := km_240) (av := [.inl (.int a2), .inl (.int (1 : Int32)), .inl (.int (20 : Int32))]) (st' := [.inr (11, 0, 0, 0)]) rfl rfl rfl (Nat.le_of_ble_eq_true rfl) trivial rfl (Nat.le_of_ble_eq_true rfl) (t_240 P1 a2 (1 : Int32) (20 : Int32)) (fun v2 => ?_)
  refine tr_if (fun h18 => ?_) (fun h18 => ?_)
  · refine tr_ifT (cd := .eq) h18 ?_
    refine tr_nil (rows2 := kb_191_53) rfl (List.cons_ne_nil _ _) ?_
    refine tr_blk 1 (pc' := 54) (rows' := kb_191_53.drop 1) (loc' := [.inr (11, 0, 0, 0), .inl (.int a1), .inl (.int a2), .inl (.int a3), .inl (.int a4), .inl (.int a5), .inl (.int a6), .inl (.int a7), ab_top, ab_top, ab_top, ab_top, ab_top]) (st' := [.inl (.int (0 : Int32)), .inr (11, 0, 0, 0)]) (P1 := P1) rfl ⟨trivial, trivial⟩ ?_
    refine tr_nil (rows2 := kb_191_54) rfl (List.cons_ne_nil _ _) ?_
    refine tr_cax (fun _ => none) (zi := km_191) (fun _ => rfl) (fun _ _ => rfl) rfl rfl (z := km_228) (av := [.inr (11, 0, 0, 0), .inl (.int (0 : Int32))]) (st' := []) rfl rfl rfl (Nat.le_of_ble_eq_true rfl) ⟨rfl, Or.inl (by decide)⟩ rfl (Nat.le_of_ble_eq_true rfl) (t_228 (0 : Int32) P1) (fun _ P3 => ?_)
    refine tr_blk 8 (pc' := 69) (rows' := kb_191_54.drop 9) (loc' := [.inr (11, 0, 0, 0), .inl (.int a1), .inl (.int a2), .inl (.int a3), .inl (.int a4), .inl (.int a5), .inl (.int a6), .inl (.int a7), .inl (.int (0 : Int32)), .inl (.int (0 : Int32)), .inl (.int (0 : Int32)), .inl (.int (0 : Int32)), ab_top]) (st' := []) (P1 := P3) rfl ⟨trivial, trivial, trivial, trivial, trivial, trivial, trivial, trivial, trivial⟩ ?_
    exact t_191_69 N N a1 a2 a3 a4 a5 a6 a7 (0 : Int32) (0 : Int32) (0 : Int32) (0 : Int32) (ab_top) P3
  · refine tr_ifF (cd := .eq) h18 ?_
    refine tr_blk 1 (pc' := 22) (rows' := kb_191_0.drop 12) (loc' := [.inr (11, 0, 0, 0), .inl (.int a1), .inl (.int a2), .inl (.int a3), .inl (.int a4), .inl (.int a5), .inl (.int a6), .inl (.int a7), ab_top, ab_top, ab_top, ab_top, ab_top]) (st' := [.inl (.int a6), .inr (11, 0, 0, 0)]) (P1 := P1) rfl ⟨trivial, trivial⟩ ?_
    refine tr_if (fun h19 => ?_) (fun h19 => ?_)
    · refine tr_ifT (cd := .lt) h19 ?_
      refine tr_nil (rows2 := kb_191_53) rfl (List.cons_ne_nil _ _) ?_
      refine tr_blk 1 (pc' := 54) (rows' := kb_191_53.drop 1) (loc' := [.inr (11, 0, 0, 0), .inl (.int a1), .inl (.int a2), .inl (.int a3), .inl (.int a4), .inl (.int a5), .inl (.int a6), .inl (.int a7), ab_top, ab_top, ab_top, ab_top, ab_top]) (st' := [.inl (.int (0 : Int32)), .inr (11, 0, 0, 0)]) (P1 := P1) rfl ⟨trivial, trivial⟩ ?_
      refine tr_nil (rows2 := kb_191_54) rfl (List.cons_ne_nil _ _) ?_
      refine tr_cax (fun _ => none) (zi := km_191) (fun _ => rfl) (fun _ _ => rfl) rfl rfl (z := km_228) (av := [.inr (11, 0, 0, 0), .inl (.int (0 : Int32))]) (st' := []) rfl rfl rfl (Nat.le_of_ble_eq_true rfl) ⟨rfl, Or.inl (by decide)⟩ rfl (Nat.le_of_ble_eq_true rfl) (t_228 (0 : Int32) P1) (fun _ P4 => ?_)
      refine tr_blk 8 (pc' := 69) (rows' := kb_191_54.drop 9) (loc' := [.inr (11, 0, 0, 0), .inl (.int a1), .inl (.int a2), .inl (.int a3), .inl (.int a4), .inl (.int a5), .inl (.int a6), .inl (.int a7), .inl (.int (0 : Int32)), .inl (.int (0 : Int32)), .inl (.int (0 : Int32)), .inl (.int (0 : Int32)), ab_top]) (st' := []) (P1 := P4) rfl ⟨trivial, trivial, trivial, trivial, trivial, trivial, trivial, trivial, trivial⟩ ?_
      exact t_191_69 N N a1 a2 a3 a4 a5 a6 a7 (0 : Int32) (0 : Int32) (0 : Int32) (0 : Int32) (ab_top) P4
    · refine tr_ifF (cd := .lt) h19 ?_
      refine tr_blk 2 (pc' := 28) (rows' := kb_191_0.drop 15) (loc' := [.inr (11, 0, 0, 0), .inl (.int a1), .inl (.int a2), .inl (.int a3), .inl (.int a4), .inl (.int a5), .inl (.int a6), .inl (.int a7), ab_top, ab_top, ab_top, ab_top, ab_top]) (st' := [.inl (.int (2 : Int32)), .inl (.int a6), .inr (11, 0, 0, 0)]) (P1 := P1) rfl ⟨trivial, trivial, trivial⟩ ?_
      refine tr_if (fun h20 => ?_) (fun h20 => ?_)
      · refine tr_icT (cd := .gt) h20 ?_
        refine tr_nil (rows2 := kb_191_53) rfl (List.cons_ne_nil _ _) ?_
        refine tr_blk 1 (pc' := 54) (rows' := kb_191_53.drop 1) (loc' := [.inr (11, 0, 0, 0), .inl (.int a1), .inl (.int a2), .inl (.int a3), .inl (.int a4), .inl (.int a5), .inl (.int a6), .inl (.int a7), ab_top, ab_top, ab_top, ab_top, ab_top]) (st' := [.inl (.int (0 : Int32)), .inr (11, 0, 0, 0)]) (P1 := P1) rfl ⟨trivial, trivial⟩ ?_
        refine tr_nil (rows2 := kb_191_54) rfl (List.cons_ne_nil _ _) ?_
        refine tr_cax (fun _ => none) (zi := km_191) (fun _ => rfl) (fun _ _ => rfl) rfl rfl (z := km_228) (av := [.inr (11, 0, 0, 0), .inl (.int (0 : Int32))]) (st' := []) rfl rfl rfl (Nat.le_of_ble_eq_true rfl) ⟨rfl, Or.inl (by decide)⟩ rfl (Nat.le_of_ble_eq_true rfl) (t_228 (0 : Int32) P1) (fun _ P5 => ?_)
        refine tr_blk 8 (pc' := 69) (rows' := kb_191_54.drop 9) (loc' := [.inr (11, 0, 0, 0), .inl (.int a1), .inl (.int a2), .inl (.int a3), .inl (.int a4), .inl (.int a5), .inl (.int a6), .inl (.int a7), .inl (.int (0 : Int32)), .inl (.int (0 : Int32)), .inl (.int (0 : Int32)), .inl (.int (0 : Int32)), ab_top]) (st' := []) (P1 := P5) rfl ⟨trivial, trivial, trivial, trivial, trivial, trivial, trivial, trivial, trivial⟩ ?_
        exact t_191_69 N N a1 a2 a3 a4 a5 a6 a7 (0 : Int32) (0 : Int32) (0 : Int32) (0 : Int32) (ab_top) P5
      · refine tr_icF (cd := .gt) h20 ?_
        refine tr_blk 7 (pc' := 43) (rows' := kb_191_0.drop 23) (loc' := [.inr (11, 0, 0, 0), .inl (.int a1), .inl (.int a2), .inl (.int a3), .inl (.int a4), .inl (.int a5), .inl (.int a6), .inl (.int a7), ab_top, ab_top, ab_top, ab_top, ab_top]) (st' := [.inl (.int ((P1.1 3 5) - (1 : Int32))), .inl (.int (0 : Int32)), .inl (.int a7), .inr (11, 0, 0, 0)]) (P1 := P1) rfl ⟨trivial, trivial, trivial, trivial, trivial, trivial, trivial, trivial⟩ ?_
        refine tr_cRI (z := km_240) (av := [.inl (.int a7), .inl (.int (0 : Int32)), .inl (.int ((P1.1 3 5) - (1 : Int32)))]) (st' := [.inr (11, 0, 0, 0)]) rfl rfl rfl (Nat.le_of_ble_eq_true rfl) trivial rfl (Nat.le_of_ble_eq_true rfl) (t_240 P1 a7 (0 : Int32) ((P1.1 3 5) - (1 : Int32))) (fun v6 => ?_)
        refine tr_if (fun h21 => ?_) (fun h21 => ?_)
        · refine tr_ifT (cd := .eq) h21 ?_
          refine tr_nil (rows2 := kb_191_53) rfl (List.cons_ne_nil _ _) ?_
          refine tr_blk 1 (pc' := 54) (rows' := kb_191_53.drop 1) (loc' := [.inr (11, 0, 0, 0), .inl (.int a1), .inl (.int a2), .inl (.int a3), .inl (.int a4), .inl (.int a5), .inl (.int a6), .inl (.int a7), ab_top, ab_top, ab_top, ab_top, ab_top]) (st' := [.inl (.int (0 : Int32)), .inr (11, 0, 0, 0)]) (P1 := P1) rfl ⟨trivial, trivial⟩ ?_
          refine tr_nil (rows2 := kb_191_54) rfl (List.cons_ne_nil _ _) ?_
          refine tr_cax (fun _ => none) (zi := km_191) (fun _ => rfl) (fun _ _ => rfl) rfl rfl (z := km_228) (av := [.inr (11, 0, 0, 0), .inl (.int (0 : Int32))]) (st' := []) rfl rfl rfl (Nat.le_of_ble_eq_true rfl) ⟨rfl, Or.inl (by decide)⟩ rfl (Nat.le_of_ble_eq_true rfl) (t_228 (0 : Int32) P1) (fun _ P7 => ?_)
          refine tr_blk 8 (pc' := 69) (rows' := kb_191_54.drop 9) (loc' := [.inr (11, 0, 0, 0), .inl (.int a1), .inl (.int a2), .inl (.int a3), .inl (.int a4), .inl (.int a5), .inl (.int a6), .inl (.int a7), .inl (.int (0 : Int32)), .inl (.int (0 : Int32)), .inl (.int (0 : Int32)), .inl (.int (0 : Int32)), ab_top]) (st' := []) (P1 := P7) rfl ⟨trivial, trivial, trivial, trivial, trivial, trivial, trivial, trivial, trivial⟩ ?_
          exact t_191_69 N N a1 a2 a3 a4 a5 a6 a7 (0 : Int32) (0 : Int32) (0 : Int32) (0 : Int32) (ab_top) P7
        · refine tr_ifF (cd := .eq) h21 ?_
          refine tr_blk 1 (pc' := 50) (rows' := kb_191_0.drop 26) (loc' := [.inr (11, 0, 0, 0), .inl (.int a1), .inl (.int a2), .inl (.int a3), .inl (.int a4), .inl (.int a5), .inl (.int a6), .inl (.int a7), ab_top, ab_top, ab_top, ab_top, ab_top]) (st' := [.inl (.int (1 : Int32)), .inr (11, 0, 0, 0)]) (P1 := P1) rfl ⟨trivial, trivial⟩ ?_
          refine tr_goto ?_
          refine tr_nil (rows2 := kb_191_54) rfl (List.cons_ne_nil _ _) ?_
          refine tr_cax (fun _ => none) (zi := km_191) (fun _ => rfl) (fun _ _ => rfl) rfl rfl (z := km_228) (av := [.inr (11, 0, 0, 0), .inl (.int (1 : Int32))]) (st' := []) rfl rfl rfl (Nat.le_of_ble_eq_true rfl) ⟨rfl, Or.inl (by decide)⟩ rfl (Nat.le_of_ble_eq_true rfl) (t_228 (1 : Int32) P1) (fun _ P8 => ?_)
          refine tr_blk 8 (pc' := 69) (rows' := kb_191_54.drop 9) (loc' := [.inr (11, 0, 0, 0), .inl (.int a1), .inl (.int a2), .inl (.int a3), .inl (.int a4), .inl (.int a5), .inl (.int a6), .inl (.int a7), .inl (.int (0 : Int32)), .inl (.int (0 : Int32)), .inl (.int (0 : Int32)), .inl (.int (0 : Int32)), ab_top]) (st' := []) (P1 := P8) rfl ⟨trivial, trivial, trivial, trivial, trivial, trivial, trivial, trivial, trivial⟩ ?_
          exact t_191_69 N N a1 a2 a3 a4 a5 a6 a7 (0 : Int32) (0 : Int32) (0 : Int32) (0 : Int32) (ab_top) P8
def f_86_1 (N : Nat) (a1 : Int32) (a2 : Int32) (a3 : Int32) (a4 : Int32) (a5 : Int32) (a6 : Int32) (a7 : Int32) (P : ab_P) : Option (Int32 × ab_P) :=
    ab_h2 (f_191 N a1 a2 a3 a4 a5 a6 a7 P) (fun v2 P1 =>
    ab_lt (ab_pL P1 570 0 (v2).toInt64) fun P3 =>
    some ((0 : Int32), P3))
    (fun _ => none) (fun P9 => some ((1 : Int32), P9)) (fun _ => none)
theorem t_86_1 {xs : Nat × (Nat → Int32)} {d : Nat} (N : Nat) : ∀ (a1 : Int32) (a2 : Int32) (a3 : Int32) (a4 : Int32) (a5 : Int32) (a6 : Int32) (a7 : Int32) (P : ab_P), ab_tr xs wI (d + 6) 86 0 [] [.inr (11, 0, 0, 0), .inl (.int a1), .inl (.int a2), .inl (.int a3), .inl (.int a4), .inl (.int a5), .inl (.int a6), .inl (.int a7), .inr (22, 1, 0, 570), ab_top] [] P (f_86_1 N a1 a2 a3 a4 a5 a6 a7 P) := by
  intro a1 a2 a3 a4 a5 a6 a7 P
  unfold f_86_1
  refine tr_nil (rows2 := kb_86_0) rfl (List.cons_ne_nil _ _) ?_
  refine tr_blk 10 (pc' := 15) (rows' := kb_86_0.drop 10) (loc' := [.inr (11, 0, 0, 0), .inl (.int a1), .inl (.int a2), .inl (.int a3), .inl (.int a4), .inl (.int a5), .inl (.int a6), .inl (.int a7), .inr (22, 1, 0, 570), ab_top]) (st' := [.inl (.int a7), .inl (.int a6), .inl (.int a5), .inl (.int a4), .inl (.int a3), .inl (.int a2), .inl (.int a1), .inr (11, 0, 0, 0), .inl (.int (0 : Int32)), .inr (22, 1, 0, 570)]) (P1 := P) rfl ⟨trivial, trivial, trivial, trivial, trivial, trivial, trivial, trivial, trivial, trivial, trivial⟩ ?_
  refine tr_cah (fun b => some (.inl (.int b))) (zi := km_86) (fun _ => rfl) rfl (z := km_191) (av := [.inr (11, 0, 0, 0), .inl (.int a1), .inl (.int a2), .inl (.int a3), .inl (.int a4), .inl (.int a5), .inl (.int a6), .inl (.int a7)]) (st' := [.inl (.int (0 : Int32)), .inr (22, 1, 0, 570)]) rfl rfl rfl (Nat.le_of_ble_eq_true rfl) ⟨rfl, Or.inl (by decide)⟩ rfl (Nat.le_of_ble_eq_true rfl) (t_191 N a1 a2 a3 a4 a5 a6 a7 P) (fun v2 P1 => ?_) ?_ ?_ ?_
  · refine tr_blk 2 (pc' := 20) (rows' := kb_86_0.drop 13) (loc' := [.inr (11, 0, 0, 0), .inl (.int a1), .inl (.int a2), .inl (.int a3), .inl (.int a4), .inl (.int a5), .inl (.int a6), .inl (.int a7), .inr (22, 1, 0, 570), ab_top]) (st' := []) (P1 := (ab_pL P1 570 0 (v2).toInt64)) rfl ⟨trivial, (ab_vi (by decide)), trivial⟩ ?_
    refine tr_lt (fun P3 => ?_)
    refine tr_goto ?_
    refine tr_nil (rows2 := kb_86_27) rfl (List.cons_ne_nil _ _) ?_
    refine tr_blk 1 (pc' := 28) (rows' := kb_86_27.drop 1) (loc' := [.inr (11, 0, 0, 0), .inl (.int a1), .inl (.int a2), .inl (.int a3), .inl (.int a4), .inl (.int a5), .inl (.int a6), .inl (.int a7), .inr (22, 1, 0, 570), ab_top]) (st' := [.inl (.int (0 : Int32))]) (P1 := P3) rfl ⟨trivial, trivial⟩ ?_
    exact tr_reI (z := km_86) rfl ⟨_, rfl, rfl⟩ rfl
  · exact fun _ => rfl
  · exact fun _ => tr_han (rows2 := kb_86_23) (z := km_86) _ (fun q => [.inr (11, 0, 0, 0), .inl (.int a1), .inl (.int a2), .inl (.int a3), .inl (.int a4), .inl (.int a5), .inl (.int a6), .inl (.int a7), .inr (22, 1, 0, 570), .inr (40, 1, 0, q)]) rfl (List.cons_ne_nil _ _) (fun q => rfl) ⟨trivial, trivial, trivial⟩ rfl ⟨_, rfl, rfl⟩ rfl
  · exact fun _ => rfl
def f_87_141 (N : Nat) (H94 : Int32 → Int32 → Int32 → Int32 → Int32 → Int32 → Int32 → Int32 → Int32 → Int32 → Int32 → ab_P → Option (Int32 × ab_P)) (x1 : Int32) (x2 : Int32) (x3 : Int32) (x4 : Int32) (x5 : Int32) (x6 : Int32) (x7 : Int32) (x9 : Int32) (x10 : Int32) (x11 : Int32) (x12 : Int32) (s0 : Int32) (P : ab_P) : Option (Int32 × ab_P) :=
    Option.bind (f_193 P x9 x12) fun v13 =>
    Option.bind (f_177_366 478 N P (1 : Int32)) fun v14 =>
    if v14 = x7 then
      H94 x1 x2 x3 x4 x5 x6 x7 s0 v13 (x10 + (1 : Int32)) (x11 + 1) P
    else
    H94 x1 x2 x3 x4 x5 x6 x7 s0 v13 (x10 + (0 : Int32)) (x11 + 1) P
theorem t_87_141 {xs : Nat × (Nat → Int32)} {d : Nat} (N : Nat) (H94 : Int32 → Int32 → Int32 → Int32 → Int32 → Int32 → Int32 → Int32 → Int32 → Int32 → Int32 → ab_P → Option (Int32 × ab_P)) (hH94 : ∀ (x1 : Int32) (x2 : Int32) (x3 : Int32) (x4 : Int32) (x5 : Int32) (x6 : Int32) (x7 : Int32) (x8 : Int32) (x9 : Int32) (x10 : Int32) (x11 : Int32) (d12 : ab_V) (P : ab_P), ab_tr xs wI (d + 4) 87 94 [] [.inr (12, 0, 0, 72), .inl (.int x1), .inl (.int x2), .inl (.int x3), .inl (.int x4), .inl (.int x5), .inl (.int x6), .inl (.int x7), .inl (.int x8), .inl (.int x9), .inl (.int x10), .inl (.int x11), d12] [] P (H94 x1 x2 x3 x4 x5 x6 x7 x8 x9 x10 x11 P)) : ∀ (x1 : Int32) (x2 : Int32) (x3 : Int32) (x4 : Int32) (x5 : Int32) (x6 : Int32) (x7 : Int32) (x9 : Int32) (x10 : Int32) (x11 : Int32) (x12 : Int32) (s0 : Int32) (d8 : Int32) (P : ab_P), ab_tr xs wI (d + 4) 87 141 [] [.inr (12, 0, 0, 72), .inl (.int x1), .inl (.int x2), .inl (.int x3), .inl (.int x4), .inl (.int x5), .inl (.int x6), .inl (.int x7), .inl (.int d8), .inl (.int x9), .inl (.int x10), .inl (.int x11), .inl (.int x12)] [.inl (.int s0)] P (f_87_141 N H94 x1 x2 x3 x4 x5 x6 x7 x9 x10 x11 x12 s0 P) := by
  intro x1 x2 x3 x4 x5 x6 x7 x9 x10 x11 x12 s0 d8 P
  unfold f_87_141
  refine tr_nil (rows2 := kb_87_141) rfl (List.cons_ne_nil _ _) ?_
  refine tr_blk 3 (pc' := 147) (rows' := kb_87_141.drop 3) (loc' := [.inr (12, 0, 0, 72), .inl (.int x1), .inl (.int x2), .inl (.int x3), .inl (.int x4), .inl (.int x5), .inl (.int x6), .inl (.int x7), .inl (.int s0), .inl (.int x9), .inl (.int x10), .inl (.int x11), .inl (.int x12)]) (st' := [.inl (.int x12), .inl (.int x9)]) (P1 := P) rfl ⟨trivial, trivial, trivial, trivial⟩ ?_
  refine tr_cRI (z := km_193) (av := [.inl (.int x9), .inl (.int x12)]) (st' := []) rfl rfl rfl (Nat.le_of_ble_eq_true rfl) trivial rfl (Nat.le_of_ble_eq_true rfl) (t_193 P x9 x12) (fun v13 => ?_)
  refine tr_blk 6 (pc' := 160) (rows' := kb_87_141.drop 10) (loc' := [.inr (12, 0, 0, 72), .inl (.int x1), .inl (.int x2), .inl (.int x3), .inl (.int x4), .inl (.int x5), .inl (.int x6), .inl (.int x7), .inl (.int s0), .inl (.int v13), .inl (.int x10), .inl (.int x11), .inl (.int x12)]) (st' := [.inl (.int (1 : Int32)), .inr (20, 366, 0, 478), .inr (12, 0, 0, 72), .inl (.int x10)]) (P1 := P) rfl ⟨trivial, trivial, trivial, trivial, trivial, trivial, trivial⟩ ?_
  refine tr_cRI (z := km_177) (av := [.inr (12, 0, 0, 72), .inr (20, 366, 0, 478), .inl (.int (1 : Int32))]) (st' := [.inl (.int x10)]) rfl rfl rfl (Nat.le_of_ble_eq_true rfl) ⟨rfl, Or.inl (by decide)⟩ rfl (Nat.le_of_ble_eq_true rfl) (t_177_366 478 N P (1 : Int32)) (fun v14 => ?_)
  refine tr_blk 1 (pc' := 165) (rows' := kb_87_141.drop 12) (loc' := [.inr (12, 0, 0, 72), .inl (.int x1), .inl (.int x2), .inl (.int x3), .inl (.int x4), .inl (.int x5), .inl (.int x6), .inl (.int x7), .inl (.int s0), .inl (.int v13), .inl (.int x10), .inl (.int x11), .inl (.int x12)]) (st' := [.inl (.int x7), .inl (.int v14), .inl (.int x10)]) (P1 := P) rfl ⟨trivial, trivial⟩ ?_
  refine tr_if (fun h15 => ?_) (fun h15 => ?_)
  · refine tr_icF (cd := .ne) (fun q => q h15) ?_
    refine tr_blk 1 (pc' := 169) (rows' := kb_87_141.drop 14) (loc' := [.inr (12, 0, 0, 72), .inl (.int x1), .inl (.int x2), .inl (.int x3), .inl (.int x4), .inl (.int x5), .inl (.int x6), .inl (.int x7), .inl (.int s0), .inl (.int v13), .inl (.int x10), .inl (.int x11), .inl (.int x12)]) (st' := [.inl (.int (1 : Int32)), .inl (.int x10)]) (P1 := P) rfl ⟨trivial, trivial⟩ ?_
    refine tr_goto ?_
    refine tr_nil (rows2 := kb_87_173) rfl (List.cons_ne_nil _ _) ?_
    refine tr_blk 3 (pc' := 179) (rows' := kb_87_173.drop 3) (loc' := [.inr (12, 0, 0, 72), .inl (.int x1), .inl (.int x2), .inl (.int x3), .inl (.int x4), .inl (.int x5), .inl (.int x6), .inl (.int x7), .inl (.int s0), .inl (.int v13), .inl (.int (x10 + (1 : Int32))), .inl (.int (x11 + 1)), .inl (.int x12)]) (st' := []) (P1 := P) rfl ⟨trivial, trivial, trivial, trivial⟩ ?_
    refine tr_goto ?_
    exact hH94 x1 x2 x3 x4 x5 x6 x7 s0 v13 (x10 + (1 : Int32)) (x11 + 1) (.inl (.int x12)) P
  · refine tr_icT (cd := .ne) h15 ?_
    refine tr_nil (rows2 := kb_87_172) rfl (List.cons_ne_nil _ _) ?_
    refine tr_blk 1 (pc' := 173) (rows' := kb_87_172.drop 1) (loc' := [.inr (12, 0, 0, 72), .inl (.int x1), .inl (.int x2), .inl (.int x3), .inl (.int x4), .inl (.int x5), .inl (.int x6), .inl (.int x7), .inl (.int s0), .inl (.int v13), .inl (.int x10), .inl (.int x11), .inl (.int x12)]) (st' := [.inl (.int (0 : Int32)), .inl (.int x10)]) (P1 := P) rfl ⟨trivial, trivial⟩ ?_
    refine tr_nil (rows2 := kb_87_173) rfl (List.cons_ne_nil _ _) ?_
    refine tr_blk 3 (pc' := 179) (rows' := kb_87_173.drop 3) (loc' := [.inr (12, 0, 0, 72), .inl (.int x1), .inl (.int x2), .inl (.int x3), .inl (.int x4), .inl (.int x5), .inl (.int x6), .inl (.int x7), .inl (.int s0), .inl (.int v13), .inl (.int (x10 + (0 : Int32))), .inl (.int (x11 + 1)), .inl (.int x12)]) (st' := []) (P1 := P) rfl ⟨trivial, trivial, trivial, trivial⟩ ?_
    refine tr_goto ?_
    exact hH94 x1 x2 x3 x4 x5 x6 x7 s0 v13 (x10 + (0 : Int32)) (x11 + 1) (.inl (.int x12)) P
def f_87_94 (N : Nat) : Nat → Int32 → Int32 → Int32 → Int32 → Int32 → Int32 → Int32 → Int32 → Int32 → Int32 → Int32 → ab_P → Option (Int32 × ab_P)
  | 0, _, _, _, _, _, _, _, _, _, _, _, _ => none
  | n + 1, x1, x2, x3, x4, x5, x6, x7, x8, x9, x10, x11, P =>
    if x11 < x2 then
      Option.bind (f_190 N (x1 + x11) x3 x4 x5 P) fun P10 =>
      Option.bind (f_142_366 478 N P10) fun v11 =>
      if x8 = (-1 : Int32) then
        f_87_141 N (fun y0 y1 y2 y3 y4 y5 y6 y7 y8 y9 y10 y11 => f_87_94 N n y0 y1 y2 y3 y4 y5 y6 y7 y8 y9 y10 y11) x1 x2 x3 x4 x5 x6 x7 x9 x10 x11 v11 v11 P10
      else
      Option.bind (f_192 P10 x8 v11) fun v12 =>
      f_87_141 N (fun y0 y1 y2 y3 y4 y5 y6 y7 y8 y9 y10 y11 => f_87_94 N n y0 y1 y2 y3 y4 y5 y6 y7 y8 y9 y10 y11) x1 x2 x3 x4 x5 x6 x7 x9 x10 x11 v11 v12 P10
    else
    if x6 = (0 : Int32) then
      some (x8, P)
    else
    if x6 = (1 : Int32) then
      some (x9, P)
    else
    some (x10, P)
theorem t_87_94 {xs : Nat × (Nat → Int32)} {d : Nat} (N : Nat) : ∀ n : Nat, ∀ (x1 : Int32) (x2 : Int32) (x3 : Int32) (x4 : Int32) (x5 : Int32) (x6 : Int32) (x7 : Int32) (x8 : Int32) (x9 : Int32) (x10 : Int32) (x11 : Int32) (d12 : ab_V) (P : ab_P), ab_tr xs wI (d + 4) 87 94 [] [.inr (12, 0, 0, 72), .inl (.int x1), .inl (.int x2), .inl (.int x3), .inl (.int x4), .inl (.int x5), .inl (.int x6), .inl (.int x7), .inl (.int x8), .inl (.int x9), .inl (.int x10), .inl (.int x11), d12] [] P (f_87_94 N n x1 x2 x3 x4 x5 x6 x7 x8 x9 x10 x11 P) := by
  intro n
  induction n with
  | zero => intro x1 x2 x3 x4 x5 x6 x7 x8 x9 x10 x11 d12 P; exact tr_no
  | succ n ih =>
    intro x1 x2 x3 x4 x5 x6 x7 x8 x9 x10 x11 d12 P
    refine tr_nil (rows2 := kb_87_94) rfl (List.cons_ne_nil _ _) ?_
    refine tr_blk 2 (pc' := 97) (rows' := kb_87_94.drop 2) (loc' := [.inr (12, 0, 0, 72), .inl (.int x1), .inl (.int x2), .inl (.int x3), .inl (.int x4), .inl (.int x5), .inl (.int x6), .inl (.int x7), .inl (.int x8), .inl (.int x9), .inl (.int x10), .inl (.int x11), d12]) (st' := [.inl (.int x2), .inl (.int x11)]) (P1 := P) rfl ⟨trivial, trivial, trivial⟩ ?_
    refine tr_if (fun h16 => ?_) (fun h16 => ?_)
    · refine tr_icF (cd := .ge) (Int32.not_le.mpr h16) ?_
      refine tr_blk 7 (pc' := 110) (rows' := kb_87_94.drop 10) (loc' := [.inr (12, 0, 0, 72), .inl (.int x1), .inl (.int x2), .inl (.int x3), .inl (.int x4), .inl (.int x5), .inl (.int x6), .inl (.int x7), .inl (.int x8), .inl (.int x9), .inl (.int x10), .inl (.int x11), d12]) (st' := [.inl (.int x5), .inl (.int x4), .inl (.int x3), .inl (.int (x1 + x11)), .inr (12, 0, 0, 72)]) (P1 := P) rfl ⟨trivial, trivial, trivial, trivial, trivial, trivial, trivial, trivial⟩ ?_
      refine tr_cWV (z := km_190) (av := [.inr (12, 0, 0, 72), .inl (.int (x1 + x11)), .inl (.int x3), .inl (.int x4), .inl (.int x5)]) (st' := []) rfl rfl rfl (Nat.le_of_ble_eq_true rfl) ⟨rfl, Or.inl (by decide)⟩ rfl (Nat.le_of_ble_eq_true rfl) (t_190 N (x1 + x11) x3 x4 x5 P) (fun P10 => ?_)
      refine tr_blk 3 (pc' := 118) (rows' := kb_87_94.drop 14) (loc' := [.inr (12, 0, 0, 72), .inl (.int x1), .inl (.int x2), .inl (.int x3), .inl (.int x4), .inl (.int x5), .inl (.int x6), .inl (.int x7), .inl (.int x8), .inl (.int x9), .inl (.int x10), .inl (.int x11), d12]) (st' := [.inr (20, 366, 0, 478), .inr (12, 0, 0, 72)]) (P1 := P10) rfl ⟨trivial, trivial, trivial, trivial⟩ ?_
      refine tr_cRI (z := km_142) (av := [.inr (12, 0, 0, 72), .inr (20, 366, 0, 478)]) (st' := []) rfl rfl rfl (Nat.le_of_ble_eq_true rfl) ⟨rfl, Or.inl (by decide)⟩ rfl (Nat.le_of_ble_eq_true rfl) (t_142_366 478 N P10) (fun v11 => ?_)
      refine tr_blk 3 (pc' := 126) (rows' := kb_87_94.drop 18) (loc' := [.inr (12, 0, 0, 72), .inl (.int x1), .inl (.int x2), .inl (.int x3), .inl (.int x4), .inl (.int x5), .inl (.int x6), .inl (.int x7), .inl (.int x8), .inl (.int x9), .inl (.int x10), .inl (.int x11), .inl (.int v11)]) (st' := [.inl (.int (-1 : Int32)), .inl (.int x8)]) (P1 := P10) rfl ⟨trivial, trivial, trivial, trivial⟩ ?_
      refine tr_if (fun h19 => ?_) (fun h19 => ?_)
      · refine tr_icF (cd := .ne) (fun q => q h19) ?_
        refine tr_blk 1 (pc' := 131) (rows' := kb_87_94.drop 20) (loc' := [.inr (12, 0, 0, 72), .inl (.int x1), .inl (.int x2), .inl (.int x3), .inl (.int x4), .inl (.int x5), .inl (.int x6), .inl (.int x7), .inl (.int x8), .inl (.int x9), .inl (.int x10), .inl (.int x11), .inl (.int v11)]) (st' := [.inl (.int v11)]) (P1 := P10) rfl ⟨trivial, trivial⟩ ?_
        refine tr_goto ?_
        exact t_87_141 N _ ih x1 x2 x3 x4 x5 x6 x7 x9 x10 x11 v11 v11 (x8) P10
      · refine tr_icT (cd := .ne) h19 ?_
        refine tr_nil (rows2 := kb_87_134) rfl (List.cons_ne_nil _ _) ?_
        refine tr_blk 2 (pc' := 138) (rows' := kb_87_134.drop 2) (loc' := [.inr (12, 0, 0, 72), .inl (.int x1), .inl (.int x2), .inl (.int x3), .inl (.int x4), .inl (.int x5), .inl (.int x6), .inl (.int x7), .inl (.int x8), .inl (.int x9), .inl (.int x10), .inl (.int x11), .inl (.int v11)]) (st' := [.inl (.int v11), .inl (.int x8)]) (P1 := P10) rfl ⟨trivial, trivial, trivial⟩ ?_
        refine tr_cRI (z := km_192) (av := [.inl (.int x8), .inl (.int v11)]) (st' := []) rfl rfl rfl (Nat.le_of_ble_eq_true rfl) trivial rfl (Nat.le_of_ble_eq_true rfl) (t_192 P10 x8 v11) (fun v12 => ?_)
        exact t_87_141 N _ ih x1 x2 x3 x4 x5 x6 x7 x9 x10 x11 v11 v12 (x8) P10
    · refine tr_icT (cd := .ge) (Int32.not_lt.mp h16) ?_
      refine tr_nil (rows2 := kb_87_182) rfl (List.cons_ne_nil _ _) ?_
      refine tr_blk 1 (pc' := 184) (rows' := kb_87_182.drop 1) (loc' := [.inr (12, 0, 0, 72), .inl (.int x1), .inl (.int x2), .inl (.int x3), .inl (.int x4), .inl (.int x5), .inl (.int x6), .inl (.int x7), .inl (.int x8), .inl (.int x9), .inl (.int x10), .inl (.int x11), d12]) (st' := [.inl (.int x6)]) (P1 := P) rfl ⟨trivial, trivial⟩ ?_
      refine tr_if (fun h17 => ?_) (fun h17 => ?_)
      · refine tr_ifF (cd := .ne) (fun q => q h17) ?_
        refine tr_blk 1 (pc' := 189) (rows' := kb_87_182.drop 3) (loc' := [.inr (12, 0, 0, 72), .inl (.int x1), .inl (.int x2), .inl (.int x3), .inl (.int x4), .inl (.int x5), .inl (.int x6), .inl (.int x7), .inl (.int x8), .inl (.int x9), .inl (.int x10), .inl (.int x11), d12]) (st' := [.inl (.int x8)]) (P1 := P) rfl ⟨trivial, trivial⟩ ?_
        refine tr_goto ?_
        refine tr_nil (rows2 := kb_87_205) rfl (List.cons_ne_nil _ _) ?_
        exact tr_reI (z := km_87) rfl ⟨_, rfl, rfl⟩ rfl
      · refine tr_ifT (cd := .ne) h17 ?_
        refine tr_nil (rows2 := kb_87_192) rfl (List.cons_ne_nil _ _) ?_
        refine tr_blk 2 (pc' := 195) (rows' := kb_87_192.drop 2) (loc' := [.inr (12, 0, 0, 72), .inl (.int x1), .inl (.int x2), .inl (.int x3), .inl (.int x4), .inl (.int x5), .inl (.int x6), .inl (.int x7), .inl (.int x8), .inl (.int x9), .inl (.int x10), .inl (.int x11), d12]) (st' := [.inl (.int (1 : Int32)), .inl (.int x6)]) (P1 := P) rfl ⟨trivial, trivial, trivial⟩ ?_
        refine tr_if (fun h18 => ?_) (fun h18 => ?_)
        · refine tr_icF (cd := .ne) (fun q => q h18) ?_
          refine tr_blk 1 (pc' := 200) (rows' := kb_87_192.drop 4) (loc' := [.inr (12, 0, 0, 72), .inl (.int x1), .inl (.int x2), .inl (.int x3), .inl (.int x4), .inl (.int x5), .inl (.int x6), .inl (.int x7), .inl (.int x8), .inl (.int x9), .inl (.int x10), .inl (.int x11), d12]) (st' := [.inl (.int x9)]) (P1 := P) rfl ⟨trivial, trivial⟩ ?_
          refine tr_goto ?_
          refine tr_nil (rows2 := kb_87_205) rfl (List.cons_ne_nil _ _) ?_
          exact tr_reI (z := km_87) rfl ⟨_, rfl, rfl⟩ rfl
        · refine tr_icT (cd := .ne) h18 ?_
          refine tr_nil (rows2 := kb_87_203) rfl (List.cons_ne_nil _ _) ?_
          refine tr_blk 1 (pc' := 205) (rows' := kb_87_203.drop 1) (loc' := [.inr (12, 0, 0, 72), .inl (.int x1), .inl (.int x2), .inl (.int x3), .inl (.int x4), .inl (.int x5), .inl (.int x6), .inl (.int x7), .inl (.int x8), .inl (.int x9), .inl (.int x10), .inl (.int x11), d12]) (st' := [.inl (.int x10)]) (P1 := P) rfl ⟨trivial, trivial⟩ ?_
          refine tr_nil (rows2 := kb_87_205) rfl (List.cons_ne_nil _ _) ?_
          exact tr_reI (z := km_87) rfl ⟨_, rfl, rfl⟩ rfl
def f_87_72 (N : Nat) (x1 : Int32) (x2 : Int32) (x3 : Int32) (x4 : Int32) (x5 : Int32) (x6 : Int32) (x7 : Int32) (s0 : Int32) (P : ab_P) : Option (Int32 × ab_P) :=
    ab_b2 (f_113 s0 (1 : Int32) (1 : Int32) P) fun v9 P8 =>
    if v9 = (0 : Int32) then
      f_87_94 N N x1 x2 x3 x4 x5 x6 x7 (-1 : Int32) (0 : Int32) (0 : Int32) (0 : Int32) P8
    else
    some ((0 : Int32), P8)
theorem t_87_72 {xs : Nat × (Nat → Int32)} {d : Nat} (N : Nat) : ∀ (x1 : Int32) (x2 : Int32) (x3 : Int32) (x4 : Int32) (x5 : Int32) (x6 : Int32) (x7 : Int32) (s0 : Int32) (P : ab_P), ab_tr xs wI (d + 4) 87 72 [] [.inr (12, 0, 0, 72), .inl (.int x1), .inl (.int x2), .inl (.int x3), .inl (.int x4), .inl (.int x5), .inl (.int x6), .inl (.int x7), ab_top, ab_top, ab_top, ab_top, ab_top] [.inl (.int s0), .inr (12, 0, 0, 72)] P (f_87_72 N x1 x2 x3 x4 x5 x6 x7 s0 P) := by
  intro x1 x2 x3 x4 x5 x6 x7 s0 P
  unfold f_87_72
  refine tr_nil (rows2 := kb_87_72) rfl (List.cons_ne_nil _ _) ?_
  refine tr_blk 2 (pc' := 74) (rows' := kb_87_72.drop 2) (loc' := [.inr (12, 0, 0, 72), .inl (.int x1), .inl (.int x2), .inl (.int x3), .inl (.int x4), .inl (.int x5), .inl (.int x6), .inl (.int x7), ab_top, ab_top, ab_top, ab_top, ab_top]) (st' := [.inl (.int (1 : Int32)), .inl (.int (1 : Int32)), .inl (.int s0), .inr (12, 0, 0, 72)]) (P1 := P) rfl ⟨trivial, trivial, trivial⟩ ?_
  refine tr_cWI (z := km_113) (av := [.inr (12, 0, 0, 72), .inl (.int s0), .inl (.int (1 : Int32)), .inl (.int (1 : Int32))]) (st' := []) rfl rfl rfl (Nat.le_of_ble_eq_true rfl) ⟨rfl, Or.inl (by decide)⟩ rfl (Nat.le_of_ble_eq_true rfl) (t_113 s0 (1 : Int32) (1 : Int32) P) (fun v9 P8 => ?_)
  refine tr_if (fun h20 => ?_) (fun h20 => ?_)
  · refine tr_ifT (cd := .eq) h20 ?_
    refine tr_nil (rows2 := kb_87_82) rfl (List.cons_ne_nil _ _) ?_
    refine tr_blk 8 (pc' := 94) (rows' := kb_87_82.drop 8) (loc' := [.inr (12, 0, 0, 72), .inl (.int x1), .inl (.int x2), .inl (.int x3), .inl (.int x4), .inl (.int x5), .inl (.int x6), .inl (.int x7), .inl (.int (-1 : Int32)), .inl (.int (0 : Int32)), .inl (.int (0 : Int32)), .inl (.int (0 : Int32)), ab_top]) (st' := []) (P1 := P8) rfl ⟨trivial, trivial, trivial, trivial, trivial, trivial, trivial, trivial, trivial⟩ ?_
    exact t_87_94 N N x1 x2 x3 x4 x5 x6 x7 (-1 : Int32) (0 : Int32) (0 : Int32) (0 : Int32) (ab_top) P8
  · refine tr_ifF (cd := .eq) h20 ?_
    refine tr_blk 1 (pc' := 81) (rows' := kb_87_72.drop 5) (loc' := [.inr (12, 0, 0, 72), .inl (.int x1), .inl (.int x2), .inl (.int x3), .inl (.int x4), .inl (.int x5), .inl (.int x6), .inl (.int x7), ab_top, ab_top, ab_top, ab_top, ab_top]) (st' := [.inl (.int (0 : Int32))]) (P1 := P8) rfl ⟨trivial, trivial⟩ ?_
    exact tr_reI (z := km_87) rfl ⟨_, rfl, rfl⟩ rfl
def f_87 (N : Nat) (a1 : Int32) (a2 : Int32) (a3 : Int32) (a4 : Int32) (a5 : Int32) (a6 : Int32) (a7 : Int32) (P : ab_P) : Option (Int32 × ab_P) :=
    ab_lt (ab_pI P 72 0 (0 : Int32)) fun P1 =>
    Option.bind (f_112 P1 a2 (1 : Int32) (20 : Int32)) fun v2 =>
    if v2 = (0 : Int32) then
      f_87_72 N a1 a2 a3 a4 a5 a6 a7 (1 : Int32) P1
    else
    Option.bind (f_112 P1 a3 (1 : Int32) (30 : Int32)) fun v3 =>
    if v3 = (0 : Int32) then
      f_87_72 N a1 a2 a3 a4 a5 a6 a7 (1 : Int32) P1
    else
    Option.bind (f_112 P1 a4 (0 : Int32) (16 : Int32)) fun v4 =>
    if v4 = (0 : Int32) then
      f_87_72 N a1 a2 a3 a4 a5 a6 a7 (1 : Int32) P1
    else
    Option.bind (f_112 P1 a5 (0 : Int32) (16 : Int32)) fun v5 =>
    if v5 = (0 : Int32) then
      f_87_72 N a1 a2 a3 a4 a5 a6 a7 (1 : Int32) P1
    else
    Option.bind (f_112 P1 a6 (0 : Int32) (2 : Int32)) fun v6 =>
    if v6 = (0 : Int32) then
      f_87_72 N a1 a2 a3 a4 a5 a6 a7 (1 : Int32) P1
    else
    Option.bind (f_137 P1 a7) fun v7 =>
    if v7 = (0 : Int32) then
      f_87_72 N a1 a2 a3 a4 a5 a6 a7 (1 : Int32) P1
    else
    f_87_72 N a1 a2 a3 a4 a5 a6 a7 (0 : Int32) P1
theorem t_87 {xs : Nat × (Nat → Int32)} {d : Nat} (N : Nat) : ∀ (a1 : Int32) (a2 : Int32) (a3 : Int32) (a4 : Int32) (a5 : Int32) (a6 : Int32) (a7 : Int32) (P : ab_P), ab_tr xs wI (d + 4) 87 0 [] [.inr (12, 0, 0, 72), .inl (.int a1), .inl (.int a2), .inl (.int a3), .inl (.int a4), .inl (.int a5), .inl (.int a6), .inl (.int a7), ab_top, ab_top, ab_top, ab_top, ab_top] [] P (f_87 N a1 a2 a3 a4 a5 a6 a7 P) := by
  intro a1 a2 a3 a4 a5 a6 a7 P
  unfold f_87
  refine tr_nil (rows2 := kb_87_0) rfl (List.cons_ne_nil _ _) ?_
  refine tr_blk 3 (pc' := 5) (rows' := kb_87_0.drop 3) (loc' := [.inr (12, 0, 0, 72), .inl (.int a1), .inl (.int a2), .inl (.int a3), .inl (.int a4), .inl (.int a5), .inl (.int a6), .inl (.int a7), ab_top, ab_top, ab_top, ab_top, ab_top]) (st' := []) (P1 := (ab_pI P 72 0 (0 : Int32))) rfl ⟨trivial, trivial, trivial, trivial⟩ ?_
  refine tr_lt (fun P1 => ?_)
  refine tr_blk 4 (pc' := 10) (rows' := kb_87_0.drop 7) (loc' := [.inr (12, 0, 0, 72), .inl (.int a1), .inl (.int a2), .inl (.int a3), .inl (.int a4), .inl (.int a5), .inl (.int a6), .inl (.int a7), ab_top, ab_top, ab_top, ab_top, ab_top]) (st' := [.inl (.int (20 : Int32)), .inl (.int (1 : Int32)), .inl (.int a2), .inr (12, 0, 0, 72)]) (P1 := P1) rfl ⟨trivial, trivial, trivial, trivial, trivial⟩ ?_
  refine tr_cRI (z := km_112) (av := [.inl (.int a2), .inl (.int (1 : Int32)), .inl (.int (20 : Int32))]) (st' := [.inr (12, 0, 0, 72)]) rfl rfl rfl (Nat.le_of_ble_eq_true rfl) trivial rfl (Nat.le_of_ble_eq_true rfl) (t_112 P1 a2 (1 : Int32) (20 : Int32)) (fun v2 => ?_)
  refine tr_if (fun h21 => ?_) (fun h21 => ?_)
  · refine tr_ifT (cd := .eq) h21 ?_
    refine tr_nil (rows2 := kb_87_67) rfl (List.cons_ne_nil _ _) ?_
    refine tr_blk 1 (pc' := 68) (rows' := kb_87_67.drop 1) (loc' := [.inr (12, 0, 0, 72), .inl (.int a1), .inl (.int a2), .inl (.int a3), .inl (.int a4), .inl (.int a5), .inl (.int a6), .inl (.int a7), ab_top, ab_top, ab_top, ab_top, ab_top]) (st' := [.inl (.int (1 : Int32)), .inr (12, 0, 0, 72)]) (P1 := P1) rfl ⟨trivial, trivial⟩ ?_
    refine tr_goto ?_
    exact t_87_72 N a1 a2 a3 a4 a5 a6 a7 (1 : Int32) P1
  · refine tr_ifF (cd := .eq) h21 ?_
    refine tr_blk 3 (pc' := 20) (rows' := kb_87_0.drop 12) (loc' := [.inr (12, 0, 0, 72), .inl (.int a1), .inl (.int a2), .inl (.int a3), .inl (.int a4), .inl (.int a5), .inl (.int a6), .inl (.int a7), ab_top, ab_top, ab_top, ab_top, ab_top]) (st' := [.inl (.int (30 : Int32)), .inl (.int (1 : Int32)), .inl (.int a3), .inr (12, 0, 0, 72)]) (P1 := P1) rfl ⟨trivial, trivial, trivial, trivial⟩ ?_
    refine tr_cRI (z := km_112) (av := [.inl (.int a3), .inl (.int (1 : Int32)), .inl (.int (30 : Int32))]) (st' := [.inr (12, 0, 0, 72)]) rfl rfl rfl (Nat.le_of_ble_eq_true rfl) trivial rfl (Nat.le_of_ble_eq_true rfl) (t_112 P1 a3 (1 : Int32) (30 : Int32)) (fun v3 => ?_)
    refine tr_if (fun h22 => ?_) (fun h22 => ?_)
    · refine tr_ifT (cd := .eq) h22 ?_
      refine tr_nil (rows2 := kb_87_67) rfl (List.cons_ne_nil _ _) ?_
      refine tr_blk 1 (pc' := 68) (rows' := kb_87_67.drop 1) (loc' := [.inr (12, 0, 0, 72), .inl (.int a1), .inl (.int a2), .inl (.int a3), .inl (.int a4), .inl (.int a5), .inl (.int a6), .inl (.int a7), ab_top, ab_top, ab_top, ab_top, ab_top]) (st' := [.inl (.int (1 : Int32)), .inr (12, 0, 0, 72)]) (P1 := P1) rfl ⟨trivial, trivial⟩ ?_
      refine tr_goto ?_
      exact t_87_72 N a1 a2 a3 a4 a5 a6 a7 (1 : Int32) P1
    · refine tr_ifF (cd := .eq) h22 ?_
      refine tr_blk 3 (pc' := 31) (rows' := kb_87_0.drop 17) (loc' := [.inr (12, 0, 0, 72), .inl (.int a1), .inl (.int a2), .inl (.int a3), .inl (.int a4), .inl (.int a5), .inl (.int a6), .inl (.int a7), ab_top, ab_top, ab_top, ab_top, ab_top]) (st' := [.inl (.int (16 : Int32)), .inl (.int (0 : Int32)), .inl (.int a4), .inr (12, 0, 0, 72)]) (P1 := P1) rfl ⟨trivial, trivial, trivial, trivial⟩ ?_
      refine tr_cRI (z := km_112) (av := [.inl (.int a4), .inl (.int (0 : Int32)), .inl (.int (16 : Int32))]) (st' := [.inr (12, 0, 0, 72)]) rfl rfl rfl (Nat.le_of_ble_eq_true rfl) trivial rfl (Nat.le_of_ble_eq_true rfl) (t_112 P1 a4 (0 : Int32) (16 : Int32)) (fun v4 => ?_)
      refine tr_if (fun h23 => ?_) (fun h23 => ?_)
      · refine tr_ifT (cd := .eq) h23 ?_
        refine tr_nil (rows2 := kb_87_67) rfl (List.cons_ne_nil _ _) ?_
        refine tr_blk 1 (pc' := 68) (rows' := kb_87_67.drop 1) (loc' := [.inr (12, 0, 0, 72), .inl (.int a1), .inl (.int a2), .inl (.int a3), .inl (.int a4), .inl (.int a5), .inl (.int a6), .inl (.int a7), ab_top, ab_top, ab_top, ab_top, ab_top]) (st' := [.inl (.int (1 : Int32)), .inr (12, 0, 0, 72)]) (P1 := P1) rfl ⟨trivial, trivial⟩ ?_
        refine tr_goto ?_
        exact t_87_72 N a1 a2 a3 a4 a5 a6 a7 (1 : Int32) P1
      · refine tr_ifF (cd := .eq) h23 ?_
        refine tr_blk 3 (pc' := 42) (rows' := kb_87_0.drop 22) (loc' := [.inr (12, 0, 0, 72), .inl (.int a1), .inl (.int a2), .inl (.int a3), .inl (.int a4), .inl (.int a5), .inl (.int a6), .inl (.int a7), ab_top, ab_top, ab_top, ab_top, ab_top]) (st' := [.inl (.int (16 : Int32)), .inl (.int (0 : Int32)), .inl (.int a5), .inr (12, 0, 0, 72)]) (P1 := P1) rfl ⟨trivial, trivial, trivial, trivial⟩ ?_
        refine tr_cRI (z := km_112) (av := [.inl (.int a5), .inl (.int (0 : Int32)), .inl (.int (16 : Int32))]) (st' := [.inr (12, 0, 0, 72)]) rfl rfl rfl (Nat.le_of_ble_eq_true rfl) trivial rfl (Nat.le_of_ble_eq_true rfl) (t_112 P1 a5 (0 : Int32) (16 : Int32)) (fun v5 => ?_)
        refine tr_if (fun h24 => ?_) (fun h24 => ?_)
        · refine tr_ifT (cd := .eq) h24 ?_
          refine tr_nil (rows2 := kb_87_67) rfl (List.cons_ne_nil _ _) ?_
          refine tr_blk 1 (pc' := 68) (rows' := kb_87_67.drop 1) (loc' := [.inr (12, 0, 0, 72), .inl (.int a1), .inl (.int a2), .inl (.int a3), .inl (.int a4), .inl (.int a5), .inl (.int a6), .inl (.int a7), ab_top, ab_top, ab_top, ab_top, ab_top]) (st' := [.inl (.int (1 : Int32)), .inr (12, 0, 0, 72)]) (P1 := P1) rfl ⟨trivial, trivial⟩ ?_
          refine tr_goto ?_
          exact t_87_72 N a1 a2 a3 a4 a5 a6 a7 (1 : Int32) P1
        · refine tr_ifF (cd := .eq) h24 ?_
          refine tr_blk 3 (pc' := 52) (rows' := kb_87_0.drop 27) (loc' := [.inr (12, 0, 0, 72), .inl (.int a1), .inl (.int a2), .inl (.int a3), .inl (.int a4), .inl (.int a5), .inl (.int a6), .inl (.int a7), ab_top, ab_top, ab_top, ab_top, ab_top]) (st' := [.inl (.int (2 : Int32)), .inl (.int (0 : Int32)), .inl (.int a6), .inr (12, 0, 0, 72)]) (P1 := P1) rfl ⟨trivial, trivial, trivial, trivial⟩ ?_
          refine tr_cRI (z := km_112) (av := [.inl (.int a6), .inl (.int (0 : Int32)), .inl (.int (2 : Int32))]) (st' := [.inr (12, 0, 0, 72)]) rfl rfl rfl (Nat.le_of_ble_eq_true rfl) trivial rfl (Nat.le_of_ble_eq_true rfl) (t_112 P1 a6 (0 : Int32) (2 : Int32)) (fun v6 => ?_)
          refine tr_if (fun h25 => ?_) (fun h25 => ?_)
          · refine tr_ifT (cd := .eq) h25 ?_
            refine tr_nil (rows2 := kb_87_67) rfl (List.cons_ne_nil _ _) ?_
            refine tr_blk 1 (pc' := 68) (rows' := kb_87_67.drop 1) (loc' := [.inr (12, 0, 0, 72), .inl (.int a1), .inl (.int a2), .inl (.int a3), .inl (.int a4), .inl (.int a5), .inl (.int a6), .inl (.int a7), ab_top, ab_top, ab_top, ab_top, ab_top]) (st' := [.inl (.int (1 : Int32)), .inr (12, 0, 0, 72)]) (P1 := P1) rfl ⟨trivial, trivial⟩ ?_
            refine tr_goto ?_
            exact t_87_72 N a1 a2 a3 a4 a5 a6 a7 (1 : Int32) P1
          · refine tr_ifF (cd := .eq) h25 ?_
            refine tr_blk 2 (pc' := 61) (rows' := kb_87_0.drop 31) (loc' := [.inr (12, 0, 0, 72), .inl (.int a1), .inl (.int a2), .inl (.int a3), .inl (.int a4), .inl (.int a5), .inl (.int a6), .inl (.int a7), ab_top, ab_top, ab_top, ab_top, ab_top]) (st' := [.inl (.int a7), .inr (12, 0, 0, 72), .inr (12, 0, 0, 72)]) (P1 := P1) rfl ⟨trivial, trivial, trivial⟩ ?_
            refine tr_cRI (z := km_137) (av := [.inr (12, 0, 0, 72), .inl (.int a7)]) (st' := [.inr (12, 0, 0, 72)]) rfl rfl rfl (Nat.le_of_ble_eq_true rfl) ⟨rfl, Or.inl (by decide)⟩ rfl (Nat.le_of_ble_eq_true rfl) (t_137 P1 a7) (fun v7 => ?_)
            refine tr_if (fun h26 => ?_) (fun h26 => ?_)
            · refine tr_ifF (cd := .ne) (fun q => q h26) ?_
              refine tr_nil (rows2 := kb_87_67) rfl (List.cons_ne_nil _ _) ?_
              refine tr_blk 1 (pc' := 68) (rows' := kb_87_67.drop 1) (loc' := [.inr (12, 0, 0, 72), .inl (.int a1), .inl (.int a2), .inl (.int a3), .inl (.int a4), .inl (.int a5), .inl (.int a6), .inl (.int a7), ab_top, ab_top, ab_top, ab_top, ab_top]) (st' := [.inl (.int (1 : Int32)), .inr (12, 0, 0, 72)]) (P1 := P1) rfl ⟨trivial, trivial⟩ ?_
              refine tr_goto ?_
              exact t_87_72 N a1 a2 a3 a4 a5 a6 a7 (1 : Int32) P1
            · refine tr_ifT (cd := .ne) h26 ?_
              refine tr_nil (rows2 := kb_87_71) rfl (List.cons_ne_nil _ _) ?_
              refine tr_blk 1 (pc' := 72) (rows' := kb_87_71.drop 1) (loc' := [.inr (12, 0, 0, 72), .inl (.int a1), .inl (.int a2), .inl (.int a3), .inl (.int a4), .inl (.int a5), .inl (.int a6), .inl (.int a7), ab_top, ab_top, ab_top, ab_top, ab_top]) (st' := [.inl (.int (0 : Int32)), .inr (12, 0, 0, 72)]) (P1 := P1) rfl ⟨trivial, trivial⟩ ?_
              exact t_87_72 N a1 a2 a3 a4 a5 a6 a7 (0 : Int32) P1
def f_194_72 (i1 : Nat) (x2 : Int32) (P : ab_P) : Option ab_P :=
    if ab_gi (P.1 65 6) 3 then
    ab_lt (ab_pI P 69 ((P.1 65 6)).toNatClampNeg (P.1 65 1)) fun P6 =>
    if ab_gi (P6.1 65 6) 3 then
    ab_lt (ab_pI P6 70 ((P6.1 65 6)).toNatClampNeg x2) fun P8 =>
    ab_lt (ab_pI P8 65 6 ((P8.1 65 6) + (1 : Int32))) fun P9 =>
    some P9
    else none
    else none
theorem t_194_72 {xs : Nat × (Nat → Int32)} {d : Nat} (i1 : Nat) : ∀ (x2 : Int32) (d3 : Int32) (P : ab_P), ab_tr xs wV (d + 2) 194 72 [] [.inr (3, 0, 0, 65), .inr (6, 0, 0, i1), .inl (.int x2), .inl (.int d3)] [] P (f_194_72 i1 x2 P) := by
  intro x2 d3 P
  unfold f_194_72
  refine tr_nil (rows2 := kb_194_72) rfl (List.cons_ne_nil _ _) ?_
  refine tr_gd (fun h5 => ?_)
  refine tr_blk 7 (pc' := 85) (rows' := kb_194_72.drop 7) (loc' := [.inr (3, 0, 0, 65), .inr (6, 0, 0, i1), .inl (.int x2), .inl (.int d3)]) (st' := []) (P1 := (ab_pI P 69 ((P.1 65 6)).toNatClampNeg (P.1 65 1))) rfl ⟨trivial, trivial, trivial, trivial, trivial, trivial, h5, trivial⟩ ?_
  refine tr_lt (fun P6 => ?_)
  refine tr_gd (fun h7 => ?_)
  refine tr_blk 6 (pc' := 95) (rows' := kb_194_72.drop 13) (loc' := [.inr (3, 0, 0, 65), .inr (6, 0, 0, i1), .inl (.int x2), .inl (.int d3)]) (st' := []) (P1 := (ab_pI P6 70 ((P6.1 65 6)).toNatClampNeg x2)) rfl ⟨trivial, trivial, trivial, trivial, trivial, h7, trivial⟩ ?_
  refine tr_lt (fun P8 => ?_)
  refine tr_blk 6 (pc' := 105) (rows' := kb_194_72.drop 19) (loc' := [.inr (3, 0, 0, 65), .inr (6, 0, 0, i1), .inl (.int x2), .inl (.int d3)]) (st' := []) (P1 := (ab_pI P8 65 6 ((P8.1 65 6) + (1 : Int32)))) rfl ⟨trivial, trivial, trivial, trivial, trivial, trivial, trivial⟩ ?_
  refine tr_lt (fun P9 => ?_)
  exact tr_reV (z := km_194) rfl rfl rfl
def f_194_30 (i1 : Nat) : Nat → Int32 → Int32 → ab_P → Option ab_P
  | 0, _, _, _ => none
  | n + 1, x2, x3, P =>
    if x3 < (P.1 65 1) then
      if x3 < (20 : Int32) then
        if ab_gi x3 20 then
        Option.bind (P.2.2.1 66 x3.toNatClampNeg) fun q3 =>
        Option.bind (f_279 60 68 q3 (((P.1 65 6) * (20 : Int32)) + x3) P) fun P4 =>
        f_194_30 i1 n x2 (x3 + 1) P4
        else none
      else
      f_194_72 i1 x2 P
    else
    f_194_72 i1 x2 P
theorem t_194_30 {xs : Nat × (Nat → Int32)} {d : Nat} (i1 : Nat) : ∀ n : Nat, ∀ (x2 : Int32) (x3 : Int32) (P : ab_P), ab_tr xs wV (d + 2) 194 30 [] [.inr (3, 0, 0, 65), .inr (6, 0, 0, i1), .inl (.int x2), .inl (.int x3)] [] P (f_194_30 i1 n x2 x3 P) := by
  intro n
  induction n with
  | zero => intro x2 x3 P; exact tr_no
  | succ n ih =>
    intro x2 x3 P
    refine tr_nil (rows2 := kb_194_30) rfl (List.cons_ne_nil _ _) ?_
    refine tr_blk 3 (pc' := 35) (rows' := kb_194_30.drop 3) (loc' := [.inr (3, 0, 0, 65), .inr (6, 0, 0, i1), .inl (.int x2), .inl (.int x3)]) (st' := [.inl (.int (P.1 65 1)), .inl (.int x3)]) (P1 := P) rfl ⟨trivial, trivial, trivial, trivial⟩ ?_
    refine tr_if (fun h10 => ?_) (fun h10 => ?_)
    · refine tr_icF (cd := .ge) (Int32.not_le.mpr h10) ?_
      refine tr_blk 2 (pc' := 41) (rows' := kb_194_30.drop 6) (loc' := [.inr (3, 0, 0, 65), .inr (6, 0, 0, i1), .inl (.int x2), .inl (.int x3)]) (st' := [.inl (.int (20 : Int32)), .inl (.int x3)]) (P1 := P) rfl ⟨trivial, trivial, trivial⟩ ?_
      refine tr_if (fun h11 => ?_) (fun h11 => ?_)
      · refine tr_icF (cd := .ge) (Int32.not_le.mpr h11) ?_
        refine tr_gd (fun h2 => ?_)
        refine tr_blk 12 (pc' := 63) (rows' := kb_194_30.drop 19) (loc' := [.inr (3, 0, 0, 65), .inr (6, 0, 0, i1), .inl (.int x2), .inl (.int x3)]) (st' := [(ab_lg (P.2.2.1 66 x3.toNatClampNeg)), .inl (.int (((P.1 65 6) * (20 : Int32)) + x3)), .inr (25, 60, 0, 68)]) (P1 := P) rfl ⟨trivial, trivial, trivial, trivial, trivial, trivial, trivial, trivial, trivial, trivial, trivial, h2, trivial⟩ ?_
        refine tr_sh (fun q3 => ?_)
        refine tr_cWV (z := km_279) (av := [.inr (25, 60, 0, 68), .inl (.int (((P.1 65 6) * (20 : Int32)) + x3)), .inr (6, 0, 0, q3)]) (st' := []) rfl rfl rfl (Nat.le_of_ble_eq_true rfl) trivial rfl (Nat.le_of_ble_eq_true rfl) (t_279 60 68 q3 (((P.1 65 6) * (20 : Int32)) + x3) P) (fun P4 => ?_)
        refine tr_blk 1 (pc' := 69) (rows' := kb_194_30.drop 21) (loc' := [.inr (3, 0, 0, 65), .inr (6, 0, 0, i1), .inl (.int x2), .inl (.int (x3 + 1))]) (st' := []) (P1 := P4) rfl ⟨trivial, trivial⟩ ?_
        refine tr_goto ?_
        exact ih x2 (x3 + 1) P4
      · refine tr_icT (cd := .ge) (Int32.not_lt.mp h11) ?_
        exact t_194_72 i1 x2 (x3) P
    · refine tr_icT (cd := .ge) (Int32.not_lt.mp h10) ?_
      exact t_194_72 i1 x2 (x3) P
def f_194 (i1 : Nat) (N : Nat) (a2 : Int32) (P : ab_P) : Option ab_P :=
    if (P.1 65 6) < (0 : Int32) then
      some P
    else
    if (P.1 65 6) < (3 : Int32) then
      Option.bind (f_279 3 67 i1 (P.1 65 6) P) fun P1 =>
      f_194_30 i1 N a2 (0 : Int32) P1
    else
    some P
theorem t_194 {xs : Nat × (Nat → Int32)} {d : Nat} (i1 : Nat) (N : Nat) : ∀ (a2 : Int32) (P : ab_P), ab_tr xs wV (d + 2) 194 0 [] [.inr (3, 0, 0, 65), .inr (6, 0, 0, i1), .inl (.int a2), ab_top] [] P (f_194 i1 N a2 P) := by
  intro a2 P
  unfold f_194
  refine tr_nil (rows2 := kb_194_0) rfl (List.cons_ne_nil _ _) ?_
  refine tr_blk 2 (pc' := 4) (rows' := kb_194_0.drop 2) (loc' := [.inr (3, 0, 0, 65), .inr (6, 0, 0, i1), .inl (.int a2), ab_top]) (st' := [.inl (.int (P.1 65 6))]) (P1 := P) rfl ⟨trivial, trivial, trivial⟩ ?_
  refine tr_if (fun h12 => ?_) (fun h12 => ?_)
  · refine tr_ifT (cd := .lt) h12 ?_
    refine tr_nil (rows2 := kb_194_15) rfl (List.cons_ne_nil _ _) ?_
    exact tr_reV (z := km_194) rfl rfl rfl
  · refine tr_ifF (cd := .lt) h12 ?_
    refine tr_blk 3 (pc' := 12) (rows' := kb_194_0.drop 6) (loc' := [.inr (3, 0, 0, 65), .inr (6, 0, 0, i1), .inl (.int a2), ab_top]) (st' := [.inl (.int (3 : Int32)), .inl (.int (P.1 65 6))]) (P1 := P) rfl ⟨trivial, trivial, trivial, trivial⟩ ?_
    refine tr_if (fun h13 => ?_) (fun h13 => ?_)
    · refine tr_icT (cd := .lt) h13 ?_
      refine tr_nil (rows2 := kb_194_16) rfl (List.cons_ne_nil _ _) ?_
      refine tr_blk 5 (pc' := 25) (rows' := kb_194_16.drop 5) (loc' := [.inr (3, 0, 0, 65), .inr (6, 0, 0, i1), .inl (.int a2), ab_top]) (st' := [.inr (6, 0, 0, i1), .inl (.int (P.1 65 6)), .inr (25, 3, 0, 67)]) (P1 := P) rfl ⟨trivial, trivial, trivial, trivial, trivial, trivial⟩ ?_
      refine tr_cWV (z := km_279) (av := [.inr (25, 3, 0, 67), .inl (.int (P.1 65 6)), .inr (6, 0, 0, i1)]) (st' := []) rfl rfl rfl (Nat.le_of_ble_eq_true rfl) trivial rfl (Nat.le_of_ble_eq_true rfl) (t_279 3 67 i1 (P.1 65 6) P) (fun P1 => ?_)
      refine tr_blk 2 (pc' := 30) (rows' := kb_194_16.drop 8) (loc' := [.inr (3, 0, 0, 65), .inr (6, 0, 0, i1), .inl (.int a2), .inl (.int (0 : Int32))]) (st' := []) (P1 := P1) rfl ⟨trivial, trivial, trivial⟩ ?_
      exact t_194_30 i1 N a2 (0 : Int32) P1
    · refine tr_icF (cd := .lt) h13 ?_
      refine tr_nil (rows2 := kb_194_15) rfl (List.cons_ne_nil _ _) ?_
      exact tr_reV (z := km_194) rfl rfl rfl
def f_88 (N : Nat) (P : ab_P) : Option (Int32 × ab_P) :=
    if (P.1 65 6) < (3 : Int32) then
      Option.bind (f_194 43 N (P.1 46 5) P) fun P1 =>
      some ((P1.1 65 6), P1)
    else
    some ((-1 : Int32), P)
theorem t_88 {xs : Nat × (Nat → Int32)} {d : Nat} (N : Nat) : ∀ (P : ab_P), ab_tr xs wI (d + 3) 88 0 [] [.inr (11, 0, 0, 0)] [] P (f_88 N P) := by
  intro P
  unfold f_88
  refine tr_nil (rows2 := kb_88_0) rfl (List.cons_ne_nil _ _) ?_
  refine tr_blk 4 (pc' := 8) (rows' := kb_88_0.drop 4) (loc' := [.inr (11, 0, 0, 0)]) (st' := [.inl (.int (3 : Int32)), .inl (.int (P.1 65 6))]) (P1 := P) rfl ⟨trivial, trivial, trivial, trivial, trivial⟩ ?_
  refine tr_if (fun h2 => ?_) (fun h2 => ?_)
  · refine tr_icT (cd := .lt) h2 ?_
    refine tr_nil (rows2 := kb_88_13) rfl (List.cons_ne_nil _ _) ?_
    refine tr_blk 7 (pc' := 28) (rows' := kb_88_13.drop 7) (loc' := [.inr (11, 0, 0, 0)]) (st' := [.inl (.int (P.1 46 5)), .inr (6, 0, 0, 43), .inr (3, 0, 0, 65)]) (P1 := P) rfl ⟨trivial, trivial, trivial, trivial, trivial, trivial, trivial, trivial⟩ ?_
    refine tr_cWV (z := km_194) (av := [.inr (3, 0, 0, 65), .inr (6, 0, 0, 43), .inl (.int (P.1 46 5))]) (st' := []) rfl rfl rfl (Nat.le_of_ble_eq_true rfl) ⟨rfl, Or.inl (by decide)⟩ rfl (Nat.le_of_ble_eq_true rfl) (t_194 43 N (P.1 46 5) P) (fun P1 => ?_)
    refine tr_blk 3 (pc' := 38) (rows' := kb_88_13.drop 11) (loc' := [.inr (11, 0, 0, 0)]) (st' := [.inl (.int (P1.1 65 6))]) (P1 := P1) rfl ⟨trivial, trivial, trivial, trivial⟩ ?_
    exact tr_reI (z := km_88) rfl ⟨_, rfl, rfl⟩ rfl
  · refine tr_icF (cd := .lt) h2 ?_
    refine tr_blk 1 (pc' := 12) (rows' := kb_88_0.drop 6) (loc' := [.inr (11, 0, 0, 0)]) (st' := [.inl (.int (-1 : Int32))]) (P1 := P) rfl ⟨trivial, trivial⟩ ?_
    exact tr_reI (z := km_88) rfl ⟨_, rfl, rfl⟩ rfl
def f_280_7688 (i1 : Nat) (a2 : Int32) (a3 : Int32) (P : ab_P) : Option (Int32 × ab_P) :=
    if a3 = (0 : Int32) then
      if ab_gi (P.1 72 33) 7688 then
      ab_lt (ab_pI P i1 ((P.1 72 33)).toNatClampNeg a2) fun P4 =>
      ab_lt (ab_pI P4 72 33 ((P4.1 72 33) + (1 : Int32))) fun P5 =>
      if ab_gi ((P5.1 72 33) - (1 : Int32)) 7688 then
      some ((P5.1 i1 (((P5.1 72 33) - (1 : Int32))).toNatClampNeg), P5)
      else none
      else none
    else
    ab_lt (ab_pI P 72 33 ((P.1 72 33) + (1 : Int32))) fun P1 =>
    if ab_gi ((P1.1 72 33) - (1 : Int32)) 7688 then
    some ((P1.1 i1 (((P1.1 72 33) - (1 : Int32))).toNatClampNeg), P1)
    else none
theorem t_280_7688 {xs : Nat × (Nat → Int32)} {d : Nat} (i1 : Nat) : ∀ (a2 : Int32) (a3 : Int32) (P : ab_P), ab_tr xs wI (d + 0) 280 0 [] [.inr (12, 0, 0, 72), .inr (20, 7688, 0, i1), .inl (.int a2), .inl (.int a3)] [] P (f_280_7688 i1 a2 a3 P) := by
  intro a2 a3 P
  unfold f_280_7688
  refine tr_nil (rows2 := kb_280_0) rfl (List.cons_ne_nil _ _) ?_
  refine tr_blk 1 (pc' := 1) (rows' := kb_280_0.drop 1) (loc' := [.inr (12, 0, 0, 72), .inr (20, 7688, 0, i1), .inl (.int a2), .inl (.int a3)]) (st' := [.inl (.int a3)]) (P1 := P) rfl ⟨trivial, trivial⟩ ?_
  refine tr_if (fun h7 => ?_) (fun h7 => ?_)
  · refine tr_ifF (cd := .ne) (fun q => q h7) ?_
    refine tr_gd (fun h3 => ?_)
    refine tr_blk 5 (pc' := 11) (rows' := kb_280_0.drop 7) (loc' := [.inr (12, 0, 0, 72), .inr (20, 7688, 0, i1), .inl (.int a2), .inl (.int a3)]) (st' := []) (P1 := (ab_pI P i1 ((P.1 72 33)).toNatClampNeg a2)) rfl ⟨trivial, trivial, trivial, trivial, h3, trivial⟩ ?_
    refine tr_lt (fun P4 => ?_)
    refine tr_nil (rows2 := kb_280_11) rfl (List.cons_ne_nil _ _) ?_
    refine tr_blk 6 (pc' := 21) (rows' := kb_280_11.drop 6) (loc' := [.inr (12, 0, 0, 72), .inr (20, 7688, 0, i1), .inl (.int a2), .inl (.int a3)]) (st' := []) (P1 := (ab_pI P4 72 33 ((P4.1 72 33) + (1 : Int32)))) rfl ⟨trivial, trivial, trivial, trivial, trivial, trivial, trivial⟩ ?_
    refine tr_lt (fun P5 => ?_)
    refine tr_gd (fun h6 => ?_)
    refine tr_blk 6 (pc' := 29) (rows' := kb_280_11.drop 12) (loc' := [.inr (12, 0, 0, 72), .inr (20, 7688, 0, i1), .inl (.int a2), .inl (.int a3)]) (st' := [.inl (.int (P5.1 i1 (((P5.1 72 33) - (1 : Int32))).toNatClampNeg))]) (P1 := P5) rfl ⟨trivial, trivial, trivial, trivial, trivial, h6, trivial⟩ ?_
    exact tr_reI (z := km_280) rfl ⟨_, rfl, rfl⟩ rfl
  · refine tr_ifT (cd := .ne) h7 ?_
    refine tr_nil (rows2 := kb_280_11) rfl (List.cons_ne_nil _ _) ?_
    refine tr_blk 6 (pc' := 21) (rows' := kb_280_11.drop 6) (loc' := [.inr (12, 0, 0, 72), .inr (20, 7688, 0, i1), .inl (.int a2), .inl (.int a3)]) (st' := []) (P1 := (ab_pI P 72 33 ((P.1 72 33) + (1 : Int32)))) rfl ⟨trivial, trivial, trivial, trivial, trivial, trivial, trivial⟩ ?_
    refine tr_lt (fun P1 => ?_)
    refine tr_gd (fun h2 => ?_)
    refine tr_blk 6 (pc' := 29) (rows' := kb_280_11.drop 12) (loc' := [.inr (12, 0, 0, 72), .inr (20, 7688, 0, i1), .inl (.int a2), .inl (.int a3)]) (st' := [.inl (.int (P1.1 i1 (((P1.1 72 33) - (1 : Int32))).toNatClampNeg))]) (P1 := P1) rfl ⟨trivial, trivial, trivial, trivial, trivial, h2, trivial⟩ ?_
    exact tr_reI (z := km_280) rfl ⟨_, rfl, rfl⟩ rfl
def f_195_7688_81 (i1 : Nat) (H72 : Int32 → Int32 → ab_P → Option ab_P) : Nat → Int32 → Int32 → Int32 → ab_P → Option ab_P
  | 0, _, _, _, _ => none
  | n + 1, x2, x3, x4, P =>
    if x4 < (366 : Int32) then
      if ab_gi x3 20 then
      if ab_gi x3 20 then
      if ab_gi x4 366 then
      ab_b2 (f_280_7688 i1 (P.1 (479 + 1 + x3.toNatClampNeg) x4.toNatClampNeg) x2 P) fun v17 P16 =>
      if ab_gi x4 366 then
      ab_lt (ab_pI P16 (479 + 1 + x3.toNatClampNeg) x4.toNatClampNeg v17) fun P19 =>
      f_195_7688_81 i1 H72 n x2 x3 (x4 + 1) P19
      else none
      else none
      else none
      else none
    else
    H72 x2 (x3 + 1) P
theorem t_195_7688_81 {xs : Nat × (Nat → Int32)} {d : Nat} (i1 : Nat) (H72 : Int32 → Int32 → ab_P → Option ab_P) (hH72 : ∀ (x2 : Int32) (x3 : Int32) (d4 : ab_V) (P : ab_P), ab_tr xs wV (d + 1) 195 72 [] [.inr (12, 0, 0, 72), .inr (20, 7688, 0, i1), .inl (.int x2), .inl (.int x3), d4] [] P (H72 x2 x3 P)) : ∀ n : Nat, ∀ (x2 : Int32) (x3 : Int32) (x4 : Int32) (P : ab_P), ab_tr xs wV (d + 1) 195 81 [] [.inr (12, 0, 0, 72), .inr (20, 7688, 0, i1), .inl (.int x2), .inl (.int x3), .inl (.int x4)] [] P (f_195_7688_81 i1 H72 n x2 x3 x4 P) := by
  intro n
  induction n with
  | zero => intro x2 x3 x4 P; exact tr_no
  | succ n ih =>
    intro x2 x3 x4 P
    refine tr_nil (rows2 := kb_195_81) rfl (List.cons_ne_nil _ _) ?_
    refine tr_blk 2 (pc' := 86) (rows' := kb_195_81.drop 2) (loc' := [.inr (12, 0, 0, 72), .inr (20, 7688, 0, i1), .inl (.int x2), .inl (.int x3), .inl (.int x4)]) (st' := [.inl (.int (366 : Int32)), .inl (.int x4)]) (P1 := P) rfl ⟨trivial, trivial, trivial⟩ ?_
    refine tr_if (fun h20 => ?_) (fun h20 => ?_)
    · refine tr_icF (cd := .ge) (Int32.not_le.mpr h20) ?_
      refine tr_gd (fun h13 => ?_)
      refine tr_gd (fun h14 => ?_)
      refine tr_gd (fun h15 => ?_)
      refine tr_blk 14 (pc' := 109) (rows' := kb_195_81.drop 17) (loc' := [.inr (12, 0, 0, 72), .inr (20, 7688, 0, i1), .inl (.int x2), .inl (.int x3), .inl (.int x4)]) (st' := [.inl (.int x2), .inl (.int (P.1 (479 + 1 + x3.toNatClampNeg) x4.toNatClampNeg)), .inr (20, 7688, 0, i1), .inr (12, 0, 0, 72), .inl (.int x4), .inr (20, 366, 0, (479 + 1 + x3.toNatClampNeg))]) (P1 := P) rfl ⟨trivial, trivial, trivial, ⟨h13, ab_grl h13⟩, trivial, trivial, trivial, trivial, trivial, trivial, ⟨h14, ab_grl h14⟩, trivial, h15, trivial, trivial⟩ ?_
      refine tr_cWI (z := km_280) (av := [.inr (12, 0, 0, 72), .inr (20, 7688, 0, i1), .inl (.int (P.1 (479 + 1 + x3.toNatClampNeg) x4.toNatClampNeg)), .inl (.int x2)]) (st' := [.inl (.int x4), .inr (20, 366, 0, (479 + 1 + x3.toNatClampNeg))]) rfl rfl rfl (Nat.le_of_ble_eq_true rfl) ⟨rfl, Or.inl (by decide)⟩ rfl (Nat.le_of_ble_eq_true rfl) (t_280_7688 i1 (P.1 (479 + 1 + x3.toNatClampNeg) x4.toNatClampNeg) x2 P) (fun v17 P16 => ?_)
      refine tr_gd (fun h18 => ?_)
      refine tr_blk 1 (pc' := 113) (rows' := kb_195_81.drop 19) (loc' := [.inr (12, 0, 0, 72), .inr (20, 7688, 0, i1), .inl (.int x2), .inl (.int x3), .inl (.int x4)]) (st' := []) (P1 := (ab_pI P16 (479 + 1 + x3.toNatClampNeg) x4.toNatClampNeg v17)) rfl ⟨h18, trivial⟩ ?_
      refine tr_lt (fun P19 => ?_)
      refine tr_blk 1 (pc' := 116) (rows' := kb_195_81.drop 20) (loc' := [.inr (12, 0, 0, 72), .inr (20, 7688, 0, i1), .inl (.int x2), .inl (.int x3), .inl (.int (x4 + 1))]) (st' := []) (P1 := P19) rfl ⟨trivial, trivial⟩ ?_
      refine tr_goto ?_
      exact ih x2 x3 (x4 + 1) P19
    · refine tr_icT (cd := .ge) (Int32.not_lt.mp h20) ?_
      refine tr_nil (rows2 := kb_195_119) rfl (List.cons_ne_nil _ _) ?_
      refine tr_blk 1 (pc' := 122) (rows' := kb_195_119.drop 1) (loc' := [.inr (12, 0, 0, 72), .inr (20, 7688, 0, i1), .inl (.int x2), .inl (.int (x3 + 1)), .inl (.int x4)]) (st' := []) (P1 := P) rfl ⟨trivial, trivial⟩ ?_
      refine tr_goto ?_
      exact hH72 x2 (x3 + 1) (.inl (.int x4)) P
def f_195_7688_72 (i1 : Nat) (N : Nat) : Nat → Int32 → Int32 → ab_P → Option ab_P
  | 0, _, _, _ => none
  | n + 1, x2, x3, P =>
    if x3 < (20 : Int32) then
      f_195_7688_81 i1 (fun y0 y1 y2 => f_195_7688_72 i1 N n y0 y1 y2) N x2 x3 (0 : Int32) P
    else
    some P
theorem t_195_7688_72 {xs : Nat × (Nat → Int32)} {d : Nat} (i1 : Nat) (N : Nat) : ∀ n : Nat, ∀ (x2 : Int32) (x3 : Int32) (d4 : ab_V) (P : ab_P), ab_tr xs wV (d + 1) 195 72 [] [.inr (12, 0, 0, 72), .inr (20, 7688, 0, i1), .inl (.int x2), .inl (.int x3), d4] [] P (f_195_7688_72 i1 N n x2 x3 P) := by
  intro n
  induction n with
  | zero => intro x2 x3 d4 P; exact tr_no
  | succ n ih =>
    intro x2 x3 d4 P
    refine tr_nil (rows2 := kb_195_72) rfl (List.cons_ne_nil _ _) ?_
    refine tr_blk 2 (pc' := 75) (rows' := kb_195_72.drop 2) (loc' := [.inr (12, 0, 0, 72), .inr (20, 7688, 0, i1), .inl (.int x2), .inl (.int x3), d4]) (st' := [.inl (.int (20 : Int32)), .inl (.int x3)]) (P1 := P) rfl ⟨trivial, trivial, trivial⟩ ?_
    refine tr_if (fun h21 => ?_) (fun h21 => ?_)
    · refine tr_icF (cd := .ge) (Int32.not_le.mpr h21) ?_
      refine tr_blk 2 (pc' := 81) (rows' := kb_195_72.drop 5) (loc' := [.inr (12, 0, 0, 72), .inr (20, 7688, 0, i1), .inl (.int x2), .inl (.int x3), .inl (.int (0 : Int32))]) (st' := []) (P1 := P) rfl ⟨trivial, trivial, trivial⟩ ?_
      exact t_195_7688_81 i1 _ ih N x2 x3 (0 : Int32) P
    · refine tr_icT (cd := .ge) (Int32.not_lt.mp h21) ?_
      refine tr_nil (rows2 := kb_195_125) rfl (List.cons_ne_nil _ _) ?_
      exact tr_reV (z := km_195) rfl rfl rfl
def f_195_7688_39 (i1 : Nat) (N : Nat) : Nat → Int32 → Int32 → ab_P → Option ab_P
  | 0, _, _, _ => none
  | n + 1, x2, x3, P =>
    if x3 < (366 : Int32) then
      if ab_gi x3 366 then
      ab_b2 (f_280_7688 i1 (P.1 477 x3.toNatClampNeg) x2 P) fun v10 P9 =>
      if ab_gi x3 366 then
      ab_lt (ab_pI P9 477 x3.toNatClampNeg v10) fun P12 =>
      f_195_7688_39 i1 N n x2 (x3 + 1) P12
      else none
      else none
    else
    f_195_7688_72 i1 N N x2 (0 : Int32) P
theorem t_195_7688_39 {xs : Nat × (Nat → Int32)} {d : Nat} (i1 : Nat) (N : Nat) : ∀ n : Nat, ∀ (x2 : Int32) (x3 : Int32) (P : ab_P), ab_tr xs wV (d + 1) 195 39 [] [.inr (12, 0, 0, 72), .inr (20, 7688, 0, i1), .inl (.int x2), .inl (.int x3), ab_top] [] P (f_195_7688_39 i1 N n x2 x3 P) := by
  intro n
  induction n with
  | zero => intro x2 x3 P; exact tr_no
  | succ n ih =>
    intro x2 x3 P
    refine tr_nil (rows2 := kb_195_39) rfl (List.cons_ne_nil _ _) ?_
    refine tr_blk 2 (pc' := 43) (rows' := kb_195_39.drop 2) (loc' := [.inr (12, 0, 0, 72), .inr (20, 7688, 0, i1), .inl (.int x2), .inl (.int x3), ab_top]) (st' := [.inl (.int (366 : Int32)), .inl (.int x3)]) (P1 := P) rfl ⟨trivial, trivial, trivial⟩ ?_
    refine tr_if (fun h22 => ?_) (fun h22 => ?_)
    · refine tr_icF (cd := .ge) (Int32.not_le.mpr h22) ?_
      refine tr_gd (fun h8 => ?_)
      refine tr_blk 10 (pc' := 60) (rows' := kb_195_39.drop 13) (loc' := [.inr (12, 0, 0, 72), .inr (20, 7688, 0, i1), .inl (.int x2), .inl (.int x3), ab_top]) (st' := [.inl (.int x2), .inl (.int (P.1 477 x3.toNatClampNeg)), .inr (20, 7688, 0, i1), .inr (12, 0, 0, 72), .inl (.int x3), .inr (20, 366, 0, 477)]) (P1 := P) rfl ⟨trivial, trivial, trivial, trivial, trivial, trivial, trivial, trivial, h8, trivial, trivial⟩ ?_
      refine tr_cWI (z := km_280) (av := [.inr (12, 0, 0, 72), .inr (20, 7688, 0, i1), .inl (.int (P.1 477 x3.toNatClampNeg)), .inl (.int x2)]) (st' := [.inl (.int x3), .inr (20, 366, 0, 477)]) rfl rfl rfl (Nat.le_of_ble_eq_true rfl) ⟨rfl, Or.inl (by decide)⟩ rfl (Nat.le_of_ble_eq_true rfl) (t_280_7688 i1 (P.1 477 x3.toNatClampNeg) x2 P) (fun v10 P9 => ?_)
      refine tr_gd (fun h11 => ?_)
      refine tr_blk 1 (pc' := 64) (rows' := kb_195_39.drop 15) (loc' := [.inr (12, 0, 0, 72), .inr (20, 7688, 0, i1), .inl (.int x2), .inl (.int x3), ab_top]) (st' := []) (P1 := (ab_pI P9 477 x3.toNatClampNeg v10)) rfl ⟨h11, trivial⟩ ?_
      refine tr_lt (fun P12 => ?_)
      refine tr_blk 1 (pc' := 67) (rows' := kb_195_39.drop 16) (loc' := [.inr (12, 0, 0, 72), .inr (20, 7688, 0, i1), .inl (.int x2), .inl (.int (x3 + 1)), ab_top]) (st' := []) (P1 := P12) rfl ⟨trivial, trivial⟩ ?_
      refine tr_goto ?_
      exact ih x2 (x3 + 1) P12
    · refine tr_icT (cd := .ge) (Int32.not_lt.mp h22) ?_
      refine tr_nil (rows2 := kb_195_70) rfl (List.cons_ne_nil _ _) ?_
      refine tr_blk 2 (pc' := 72) (rows' := kb_195_70.drop 2) (loc' := [.inr (12, 0, 0, 72), .inr (20, 7688, 0, i1), .inl (.int x2), .inl (.int (0 : Int32)), ab_top]) (st' := []) (P1 := P) rfl ⟨trivial, trivial, trivial⟩ ?_
      exact t_195_7688_72 i1 N N x2 (0 : Int32) (ab_top) P
def f_195_7688 (i1 : Nat) (N : Nat) (a2 : Int32) (P : ab_P) : Option ab_P :=
    ab_lt (ab_pI P 72 33 (0 : Int32)) fun P1 =>
    ab_b2 (f_280_7688 i1 (P1.1 76 3) a2 P1) fun v3 P2 =>
    ab_lt (ab_pI P2 76 3 v3) fun P4 =>
    ab_b2 (f_280_7688 i1 (P4.1 72 30) a2 P4) fun v6 P5 =>
    ab_lt (ab_pI P5 72 30 v6) fun P7 =>
    f_195_7688_39 i1 N N a2 (0 : Int32) P7
theorem t_195_7688 {xs : Nat × (Nat → Int32)} {d : Nat} (i1 : Nat) (N : Nat) : ∀ (a2 : Int32) (P : ab_P), ab_tr xs wV (d + 1) 195 0 [] [.inr (12, 0, 0, 72), .inr (20, 7688, 0, i1), .inl (.int a2), ab_top, ab_top] [] P (f_195_7688 i1 N a2 P) := by
  intro a2 P
  unfold f_195_7688
  refine tr_nil (rows2 := kb_195_0) rfl (List.cons_ne_nil _ _) ?_
  refine tr_blk 3 (pc' := 5) (rows' := kb_195_0.drop 3) (loc' := [.inr (12, 0, 0, 72), .inr (20, 7688, 0, i1), .inl (.int a2), ab_top, ab_top]) (st' := []) (P1 := (ab_pI P 72 33 (0 : Int32))) rfl ⟨trivial, trivial, trivial, trivial⟩ ?_
  refine tr_lt (fun P1 => ?_)
  refine tr_blk 10 (pc' := 19) (rows' := kb_195_0.drop 13) (loc' := [.inr (12, 0, 0, 72), .inr (20, 7688, 0, i1), .inl (.int a2), ab_top, ab_top]) (st' := [.inl (.int a2), .inl (.int (P1.1 76 3)), .inr (20, 7688, 0, i1), .inr (12, 0, 0, 72), .inl (.int (3 : Int32)), .inr (20, 4, 0, 76)]) (P1 := P1) rfl ⟨trivial, trivial, trivial, trivial, trivial, trivial, trivial, trivial, (ab_vi (by decide)), trivial, trivial⟩ ?_
  refine tr_cWI (z := km_280) (av := [.inr (12, 0, 0, 72), .inr (20, 7688, 0, i1), .inl (.int (P1.1 76 3)), .inl (.int a2)]) (st' := [.inl (.int (3 : Int32)), .inr (20, 4, 0, 76)]) rfl rfl rfl (Nat.le_of_ble_eq_true rfl) ⟨rfl, Or.inl (by decide)⟩ rfl (Nat.le_of_ble_eq_true rfl) (t_280_7688 i1 (P1.1 76 3) a2 P1) (fun v3 P2 => ?_)
  refine tr_blk 1 (pc' := 23) (rows' := kb_195_0.drop 15) (loc' := [.inr (12, 0, 0, 72), .inr (20, 7688, 0, i1), .inl (.int a2), ab_top, ab_top]) (st' := []) (P1 := (ab_pI P2 76 3 v3)) rfl ⟨(ab_vi (by decide)), trivial⟩ ?_
  refine tr_lt (fun P4 => ?_)
  refine tr_blk 6 (pc' := 31) (rows' := kb_195_0.drop 21) (loc' := [.inr (12, 0, 0, 72), .inr (20, 7688, 0, i1), .inl (.int a2), ab_top, ab_top]) (st' := [.inl (.int a2), .inl (.int (P4.1 72 30)), .inr (20, 7688, 0, i1), .inr (12, 0, 0, 72), .inr (12, 0, 0, 72)]) (P1 := P4) rfl ⟨trivial, trivial, trivial, trivial, trivial, trivial, trivial⟩ ?_
  refine tr_cWI (z := km_280) (av := [.inr (12, 0, 0, 72), .inr (20, 7688, 0, i1), .inl (.int (P4.1 72 30)), .inl (.int a2)]) (st' := [.inr (12, 0, 0, 72)]) rfl rfl rfl (Nat.le_of_ble_eq_true rfl) ⟨rfl, Or.inl (by decide)⟩ rfl (Nat.le_of_ble_eq_true rfl) (t_280_7688 i1 (P4.1 72 30) a2 P4) (fun v6 P5 => ?_)
  refine tr_blk 1 (pc' := 37) (rows' := kb_195_0.drop 23) (loc' := [.inr (12, 0, 0, 72), .inr (20, 7688, 0, i1), .inl (.int a2), ab_top, ab_top]) (st' := []) (P1 := (ab_pI P5 72 30 v6)) rfl ⟨trivial, trivial⟩ ?_
  refine tr_lt (fun P7 => ?_)
  refine tr_blk 2 (pc' := 39) (rows' := kb_195_0.drop 25) (loc' := [.inr (12, 0, 0, 72), .inr (20, 7688, 0, i1), .inl (.int a2), .inl (.int (0 : Int32)), ab_top]) (st' := []) (P1 := P7) rfl ⟨trivial, trivial, trivial⟩ ?_
  exact t_195_7688_39 i1 N N a2 (0 : Int32) P7
def f_89 (N : Nat) (P : ab_P) : Option (Int32 × ab_P) :=
    ab_lt (ab_pI P 72 0 (0 : Int32)) fun P1 =>
    if (P1.1 72 32) = (3 : Int32) then
      some ((-1 : Int32), P1)
    else
    if ab_gi (P1.1 72 32) 3 then
    Option.bind (f_195_7688 (500 + 1 + ((P1.1 72 32)).toNatClampNeg) N (0 : Int32) P1) fun P3 =>
    ab_lt (ab_pI P3 72 32 ((P3.1 72 32) + (1 : Int32))) fun P4 =>
    some ((P4.1 72 32), P4)
    else none
theorem t_89 {xs : Nat × (Nat → Int32)} {d : Nat} (N : Nat) : ∀ (P : ab_P), ab_tr xs wI (d + 2) 89 0 [] [.inr (12, 0, 0, 72)] [] P (f_89 N P) := by
  intro P
  unfold f_89
  refine tr_nil (rows2 := kb_89_0) rfl (List.cons_ne_nil _ _) ?_
  refine tr_blk 3 (pc' := 5) (rows' := kb_89_0.drop 3) (loc' := [.inr (12, 0, 0, 72)]) (st' := []) (P1 := (ab_pI P 72 0 (0 : Int32))) rfl ⟨trivial, trivial, trivial, trivial⟩ ?_
  refine tr_lt (fun P1 => ?_)
  refine tr_blk 3 (pc' := 10) (rows' := kb_89_0.drop 6) (loc' := [.inr (12, 0, 0, 72)]) (st' := [.inl (.int (3 : Int32)), .inl (.int (P1.1 72 32))]) (P1 := P1) rfl ⟨trivial, trivial, trivial, trivial⟩ ?_
  refine tr_if (fun h5 => ?_) (fun h5 => ?_)
  · refine tr_icF (cd := .ne) (fun q => q h5) ?_
    refine tr_blk 1 (pc' := 14) (rows' := kb_89_0.drop 8) (loc' := [.inr (12, 0, 0, 72)]) (st' := [.inl (.int (-1 : Int32))]) (P1 := P1) rfl ⟨trivial, trivial⟩ ?_
    exact tr_reI (z := km_89) rfl ⟨_, rfl, rfl⟩ rfl
  · refine tr_icT (cd := .ne) h5 ?_
    refine tr_nil (rows2 := kb_89_15) rfl (List.cons_ne_nil _ _) ?_
    refine tr_gd (fun h2 => ?_)
    refine tr_blk 7 (pc' := 26) (rows' := kb_89_15.drop 7) (loc' := [.inr (12, 0, 0, 72)]) (st' := [.inl (.int (0 : Int32)), .inr (20, 7688, 0, (500 + 1 + ((P1.1 72 32)).toNatClampNeg)), .inr (12, 0, 0, 72)]) (P1 := P1) rfl ⟨trivial, trivial, trivial, trivial, trivial, ⟨h2, ab_grl h2⟩, trivial, trivial⟩ ?_
    refine tr_cWV (z := km_195) (av := [.inr (12, 0, 0, 72), .inr (20, 7688, 0, (500 + 1 + ((P1.1 72 32)).toNatClampNeg)), .inl (.int (0 : Int32))]) (st' := []) rfl rfl rfl (Nat.le_of_ble_eq_true rfl) ⟨rfl, Or.inl (by decide)⟩ rfl (Nat.le_of_ble_eq_true rfl) (t_195_7688 (500 + 1 + ((P1.1 72 32)).toNatClampNeg) N (0 : Int32) P1) (fun P3 => ?_)
    refine tr_blk 6 (pc' := 39) (rows' := kb_89_15.drop 14) (loc' := [.inr (12, 0, 0, 72)]) (st' := []) (P1 := (ab_pI P3 72 32 ((P3.1 72 32) + (1 : Int32)))) rfl ⟨trivial, trivial, trivial, trivial, trivial, trivial, trivial⟩ ?_
    refine tr_lt (fun P4 => ?_)
    refine tr_blk 2 (pc' := 43) (rows' := kb_89_15.drop 16) (loc' := [.inr (12, 0, 0, 72)]) (st' := [.inl (.int (P4.1 72 32))]) (P1 := P4) rfl ⟨trivial, trivial, trivial⟩ ?_
    exact tr_reI (z := km_89) rfl ⟨_, rfl, rfl⟩ rfl
def f_196_54 (i1 : Nat) : Nat → Int32 → ab_P → Option (Int32 × ab_P)
  | 0, _, _ => none
  | n + 1, x2, P =>
    if x2 < (P.1 65 1) then
      if x2 < (20 : Int32) then
        if ab_gi (((P.1 65 6) * (20 : Int32)) + x2) 60 then
        Option.bind (P.2.2.1 68 ((((P.1 65 6) * (20 : Int32)) + x2)).toNatClampNeg) fun q8 =>
        Option.bind (f_279 20 66 q8 x2 P) fun P9 =>
        f_196_54 i1 n (x2 + 1) P9
        else none
      else
      if ab_gi (P.1 65 6) 3 then
      some ((P.1 70 ((P.1 65 6)).toNatClampNeg), P)
      else none
    else
    if ab_gi (P.1 65 6) 3 then
    some ((P.1 70 ((P.1 65 6)).toNatClampNeg), P)
    else none
theorem t_196_54 {xs : Nat × (Nat → Int32)} {d : Nat} (i1 : Nat) : ∀ n : Nat, ∀ (x2 : Int32) (P : ab_P), ab_tr xs wI (d + 2) 196 54 [] [.inr (3, 0, 0, 65), .inr (6, 0, 0, i1), .inl (.int x2)] [] P (f_196_54 i1 n x2 P) := by
  intro n
  induction n with
  | zero => intro x2 P; exact tr_no
  | succ n ih =>
    intro x2 P
    refine tr_nil (rows2 := kb_196_54) rfl (List.cons_ne_nil _ _) ?_
    refine tr_blk 3 (pc' := 59) (rows' := kb_196_54.drop 3) (loc' := [.inr (3, 0, 0, 65), .inr (6, 0, 0, i1), .inl (.int x2)]) (st' := [.inl (.int (P.1 65 1)), .inl (.int x2)]) (P1 := P) rfl ⟨trivial, trivial, trivial, trivial⟩ ?_
    refine tr_if (fun h10 => ?_) (fun h10 => ?_)
    · refine tr_icF (cd := .ge) (Int32.not_le.mpr h10) ?_
      refine tr_blk 2 (pc' := 65) (rows' := kb_196_54.drop 6) (loc' := [.inr (3, 0, 0, 65), .inr (6, 0, 0, i1), .inl (.int x2)]) (st' := [.inl (.int (20 : Int32)), .inl (.int x2)]) (P1 := P) rfl ⟨trivial, trivial, trivial⟩ ?_
      refine tr_if (fun h11 => ?_) (fun h11 => ?_)
      · refine tr_icF (cd := .ge) (Int32.not_le.mpr h11) ?_
        refine tr_gd (fun h7 => ?_)
        refine tr_blk 12 (pc' := 87) (rows' := kb_196_54.drop 19) (loc' := [.inr (3, 0, 0, 65), .inr (6, 0, 0, i1), .inl (.int x2)]) (st' := [(ab_lg (P.2.2.1 68 ((((P.1 65 6) * (20 : Int32)) + x2)).toNatClampNeg)), .inl (.int x2), .inr (25, 20, 0, 66)]) (P1 := P) rfl ⟨trivial, trivial, trivial, trivial, trivial, trivial, trivial, trivial, trivial, trivial, trivial, h7, trivial⟩ ?_
        refine tr_sh (fun q8 => ?_)
        refine tr_cWV (z := km_279) (av := [.inr (25, 20, 0, 66), .inl (.int x2), .inr (6, 0, 0, q8)]) (st' := []) rfl rfl rfl (Nat.le_of_ble_eq_true rfl) trivial rfl (Nat.le_of_ble_eq_true rfl) (t_279 20 66 q8 x2 P) (fun P9 => ?_)
        refine tr_blk 1 (pc' := 93) (rows' := kb_196_54.drop 21) (loc' := [.inr (3, 0, 0, 65), .inr (6, 0, 0, i1), .inl (.int (x2 + 1))]) (st' := []) (P1 := P9) rfl ⟨trivial, trivial⟩ ?_
        refine tr_goto ?_
        exact ih (x2 + 1) P9
      · refine tr_icT (cd := .ge) (Int32.not_lt.mp h11) ?_
        refine tr_nil (rows2 := kb_196_96) rfl (List.cons_ne_nil _ _) ?_
        refine tr_gd (fun h6 => ?_)
        refine tr_blk 5 (pc' := 105) (rows' := kb_196_96.drop 5) (loc' := [.inr (3, 0, 0, 65), .inr (6, 0, 0, i1), .inl (.int x2)]) (st' := [.inl (.int (P.1 70 ((P.1 65 6)).toNatClampNeg))]) (P1 := P) rfl ⟨trivial, trivial, trivial, trivial, h6, trivial⟩ ?_
        exact tr_reI (z := km_196) rfl ⟨_, rfl, rfl⟩ rfl
    · refine tr_icT (cd := .ge) (Int32.not_lt.mp h10) ?_
      refine tr_nil (rows2 := kb_196_96) rfl (List.cons_ne_nil _ _) ?_
      refine tr_gd (fun h5 => ?_)
      refine tr_blk 5 (pc' := 105) (rows' := kb_196_96.drop 5) (loc' := [.inr (3, 0, 0, 65), .inr (6, 0, 0, i1), .inl (.int x2)]) (st' := [.inl (.int (P.1 70 ((P.1 65 6)).toNatClampNeg))]) (P1 := P) rfl ⟨trivial, trivial, trivial, trivial, h5, trivial⟩ ?_
      exact tr_reI (z := km_196) rfl ⟨_, rfl, rfl⟩ rfl
def f_196 (i1 : Nat) (N : Nat) (P : ab_P) : Option (Int32 × ab_P) :=
    if (0 : Int32) < (P.1 65 6) then
      if (3 : Int32) < (P.1 65 6) then
        some ((0 : Int32), P)
      else
      ab_lt (ab_pI P 65 6 ((P.1 65 6) - (1 : Int32))) fun P1 =>
      Option.bind (f_227 3 67 i1 (P1.1 65 6) P1) fun P2 =>
      if ab_gi (P2.1 65 6) 3 then
      ab_lt (ab_pI P2 65 1 (P2.1 69 ((P2.1 65 6)).toNatClampNeg)) fun P4 =>
      f_196_54 i1 N (0 : Int32) P4
      else none
    else
    some ((0 : Int32), P)
theorem t_196 {xs : Nat × (Nat → Int32)} {d : Nat} (i1 : Nat) (N : Nat) : ∀ (P : ab_P), ab_tr xs wI (d + 2) 196 0 [] [.inr (3, 0, 0, 65), .inr (6, 0, 0, i1), ab_top] [] P (f_196 i1 N P) := by
  intro P
  unfold f_196
  refine tr_nil (rows2 := kb_196_0) rfl (List.cons_ne_nil _ _) ?_
  refine tr_blk 2 (pc' := 4) (rows' := kb_196_0.drop 2) (loc' := [.inr (3, 0, 0, 65), .inr (6, 0, 0, i1), ab_top]) (st' := [.inl (.int (P.1 65 6))]) (P1 := P) rfl ⟨trivial, trivial, trivial⟩ ?_
  refine tr_if (fun h12 => ?_) (fun h12 => ?_)
  · refine tr_ifF (cd := .le) (Int32.not_le.mpr h12) ?_
    refine tr_blk 3 (pc' := 12) (rows' := kb_196_0.drop 6) (loc' := [.inr (3, 0, 0, 65), .inr (6, 0, 0, i1), ab_top]) (st' := [.inl (.int (3 : Int32)), .inl (.int (P.1 65 6))]) (P1 := P) rfl ⟨trivial, trivial, trivial, trivial⟩ ?_
    refine tr_if (fun h13 => ?_) (fun h13 => ?_)
    · refine tr_icF (cd := .le) (Int32.not_le.mpr h13) ?_
      refine tr_nil (rows2 := kb_196_15) rfl (List.cons_ne_nil _ _) ?_
      refine tr_blk 1 (pc' := 16) (rows' := kb_196_15.drop 1) (loc' := [.inr (3, 0, 0, 65), .inr (6, 0, 0, i1), ab_top]) (st' := [.inl (.int (0 : Int32))]) (P1 := P) rfl ⟨trivial, trivial⟩ ?_
      exact tr_reI (z := km_196) rfl ⟨_, rfl, rfl⟩ rfl
    · refine tr_icT (cd := .le) (Int32.not_lt.mp h13) ?_
      refine tr_nil (rows2 := kb_196_17) rfl (List.cons_ne_nil _ _) ?_
      refine tr_blk 6 (pc' := 27) (rows' := kb_196_17.drop 6) (loc' := [.inr (3, 0, 0, 65), .inr (6, 0, 0, i1), ab_top]) (st' := []) (P1 := (ab_pI P 65 6 ((P.1 65 6) - (1 : Int32)))) rfl ⟨trivial, trivial, trivial, trivial, trivial, trivial, trivial⟩ ?_
      refine tr_lt (fun P1 => ?_)
      refine tr_blk 5 (pc' := 36) (rows' := kb_196_17.drop 11) (loc' := [.inr (3, 0, 0, 65), .inr (6, 0, 0, i1), ab_top]) (st' := [.inr (6, 0, 0, i1), .inl (.int (P1.1 65 6)), .inr (25, 3, 0, 67)]) (P1 := P1) rfl ⟨trivial, trivial, trivial, trivial, trivial, trivial⟩ ?_
      refine tr_cWV (z := km_227) (av := [.inr (25, 3, 0, 67), .inl (.int (P1.1 65 6)), .inr (6, 0, 0, i1)]) (st' := []) rfl rfl rfl (Nat.le_of_ble_eq_true rfl) trivial rfl (Nat.le_of_ble_eq_true rfl) (t_227 3 67 i1 (P1.1 65 6) P1) (fun P2 => ?_)
      refine tr_gd (fun h3 => ?_)
      refine tr_blk 7 (pc' := 52) (rows' := kb_196_17.drop 19) (loc' := [.inr (3, 0, 0, 65), .inr (6, 0, 0, i1), ab_top]) (st' := []) (P1 := (ab_pI P2 65 1 (P2.1 69 ((P2.1 65 6)).toNatClampNeg))) rfl ⟨trivial, trivial, trivial, trivial, trivial, h3, trivial, trivial⟩ ?_
      refine tr_lt (fun P4 => ?_)
      refine tr_blk 2 (pc' := 54) (rows' := kb_196_17.drop 21) (loc' := [.inr (3, 0, 0, 65), .inr (6, 0, 0, i1), .inl (.int (0 : Int32))]) (st' := []) (P1 := P4) rfl ⟨trivial, trivial, trivial⟩ ?_
      exact t_196_54 i1 N (0 : Int32) P4
  · refine tr_ifT (cd := .le) (Int32.not_lt.mp h12) ?_
    refine tr_nil (rows2 := kb_196_15) rfl (List.cons_ne_nil _ _) ?_
    refine tr_blk 1 (pc' := 16) (rows' := kb_196_15.drop 1) (loc' := [.inr (3, 0, 0, 65), .inr (6, 0, 0, i1), ab_top]) (st' := [.inl (.int (0 : Int32))]) (P1 := P) rfl ⟨trivial, trivial⟩ ?_
    exact tr_reI (z := km_196) rfl ⟨_, rfl, rfl⟩ rfl
def f_90 (N : Nat) (P : ab_P) : Option (Int32 × ab_P) :=
    if (P.1 65 6) = (0 : Int32) then
      some ((-1 : Int32), P)
    else
    ab_b2 (f_196 43 N P) fun v2 P1 =>
    ab_lt (ab_pI P1 46 5 v2) fun P3 =>
    ab_lt (ab_pI P3 52 6 (0 : Int32)) fun P4 =>
    some ((P4.1 65 6), P4)
theorem t_90 {xs : Nat × (Nat → Int32)} {d : Nat} (N : Nat) : ∀ (P : ab_P), ab_tr xs wI (d + 3) 90 0 [] [.inr (11, 0, 0, 0)] [] P (f_90 N P) := by
  intro P
  unfold f_90
  refine tr_nil (rows2 := kb_90_0) rfl (List.cons_ne_nil _ _) ?_
  refine tr_blk 3 (pc' := 7) (rows' := kb_90_0.drop 3) (loc' := [.inr (11, 0, 0, 0)]) (st' := [.inl (.int (P.1 65 6))]) (P1 := P) rfl ⟨trivial, trivial, trivial, trivial⟩ ?_
  refine tr_if (fun h5 => ?_) (fun h5 => ?_)
  · refine tr_ifF (cd := .ne) (fun q => q h5) ?_
    refine tr_blk 1 (pc' := 11) (rows' := kb_90_0.drop 5) (loc' := [.inr (11, 0, 0, 0)]) (st' := [.inl (.int (-1 : Int32))]) (P1 := P) rfl ⟨trivial, trivial⟩ ?_
    exact tr_reI (z := km_90) rfl ⟨_, rfl, rfl⟩ rfl
  · refine tr_ifT (cd := .ne) h5 ?_
    refine tr_nil (rows2 := kb_90_12) rfl (List.cons_ne_nil _ _) ?_
    refine tr_blk 6 (pc' := 24) (rows' := kb_90_12.drop 6) (loc' := [.inr (11, 0, 0, 0)]) (st' := [.inr (6, 0, 0, 43), .inr (3, 0, 0, 65), .inr (4, 0, 0, 46)]) (P1 := P) rfl ⟨trivial, trivial, trivial, trivial, trivial, trivial, trivial⟩ ?_
    refine tr_cWI (z := km_196) (av := [.inr (3, 0, 0, 65), .inr (6, 0, 0, 43)]) (st' := [.inr (4, 0, 0, 46)]) rfl rfl rfl (Nat.le_of_ble_eq_true rfl) ⟨rfl, Or.inl (by decide)⟩ rfl (Nat.le_of_ble_eq_true rfl) (t_196 43 N P) (fun v2 P1 => ?_)
    refine tr_blk 1 (pc' := 30) (rows' := kb_90_12.drop 8) (loc' := [.inr (11, 0, 0, 0)]) (st' := []) (P1 := (ab_pI P1 46 5 v2)) rfl ⟨trivial, trivial⟩ ?_
    refine tr_lt (fun P3 => ?_)
    refine tr_blk 4 (pc' := 38) (rows' := kb_90_12.drop 12) (loc' := [.inr (11, 0, 0, 0)]) (st' := []) (P1 := (ab_pI P3 52 6 (0 : Int32))) rfl ⟨trivial, trivial, trivial, trivial, trivial⟩ ?_
    refine tr_lt (fun P4 => ?_)
    refine tr_blk 3 (pc' := 45) (rows' := kb_90_12.drop 15) (loc' := [.inr (11, 0, 0, 0)]) (st' := [.inl (.int (P4.1 65 6))]) (P1 := P4) rfl ⟨trivial, trivial, trivial, trivial⟩ ?_
    exact tr_reI (z := km_90) rfl ⟨_, rfl, rfl⟩ rfl
def f_91 (N : Nat) (P : ab_P) : Option (Int32 × ab_P) :=
    ab_lt (ab_pI P 72 0 (0 : Int32)) fun P1 =>
    if (P1.1 72 32) = (0 : Int32) then
      some ((-1 : Int32), P1)
    else
    ab_lt (ab_pI P1 72 32 ((P1.1 72 32) - (1 : Int32))) fun P2 =>
    if ab_gi (P2.1 72 32) 3 then
    Option.bind (f_195_7688 (500 + 1 + ((P2.1 72 32)).toNatClampNeg) N (1 : Int32) P2) fun P4 =>
    ab_lt (ab_pI P4 72 31 (0 : Int32)) fun P5 =>
    some ((P5.1 72 32), P5)
    else none
theorem t_91 {xs : Nat × (Nat → Int32)} {d : Nat} (N : Nat) : ∀ (P : ab_P), ab_tr xs wI (d + 2) 91 0 [] [.inr (12, 0, 0, 72)] [] P (f_91 N P) := by
  intro P
  unfold f_91
  refine tr_nil (rows2 := kb_91_0) rfl (List.cons_ne_nil _ _) ?_
  refine tr_blk 3 (pc' := 5) (rows' := kb_91_0.drop 3) (loc' := [.inr (12, 0, 0, 72)]) (st' := []) (P1 := (ab_pI P 72 0 (0 : Int32))) rfl ⟨trivial, trivial, trivial, trivial⟩ ?_
  refine tr_lt (fun P1 => ?_)
  refine tr_blk 2 (pc' := 9) (rows' := kb_91_0.drop 5) (loc' := [.inr (12, 0, 0, 72)]) (st' := [.inl (.int (P1.1 72 32))]) (P1 := P1) rfl ⟨trivial, trivial, trivial⟩ ?_
  refine tr_if (fun h6 => ?_) (fun h6 => ?_)
  · refine tr_ifF (cd := .ne) (fun q => q h6) ?_
    refine tr_blk 1 (pc' := 13) (rows' := kb_91_0.drop 7) (loc' := [.inr (12, 0, 0, 72)]) (st' := [.inl (.int (-1 : Int32))]) (P1 := P1) rfl ⟨trivial, trivial⟩ ?_
    exact tr_reI (z := km_91) rfl ⟨_, rfl, rfl⟩ rfl
  · refine tr_ifT (cd := .ne) h6 ?_
    refine tr_nil (rows2 := kb_91_14) rfl (List.cons_ne_nil _ _) ?_
    refine tr_blk 6 (pc' := 24) (rows' := kb_91_14.drop 6) (loc' := [.inr (12, 0, 0, 72)]) (st' := []) (P1 := (ab_pI P1 72 32 ((P1.1 72 32) - (1 : Int32)))) rfl ⟨trivial, trivial, trivial, trivial, trivial, trivial, trivial⟩ ?_
    refine tr_lt (fun P2 => ?_)
    refine tr_gd (fun h3 => ?_)
    refine tr_blk 7 (pc' := 35) (rows' := kb_91_14.drop 13) (loc' := [.inr (12, 0, 0, 72)]) (st' := [.inl (.int (1 : Int32)), .inr (20, 7688, 0, (500 + 1 + ((P2.1 72 32)).toNatClampNeg)), .inr (12, 0, 0, 72)]) (P1 := P2) rfl ⟨trivial, trivial, trivial, trivial, trivial, ⟨h3, ab_grl h3⟩, trivial, trivial⟩ ?_
    refine tr_cWV (z := km_195) (av := [.inr (12, 0, 0, 72), .inr (20, 7688, 0, (500 + 1 + ((P2.1 72 32)).toNatClampNeg)), .inl (.int (1 : Int32))]) (st' := []) rfl rfl rfl (Nat.le_of_ble_eq_true rfl) ⟨rfl, Or.inl (by decide)⟩ rfl (Nat.le_of_ble_eq_true rfl) (t_195_7688 (500 + 1 + ((P2.1 72 32)).toNatClampNeg) N (1 : Int32) P2) (fun P4 => ?_)
    refine tr_blk 3 (pc' := 43) (rows' := kb_91_14.drop 17) (loc' := [.inr (12, 0, 0, 72)]) (st' := []) (P1 := (ab_pI P4 72 31 (0 : Int32))) rfl ⟨trivial, trivial, trivial, trivial⟩ ?_
    refine tr_lt (fun P5 => ?_)
    refine tr_blk 2 (pc' := 47) (rows' := kb_91_14.drop 19) (loc' := [.inr (12, 0, 0, 72)]) (st' := [.inl (.int (P5.1 72 32))]) (P1 := P5) rfl ⟨trivial, trivial, trivial⟩ ?_
    exact tr_reI (z := km_91) rfl ⟨_, rfl, rfl⟩ rfl
def f_92 (P : ab_P) (a1 : Int32) : Option Int32 :=
    if a1 < (0 : Int32) then
      some (-1 : Int32)
    else
    if a1 < (3 : Int32) then
      if ab_gi a1 3 then
      some (P.1 71 a1.toNatClampNeg)
      else none
    else
    some (-1 : Int32)
theorem t_92 {xs : Nat × (Nat → Int32)} {d : Nat} (P : ab_P) : ∀ (a1 : Int32), ab_tr xs (rI P) (d + 0) 92 0 [] [.inr (11, 0, 0, 0), .inl (.int a1)] [] P (f_92 P a1) := by
  intro a1
  unfold f_92
  refine tr_nil (rows2 := kb_92_0) rfl (List.cons_ne_nil _ _) ?_
  refine tr_blk 1 (pc' := 1) (rows' := kb_92_0.drop 1) (loc' := [.inr (11, 0, 0, 0), .inl (.int a1)]) (st' := [.inl (.int a1)]) (P1 := P) rfl ⟨trivial, trivial⟩ ?_
  refine tr_if (fun h2 => ?_) (fun h2 => ?_)
  · refine tr_ifT (cd := .lt) h2 ?_
    refine tr_nil (rows2 := kb_92_22) rfl (List.cons_ne_nil _ _) ?_
    refine tr_blk 1 (pc' := 23) (rows' := kb_92_22.drop 1) (loc' := [.inr (11, 0, 0, 0), .inl (.int a1)]) (st' := [.inl (.int (-1 : Int32))]) (P1 := P) rfl ⟨trivial, trivial⟩ ?_
    refine tr_nil (rows2 := kb_92_23) rfl (List.cons_ne_nil _ _) ?_
    exact tr_reI (z := km_92) rfl ⟨_, rfl, rfl⟩ rfl
  · refine tr_ifF (cd := .lt) h2 ?_
    refine tr_blk 4 (pc' := 10) (rows' := kb_92_0.drop 6) (loc' := [.inr (11, 0, 0, 0), .inl (.int a1)]) (st' := [.inl (.int (3 : Int32)), .inl (.int a1)]) (P1 := P) rfl ⟨trivial, trivial, trivial, (Or.inl (by decide)), trivial⟩ ?_
    refine tr_if (fun h3 => ?_) (fun h3 => ?_)
    · refine tr_icF (cd := .ge) (Int32.not_le.mpr h3) ?_
      refine tr_gd (fun h1 => ?_)
      refine tr_blk 4 (pc' := 19) (rows' := kb_92_0.drop 11) (loc' := [.inr (11, 0, 0, 0), .inl (.int a1)]) (st' := [.inl (.int (P.1 71 a1.toNatClampNeg))]) (P1 := P) rfl ⟨trivial, trivial, trivial, h1, trivial⟩ ?_
      refine tr_goto ?_
      refine tr_nil (rows2 := kb_92_23) rfl (List.cons_ne_nil _ _) ?_
      exact tr_reI (z := km_92) rfl ⟨_, rfl, rfl⟩ rfl
    · refine tr_icT (cd := .ge) (Int32.not_lt.mp h3) ?_
      refine tr_nil (rows2 := kb_92_22) rfl (List.cons_ne_nil _ _) ?_
      refine tr_blk 1 (pc' := 23) (rows' := kb_92_22.drop 1) (loc' := [.inr (11, 0, 0, 0), .inl (.int a1)]) (st' := [.inl (.int (-1 : Int32))]) (P1 := P) rfl ⟨trivial, trivial⟩ ?_
      refine tr_nil (rows2 := kb_92_23) rfl (List.cons_ne_nil _ _) ?_
      exact tr_reI (z := km_92) rfl ⟨_, rfl, rfl⟩ rfl
def f_93 (a1 : Int32) (P : ab_P) : Option (Int32 × ab_P) :=
    ab_lt (ab_pI P 72 0 (0 : Int32)) fun P1 =>
    Option.bind (f_112 P1 a1 (0 : Int32) (2 : Int32)) fun v2 =>
    if v2 = (0 : Int32) then
      some ((-1 : Int32), P1)
    else
    if ab_gi a1 3 then
    some ((P1.1 74 a1.toNatClampNeg), P1)
    else none
theorem t_93 {xs : Nat × (Nat → Int32)} {d : Nat} : ∀ (a1 : Int32) (P : ab_P), ab_tr xs wI (d + 1) 93 0 [] [.inr (12, 0, 0, 72), .inl (.int a1)] [] P (f_93 a1 P) := by
  intro a1 P
  unfold f_93
  refine tr_nil (rows2 := kb_93_0) rfl (List.cons_ne_nil _ _) ?_
  refine tr_blk 3 (pc' := 5) (rows' := kb_93_0.drop 3) (loc' := [.inr (12, 0, 0, 72), .inl (.int a1)]) (st' := []) (P1 := (ab_pI P 72 0 (0 : Int32))) rfl ⟨trivial, trivial, trivial, trivial⟩ ?_
  refine tr_lt (fun P1 => ?_)
  refine tr_blk 3 (pc' := 8) (rows' := kb_93_0.drop 6) (loc' := [.inr (12, 0, 0, 72), .inl (.int a1)]) (st' := [.inl (.int (2 : Int32)), .inl (.int (0 : Int32)), .inl (.int a1)]) (P1 := P1) rfl ⟨trivial, trivial, trivial, trivial⟩ ?_
  refine tr_cRI (z := km_112) (av := [.inl (.int a1), .inl (.int (0 : Int32)), .inl (.int (2 : Int32))]) (st' := []) rfl rfl rfl (Nat.le_of_ble_eq_true rfl) trivial rfl (Nat.le_of_ble_eq_true rfl) (t_112 P1 a1 (0 : Int32) (2 : Int32)) (fun v2 => ?_)
  refine tr_if (fun h4 => ?_) (fun h4 => ?_)
  · refine tr_ifT (cd := .eq) h4 ?_
    refine tr_nil (rows2 := kb_93_23) rfl (List.cons_ne_nil _ _) ?_
    refine tr_blk 1 (pc' := 24) (rows' := kb_93_23.drop 1) (loc' := [.inr (12, 0, 0, 72), .inl (.int a1)]) (st' := [.inl (.int (-1 : Int32))]) (P1 := P1) rfl ⟨trivial, trivial⟩ ?_
    refine tr_nil (rows2 := kb_93_24) rfl (List.cons_ne_nil _ _) ?_
    exact tr_reI (z := km_93) rfl ⟨_, rfl, rfl⟩ rfl
  · refine tr_ifF (cd := .eq) h4 ?_
    refine tr_gd (fun h3 => ?_)
    refine tr_blk 4 (pc' := 20) (rows' := kb_93_0.drop 12) (loc' := [.inr (12, 0, 0, 72), .inl (.int a1)]) (st' := [.inl (.int (P1.1 74 a1.toNatClampNeg))]) (P1 := P1) rfl ⟨trivial, trivial, trivial, h3, trivial⟩ ?_
    refine tr_goto ?_
    refine tr_nil (rows2 := kb_93_24) rfl (List.cons_ne_nil _ _) ?_
    exact tr_reI (z := km_93) rfl ⟨_, rfl, rfl⟩ rfl
def f_94 (P : ab_P) (a1 : Int32) : Option Int32 :=
    if a1 = 0 then
      some (P.1 65 6)
    else
    if a1 = 1 then
      some (P.1 1 1)
    else
    if a1 = 2 then
      some (P.1 65 1)
    else
    some (-1 : Int32)
theorem t_94 {xs : Nat × (Nat → Int32)} {d : Nat} (P : ab_P) : ∀ (a1 : Int32), ab_tr xs (rI P) (d + 0) 94 0 [] [.inr (11, 0, 0, 0), .inl (.int a1)] [] P (f_94 P a1) := by
  intro a1
  unfold f_94
  refine tr_nil (rows2 := kb_94_0) rfl (List.cons_ne_nil _ _) ?_
  refine tr_blk 1 (pc' := 1) (rows' := kb_94_0.drop 1) (loc' := [.inr (11, 0, 0, 0), .inl (.int a1)]) (st' := [.inl (.int a1)]) (P1 := P) rfl ⟨trivial, trivial⟩ ?_
  refine tr_if (fun h1 => ?_) (fun h1 => ?_)
  · refine tr_sw (t := 28) (by rw [h1]; rfl) ?_
    refine tr_nil (rows2 := kb_94_28) rfl (List.cons_ne_nil _ _) ?_
    refine tr_blk 3 (pc' := 35) (rows' := kb_94_28.drop 3) (loc' := [.inr (11, 0, 0, 0), .inl (.int a1)]) (st' := [.inl (.int (P.1 65 6))]) (P1 := P) rfl ⟨trivial, trivial, trivial, trivial⟩ ?_
    exact tr_reI (z := km_94) rfl ⟨_, rfl, rfl⟩ rfl
  refine tr_if (fun h2 => ?_) (fun h2 => ?_)
  · refine tr_sw (t := 36) (by rw [h2]; rfl) ?_
    refine tr_nil (rows2 := kb_94_36) rfl (List.cons_ne_nil _ _) ?_
    refine tr_blk 3 (pc' := 43) (rows' := kb_94_36.drop 3) (loc' := [.inr (11, 0, 0, 0), .inl (.int a1)]) (st' := [.inl (.int (P.1 1 1))]) (P1 := P) rfl ⟨trivial, trivial, trivial, trivial⟩ ?_
    exact tr_reI (z := km_94) rfl ⟨_, rfl, rfl⟩ rfl
  refine tr_if (fun h3 => ?_) (fun h3 => ?_)
  · refine tr_sw (t := 44) (by rw [h3]; rfl) ?_
    refine tr_nil (rows2 := kb_94_44) rfl (List.cons_ne_nil _ _) ?_
    refine tr_blk 3 (pc' := 51) (rows' := kb_94_44.drop 3) (loc' := [.inr (11, 0, 0, 0), .inl (.int a1)]) (st' := [.inl (.int (P.1 65 1))]) (P1 := P) rfl ⟨trivial, trivial, trivial, trivial⟩ ?_
    exact tr_reI (z := km_94) rfl ⟨_, rfl, rfl⟩ rfl
  refine tr_sw (t := 52) (ab_swd (k := 3) (by decide) rfl ⟨ab_nei h1 (by decide), ab_nei h2 (by decide), ab_nei h3 (by decide), trivial⟩) ?_
  refine tr_nil (rows2 := kb_94_52) rfl (List.cons_ne_nil _ _) ?_
  refine tr_blk 1 (pc' := 53) (rows' := kb_94_52.drop 1) (loc' := [.inr (11, 0, 0, 0), .inl (.int a1)]) (st' := [.inl (.int (-1 : Int32))]) (P1 := P) rfl ⟨trivial, trivial⟩ ?_
  exact tr_reI (z := km_94) rfl ⟨_, rfl, rfl⟩ rfl
def f_95 (a1 : Int32) (P : ab_P) : Option (Int32 × ab_P) :=
    ab_lt (ab_pI P 72 0 (0 : Int32)) fun P1 =>
    if a1 = (0 : Int32) then
      some ((P1.1 72 32), P1)
    else
    if a1 = (1 : Int32) then
      some ((P1.1 72 1), P1)
    else
    if a1 = (2 : Int32) then
      some ((P1.1 72 30), P1)
    else
    some ((-1 : Int32), P1)
theorem t_95 {xs : Nat × (Nat → Int32)} {d : Nat} : ∀ (a1 : Int32) (P : ab_P), ab_tr xs wI (d + 0) 95 0 [] [.inr (12, 0, 0, 72), .inl (.int a1)] [] P (f_95 a1 P) := by
  intro a1 P
  unfold f_95
  refine tr_nil (rows2 := kb_95_0) rfl (List.cons_ne_nil _ _) ?_
  refine tr_blk 3 (pc' := 5) (rows' := kb_95_0.drop 3) (loc' := [.inr (12, 0, 0, 72), .inl (.int a1)]) (st' := []) (P1 := (ab_pI P 72 0 (0 : Int32))) rfl ⟨trivial, trivial, trivial, trivial⟩ ?_
  refine tr_lt (fun P1 => ?_)
  refine tr_blk 1 (pc' := 6) (rows' := kb_95_0.drop 4) (loc' := [.inr (12, 0, 0, 72), .inl (.int a1)]) (st' := [.inl (.int a1)]) (P1 := P1) rfl ⟨trivial, trivial⟩ ?_
  refine tr_if (fun h2 => ?_) (fun h2 => ?_)
  · refine tr_ifF (cd := .ne) (fun q => q h2) ?_
    refine tr_blk 2 (pc' := 13) (rows' := kb_95_0.drop 7) (loc' := [.inr (12, 0, 0, 72), .inl (.int a1)]) (st' := [.inl (.int (P1.1 72 32))]) (P1 := P1) rfl ⟨trivial, trivial, trivial⟩ ?_
    refine tr_goto ?_
    refine tr_nil (rows2 := kb_95_41) rfl (List.cons_ne_nil _ _) ?_
    exact tr_reI (z := km_95) rfl ⟨_, rfl, rfl⟩ rfl
  · refine tr_ifT (cd := .ne) h2 ?_
    refine tr_nil (rows2 := kb_95_16) rfl (List.cons_ne_nil _ _) ?_
    refine tr_blk 2 (pc' := 18) (rows' := kb_95_16.drop 2) (loc' := [.inr (12, 0, 0, 72), .inl (.int a1)]) (st' := [.inl (.int (1 : Int32)), .inl (.int a1)]) (P1 := P1) rfl ⟨trivial, trivial, trivial⟩ ?_
    refine tr_if (fun h3 => ?_) (fun h3 => ?_)
    · refine tr_icF (cd := .ne) (fun q => q h3) ?_
      refine tr_blk 2 (pc' := 25) (rows' := kb_95_16.drop 5) (loc' := [.inr (12, 0, 0, 72), .inl (.int a1)]) (st' := [.inl (.int (P1.1 72 1))]) (P1 := P1) rfl ⟨trivial, trivial, trivial⟩ ?_
      refine tr_goto ?_
      refine tr_nil (rows2 := kb_95_41) rfl (List.cons_ne_nil _ _) ?_
      exact tr_reI (z := km_95) rfl ⟨_, rfl, rfl⟩ rfl
    · refine tr_icT (cd := .ne) h3 ?_
      refine tr_nil (rows2 := kb_95_28) rfl (List.cons_ne_nil _ _) ?_
      refine tr_blk 2 (pc' := 30) (rows' := kb_95_28.drop 2) (loc' := [.inr (12, 0, 0, 72), .inl (.int a1)]) (st' := [.inl (.int (2 : Int32)), .inl (.int a1)]) (P1 := P1) rfl ⟨trivial, trivial, trivial⟩ ?_
      refine tr_if (fun h4 => ?_) (fun h4 => ?_)
      · refine tr_icF (cd := .ne) (fun q => q h4) ?_
        refine tr_blk 2 (pc' := 37) (rows' := kb_95_28.drop 5) (loc' := [.inr (12, 0, 0, 72), .inl (.int a1)]) (st' := [.inl (.int (P1.1 72 30))]) (P1 := P1) rfl ⟨trivial, trivial, trivial⟩ ?_
        refine tr_goto ?_
        refine tr_nil (rows2 := kb_95_41) rfl (List.cons_ne_nil _ _) ?_
        exact tr_reI (z := km_95) rfl ⟨_, rfl, rfl⟩ rfl
      · refine tr_icT (cd := .ne) h4 ?_
        refine tr_nil (rows2 := kb_95_40) rfl (List.cons_ne_nil _ _) ?_
        refine tr_blk 1 (pc' := 41) (rows' := kb_95_40.drop 1) (loc' := [.inr (12, 0, 0, 72), .inl (.int a1)]) (st' := [.inl (.int (-1 : Int32))]) (P1 := P1) rfl ⟨trivial, trivial⟩ ?_
        refine tr_nil (rows2 := kb_95_41) rfl (List.cons_ne_nil _ _) ?_
        exact tr_reI (z := km_95) rfl ⟨_, rfl, rfl⟩ rfl
def f_252 (P : ab_P) (a0 : Int32) (a1 : Int32) (a2 : Int32) : Option Int32 :=
    if a0 < a1 then
      some (0 : Int32)
    else
    if a2 < a0 then
      some (0 : Int32)
    else
    some (1 : Int32)
theorem t_252 {xs : Nat × (Nat → Int32)} {d : Nat} (P : ab_P) : ∀ (a0 : Int32) (a1 : Int32) (a2 : Int32), ab_tr xs (rI P) (d + 0) 252 0 [] [.inl (.int a0), .inl (.int a1), .inl (.int a2)] [] P (f_252 P a0 a1 a2) := by
  intro a0 a1 a2
  unfold f_252
  refine tr_nil (rows2 := kb_252_0) rfl (List.cons_ne_nil _ _) ?_
  refine tr_blk 2 (pc' := 2) (rows' := kb_252_0.drop 2) (loc' := [.inl (.int a0), .inl (.int a1), .inl (.int a2)]) (st' := [.inl (.int a1), .inl (.int a0)]) (P1 := P) rfl ⟨trivial, trivial, trivial⟩ ?_
  refine tr_if (fun h1 => ?_) (fun h1 => ?_)
  · refine tr_icT (cd := .lt) h1 ?_
    refine tr_nil (rows2 := kb_252_14) rfl (List.cons_ne_nil _ _) ?_
    refine tr_blk 1 (pc' := 15) (rows' := kb_252_14.drop 1) (loc' := [.inl (.int a0), .inl (.int a1), .inl (.int a2)]) (st' := [.inl (.int (0 : Int32))]) (P1 := P) rfl ⟨trivial, trivial⟩ ?_
    refine tr_nil (rows2 := kb_252_15) rfl (List.cons_ne_nil _ _) ?_
    exact tr_reI (z := km_252) rfl ⟨_, rfl, rfl⟩ rfl
  · refine tr_icF (cd := .lt) h1 ?_
    refine tr_blk 2 (pc' := 7) (rows' := kb_252_0.drop 5) (loc' := [.inl (.int a0), .inl (.int a1), .inl (.int a2)]) (st' := [.inl (.int a2), .inl (.int a0)]) (P1 := P) rfl ⟨trivial, trivial, trivial⟩ ?_
    refine tr_if (fun h2 => ?_) (fun h2 => ?_)
    · refine tr_icT (cd := .gt) h2 ?_
      refine tr_nil (rows2 := kb_252_14) rfl (List.cons_ne_nil _ _) ?_
      refine tr_blk 1 (pc' := 15) (rows' := kb_252_14.drop 1) (loc' := [.inl (.int a0), .inl (.int a1), .inl (.int a2)]) (st' := [.inl (.int (0 : Int32))]) (P1 := P) rfl ⟨trivial, trivial⟩ ?_
      refine tr_nil (rows2 := kb_252_15) rfl (List.cons_ne_nil _ _) ?_
      exact tr_reI (z := km_252) rfl ⟨_, rfl, rfl⟩ rfl
    · refine tr_icF (cd := .gt) h2 ?_
      refine tr_blk 1 (pc' := 11) (rows' := kb_252_0.drop 7) (loc' := [.inl (.int a0), .inl (.int a1), .inl (.int a2)]) (st' := [.inl (.int (1 : Int32))]) (P1 := P) rfl ⟨trivial, trivial⟩ ?_
      refine tr_goto ?_
      refine tr_nil (rows2 := kb_252_15) rfl (List.cons_ne_nil _ _) ?_
      exact tr_reI (z := km_252) rfl ⟨_, rfl, rfl⟩ rfl
def f_278 (P : ab_P) (a0 : Int32) (a1 : Int32) (a2 : Int32) : Option Int32 :=
    if a0 < a1 then
      some (0 : Int32)
    else
    if a2 < a0 then
      some (0 : Int32)
    else
    some (1 : Int32)
theorem t_278 {xs : Nat × (Nat → Int32)} {d : Nat} (P : ab_P) : ∀ (a0 : Int32) (a1 : Int32) (a2 : Int32), ab_tr xs (rI P) (d + 0) 278 0 [] [.inl (.int a0), .inl (.int a1), .inl (.int a2)] [] P (f_278 P a0 a1 a2) := by
  intro a0 a1 a2
  unfold f_278
  refine tr_nil (rows2 := kb_278_0) rfl (List.cons_ne_nil _ _) ?_
  refine tr_blk 2 (pc' := 2) (rows' := kb_278_0.drop 2) (loc' := [.inl (.int a0), .inl (.int a1), .inl (.int a2)]) (st' := [.inl (.int a1), .inl (.int a0)]) (P1 := P) rfl ⟨trivial, trivial, trivial⟩ ?_
  refine tr_if (fun h1 => ?_) (fun h1 => ?_)
  · refine tr_icT (cd := .lt) h1 ?_
    refine tr_nil (rows2 := kb_278_14) rfl (List.cons_ne_nil _ _) ?_
    refine tr_blk 1 (pc' := 15) (rows' := kb_278_14.drop 1) (loc' := [.inl (.int a0), .inl (.int a1), .inl (.int a2)]) (st' := [.inl (.int (0 : Int32))]) (P1 := P) rfl ⟨trivial, trivial⟩ ?_
    refine tr_nil (rows2 := kb_278_15) rfl (List.cons_ne_nil _ _) ?_
    exact tr_reI (z := km_278) rfl ⟨_, rfl, rfl⟩ rfl
  · refine tr_icF (cd := .lt) h1 ?_
    refine tr_blk 2 (pc' := 7) (rows' := kb_278_0.drop 5) (loc' := [.inl (.int a0), .inl (.int a1), .inl (.int a2)]) (st' := [.inl (.int a2), .inl (.int a0)]) (P1 := P) rfl ⟨trivial, trivial, trivial⟩ ?_
    refine tr_if (fun h2 => ?_) (fun h2 => ?_)
    · refine tr_icT (cd := .gt) h2 ?_
      refine tr_nil (rows2 := kb_278_14) rfl (List.cons_ne_nil _ _) ?_
      refine tr_blk 1 (pc' := 15) (rows' := kb_278_14.drop 1) (loc' := [.inl (.int a0), .inl (.int a1), .inl (.int a2)]) (st' := [.inl (.int (0 : Int32))]) (P1 := P) rfl ⟨trivial, trivial⟩ ?_
      refine tr_nil (rows2 := kb_278_15) rfl (List.cons_ne_nil _ _) ?_
      exact tr_reI (z := km_278) rfl ⟨_, rfl, rfl⟩ rfl
    · refine tr_icF (cd := .gt) h2 ?_
      refine tr_blk 1 (pc' := 11) (rows' := kb_278_0.drop 7) (loc' := [.inl (.int a0), .inl (.int a1), .inl (.int a2)]) (st' := [.inl (.int (1 : Int32))]) (P1 := P) rfl ⟨trivial, trivial⟩ ?_
      refine tr_goto ?_
      refine tr_nil (rows2 := kb_278_15) rfl (List.cons_ne_nil _ _) ?_
      exact tr_reI (z := km_278) rfl ⟨_, rfl, rfl⟩ rfl
def f_0_23 (xs : Nat × (Nat → Int32)) (K : Nat) (N : Nat) : Nat → Int32 → ab_P → Option (Int32 × ab_P)
  | 0, _, _ => none
  | n + 1, x4, P =>
    if ((Int32.ofNat xs.1) - (8 : Int32)) < x4 then
      some ((1 : Int32), P)
    else
    if ab_gi x4 xs.1 then
    if ((xs.2 (x4).toNatClampNeg) &&& (63 : Int32)) = 0 then
      if ab_gi (x4 + (1 : Int32)) xs.1 then
      if ab_gi (x4 + (2 : Int32)) xs.1 then
      if ab_gi (x4 + (3 : Int32)) xs.1 then
      if ab_gi (x4 + (4 : Int32)) xs.1 then
      if ab_gi (x4 + (5 : Int32)) xs.1 then
      ab_b2 (f_3 N (xs.2 ((x4 + (1 : Int32))).toNatClampNeg) (xs.2 ((x4 + (2 : Int32))).toNatClampNeg) (xs.2 ((x4 + (3 : Int32))).toNatClampNeg) (xs.2 ((x4 + (4 : Int32))).toNatClampNeg) (xs.2 ((x4 + (5 : Int32))).toNatClampNeg) P) fun v8 P7 =>
      if ab_gi (x4 + (1 : Int32)) xs.1 then
      if ab_gi (x4 + (2 : Int32)) xs.1 then
      if ab_gi (x4 + (3 : Int32)) xs.1 then
      if ab_gi (x4 + (4 : Int32)) xs.1 then
      if ab_gi (x4 + (5 : Int32)) xs.1 then
      ab_b2 (f_4 N (xs.2 ((x4 + (1 : Int32))).toNatClampNeg) (xs.2 ((x4 + (2 : Int32))).toNatClampNeg) (xs.2 ((x4 + (3 : Int32))).toNatClampNeg) (xs.2 ((x4 + (4 : Int32))).toNatClampNeg) (xs.2 ((x4 + (5 : Int32))).toNatClampNeg) P7) fun v15 P14 =>
      if v8 = v15 then
        f_0_23 xs K N n (x4 + 8) P14
      else
      some ((0 : Int32), P14)
      else none
      else none
      else none
      else none
      else none
      else none
      else none
      else none
      else none
      else none
    else
    if ((xs.2 (x4).toNatClampNeg) &&& (63 : Int32)) = 1 then
      if ab_gi (x4 + (1 : Int32)) xs.1 then
      ab_b2 (f_5_1 N (xs.2 ((x4 + (1 : Int32))).toNatClampNeg) P) fun v18 P17 =>
      if ab_gi (x4 + (1 : Int32)) xs.1 then
      ab_b2 (f_6 N (xs.2 ((x4 + (1 : Int32))).toNatClampNeg) P17) fun v21 P20 =>
      Option.bind (f_7 P20) fun v22 =>
      if v22 = v18 then
        if v18 = (0 : Int32) then
          if (lg_cmp (P20.2.1 570 0) (v21).toInt64) = (0 : Int32) then
            f_0_23 xs K N n (x4 + 8) P20
          else
          some ((0 : Int32), P20)
        else
        f_0_23 xs K N n (x4 + 8) P20
      else
      some ((0 : Int32), P20)
      else none
      else none
    else
    if ((xs.2 (x4).toNatClampNeg) &&& (63 : Int32)) = 2 then
      if ab_gi (x4 + (1 : Int32)) xs.1 then
      ab_b2 (f_8_1 K N (xs.2 ((x4 + (1 : Int32))).toNatClampNeg) P) fun v25 P24 =>
      if ab_gi (x4 + (1 : Int32)) xs.1 then
      ab_b2 (f_9 K N (xs.2 ((x4 + (1 : Int32))).toNatClampNeg) P24) fun v28 P27 =>
      Option.bind (f_7 P27) fun v29 =>
      if v29 = v25 then
        if v25 = (0 : Int32) then
          if (lg_cmp (P27.2.1 570 0) (v28).toInt64) = (0 : Int32) then
            f_0_23 xs K N n (x4 + 8) P27
          else
          some ((0 : Int32), P27)
        else
        f_0_23 xs K N n (x4 + 8) P27
      else
      some ((0 : Int32), P27)
      else none
      else none
    else
    if ((xs.2 (x4).toNatClampNeg) &&& (63 : Int32)) = 3 then
      if ab_gi (x4 + (1 : Int32)) xs.1 then
      ab_b2 (f_10_1 N (xs.2 ((x4 + (1 : Int32))).toNatClampNeg) P) fun v32 P31 =>
      if ab_gi (x4 + (1 : Int32)) xs.1 then
      ab_b2 (f_11 N (xs.2 ((x4 + (1 : Int32))).toNatClampNeg) P31) fun v35 P34 =>
      Option.bind (f_7 P34) fun v36 =>
      if v36 = v32 then
        if v32 = (0 : Int32) then
          if (lg_cmp (P34.2.1 570 0) (v35).toInt64) = (0 : Int32) then
            f_0_23 xs K N n (x4 + 8) P34
          else
          some ((0 : Int32), P34)
        else
        f_0_23 xs K N n (x4 + 8) P34
      else
      some ((0 : Int32), P34)
      else none
      else none
    else
    if ((xs.2 (x4).toNatClampNeg) &&& (63 : Int32)) = 4 then
      if ab_gi (x4 + (1 : Int32)) xs.1 then
      ab_b2 (f_12_1 N (xs.2 ((x4 + (1 : Int32))).toNatClampNeg) P) fun v39 P38 =>
      if ab_gi (x4 + (1 : Int32)) xs.1 then
      ab_b2 (f_13 N (xs.2 ((x4 + (1 : Int32))).toNatClampNeg) P38) fun v42 P41 =>
      Option.bind (f_7 P41) fun v43 =>
      if v43 = v39 then
        if v39 = (0 : Int32) then
          if (lg_cmp (P41.2.1 570 0) (v42).toInt64) = (0 : Int32) then
            f_0_23 xs K N n (x4 + 8) P41
          else
          some ((0 : Int32), P41)
        else
        f_0_23 xs K N n (x4 + 8) P41
      else
      some ((0 : Int32), P41)
      else none
      else none
    else
    if ((xs.2 (x4).toNatClampNeg) &&& (63 : Int32)) = 5 then
      Option.bind (f_14 P) fun v44 =>
      ab_b2 (f_15 P) fun v46 P45 =>
      if v44 = v46 then
        f_0_23 xs K N n (x4 + 8) P45
      else
      some ((0 : Int32), P45)
    else
    if ((xs.2 (x4).toNatClampNeg) &&& (63 : Int32)) = 6 then
      ab_b2 (f_16 P) fun v48 P47 =>
      ab_b2 (f_17 N P47) fun v50 P49 =>
      if v48 = v50 then
        f_0_23 xs K N n (x4 + 8) P49
      else
      some ((0 : Int32), P49)
    else
    if ((xs.2 (x4).toNatClampNeg) &&& (63 : Int32)) = 7 then
      if ab_gi (x4 + (1 : Int32)) xs.1 then
      ab_b2 (f_18_1 N (xs.2 ((x4 + (1 : Int32))).toNatClampNeg) P) fun v53 P52 =>
      if ab_gi (x4 + (1 : Int32)) xs.1 then
      ab_b2 (f_19 N (xs.2 ((x4 + (1 : Int32))).toNatClampNeg) P52) fun v56 P55 =>
      Option.bind (f_7 P55) fun v57 =>
      if v57 = v53 then
        if v53 = (0 : Int32) then
          if (lg_cmp (P55.2.1 570 0) (v56).toInt64) = (0 : Int32) then
            f_0_23 xs K N n (x4 + 8) P55
          else
          some ((0 : Int32), P55)
        else
        f_0_23 xs K N n (x4 + 8) P55
      else
      some ((0 : Int32), P55)
      else none
      else none
    else
    if ((xs.2 (x4).toNatClampNeg) &&& (63 : Int32)) = 8 then
      if ab_gi (x4 + (1 : Int32)) xs.1 then
      if ab_gi (x4 + (2 : Int32)) xs.1 then
      ab_b2 (f_20_1 (xs.2 ((x4 + (1 : Int32))).toNatClampNeg) (xs.2 ((x4 + (2 : Int32))).toNatClampNeg) P) fun v61 P60 =>
      if ab_gi (x4 + (1 : Int32)) xs.1 then
      if ab_gi (x4 + (2 : Int32)) xs.1 then
      ab_b2 (f_21 (xs.2 ((x4 + (1 : Int32))).toNatClampNeg) (xs.2 ((x4 + (2 : Int32))).toNatClampNeg) P60) fun v65 P64 =>
      Option.bind (f_7 P64) fun v66 =>
      if v66 = v61 then
        if v61 = (0 : Int32) then
          if (lg_cmp (P64.2.1 570 0) (v65).toInt64) = (0 : Int32) then
            f_0_23 xs K N n (x4 + 8) P64
          else
          some ((0 : Int32), P64)
        else
        f_0_23 xs K N n (x4 + 8) P64
      else
      some ((0 : Int32), P64)
      else none
      else none
      else none
      else none
    else
    if ((xs.2 (x4).toNatClampNeg) &&& (63 : Int32)) = 9 then
      if ab_gi (x4 + (1 : Int32)) xs.1 then
      if ab_gi (x4 + (2 : Int32)) xs.1 then
      ab_b2 (f_22_1 N (xs.2 ((x4 + (1 : Int32))).toNatClampNeg) (xs.2 ((x4 + (2 : Int32))).toNatClampNeg) P) fun v70 P69 =>
      if ab_gi (x4 + (1 : Int32)) xs.1 then
      if ab_gi (x4 + (2 : Int32)) xs.1 then
      ab_b2 (f_23 N (xs.2 ((x4 + (1 : Int32))).toNatClampNeg) (xs.2 ((x4 + (2 : Int32))).toNatClampNeg) P69) fun v74 P73 =>
      Option.bind (f_7 P73) fun v75 =>
      if v75 = v70 then
        if v70 = (0 : Int32) then
          if (lg_cmp (P73.2.1 570 0) (v74).toInt64) = (0 : Int32) then
            f_0_23 xs K N n (x4 + 8) P73
          else
          some ((0 : Int32), P73)
        else
        f_0_23 xs K N n (x4 + 8) P73
      else
      some ((0 : Int32), P73)
      else none
      else none
      else none
      else none
    else
    if ((xs.2 (x4).toNatClampNeg) &&& (63 : Int32)) = 10 then
      if ab_gi (x4 + (1 : Int32)) xs.1 then
      if ab_gi (x4 + (2 : Int32)) xs.1 then
      ab_b2 (f_24_1 N (xs.2 ((x4 + (1 : Int32))).toNatClampNeg) (xs.2 ((x4 + (2 : Int32))).toNatClampNeg) P) fun v79 P78 =>
      if ab_gi (x4 + (1 : Int32)) xs.1 then
      if ab_gi (x4 + (2 : Int32)) xs.1 then
      ab_b2 (f_25 N (xs.2 ((x4 + (1 : Int32))).toNatClampNeg) (xs.2 ((x4 + (2 : Int32))).toNatClampNeg) P78) fun v83 P82 =>
      Option.bind (f_7 P82) fun v84 =>
      if v84 = v79 then
        if v79 = (0 : Int32) then
          if (lg_cmp (P82.2.1 570 0) (v83).toInt64) = (0 : Int32) then
            f_0_23 xs K N n (x4 + 8) P82
          else
          some ((0 : Int32), P82)
        else
        f_0_23 xs K N n (x4 + 8) P82
      else
      some ((0 : Int32), P82)
      else none
      else none
      else none
      else none
    else
    if ((xs.2 (x4).toNatClampNeg) &&& (63 : Int32)) = 11 then
      if ab_gi (x4 + (1 : Int32)) xs.1 then
      ab_b2 (f_26_1 N (xs.2 ((x4 + (1 : Int32))).toNatClampNeg) P) fun v87 P86 =>
      if ab_gi (x4 + (1 : Int32)) xs.1 then
      ab_b2 (f_27 N (xs.2 ((x4 + (1 : Int32))).toNatClampNeg) P86) fun v90 P89 =>
      Option.bind (f_7 P89) fun v91 =>
      if v91 = v87 then
        if v87 = (0 : Int32) then
          if (lg_cmp (P89.2.1 570 0) (v90).toInt64) = (0 : Int32) then
            f_0_23 xs K N n (x4 + 8) P89
          else
          some ((0 : Int32), P89)
        else
        f_0_23 xs K N n (x4 + 8) P89
      else
      some ((0 : Int32), P89)
      else none
      else none
    else
    if ((xs.2 (x4).toNatClampNeg) &&& (63 : Int32)) = 12 then
      if ab_gi (x4 + (1 : Int32)) xs.1 then
      if ab_gi (x4 + (2 : Int32)) xs.1 then
      ab_b2 (f_28_1 N (xs.2 ((x4 + (1 : Int32))).toNatClampNeg) (xs.2 ((x4 + (2 : Int32))).toNatClampNeg) P) fun v95 P94 =>
      if ab_gi (x4 + (1 : Int32)) xs.1 then
      if ab_gi (x4 + (2 : Int32)) xs.1 then
      ab_b2 (f_29 N (xs.2 ((x4 + (1 : Int32))).toNatClampNeg) (xs.2 ((x4 + (2 : Int32))).toNatClampNeg) P94) fun v99 P98 =>
      Option.bind (f_7 P98) fun v100 =>
      if v100 = v95 then
        if v95 = (0 : Int32) then
          if (lg_cmp (P98.2.1 570 0) (v99).toInt64) = (0 : Int32) then
            f_0_23 xs K N n (x4 + 8) P98
          else
          some ((0 : Int32), P98)
        else
        f_0_23 xs K N n (x4 + 8) P98
      else
      some ((0 : Int32), P98)
      else none
      else none
      else none
      else none
    else
    if ((xs.2 (x4).toNatClampNeg) &&& (63 : Int32)) = 13 then
      if ab_gi (x4 + (1 : Int32)) xs.1 then
      ab_b2 (f_30_1 N (xs.2 ((x4 + (1 : Int32))).toNatClampNeg) P) fun v103 P102 =>
      if ab_gi (x4 + (1 : Int32)) xs.1 then
      ab_b2 (f_31 N (xs.2 ((x4 + (1 : Int32))).toNatClampNeg) P102) fun v106 P105 =>
      Option.bind (f_7 P105) fun v107 =>
      if v107 = v103 then
        if v103 = (0 : Int32) then
          if (lg_cmp (P105.2.1 570 0) (v106).toInt64) = (0 : Int32) then
            f_0_23 xs K N n (x4 + 8) P105
          else
          some ((0 : Int32), P105)
        else
        f_0_23 xs K N n (x4 + 8) P105
      else
      some ((0 : Int32), P105)
      else none
      else none
    else
    if ((xs.2 (x4).toNatClampNeg) &&& (63 : Int32)) = 14 then
      if ab_gi (x4 + (1 : Int32)) xs.1 then
      if ab_gi (x4 + (2 : Int32)) xs.1 then
      if ab_gi (x4 + (3 : Int32)) xs.1 then
      if ab_gi (x4 + (4 : Int32)) xs.1 then
      if ab_gi (x4 + (5 : Int32)) xs.1 then
      ab_b2 (f_32_1 N (xs.2 ((x4 + (1 : Int32))).toNatClampNeg) (xs.2 ((x4 + (2 : Int32))).toNatClampNeg) (xs.2 ((x4 + (3 : Int32))).toNatClampNeg) (xs.2 ((x4 + (4 : Int32))).toNatClampNeg) (xs.2 ((x4 + (5 : Int32))).toNatClampNeg) P) fun v114 P113 =>
      if ab_gi (x4 + (1 : Int32)) xs.1 then
      if ab_gi (x4 + (2 : Int32)) xs.1 then
      if ab_gi (x4 + (3 : Int32)) xs.1 then
      if ab_gi (x4 + (4 : Int32)) xs.1 then
      if ab_gi (x4 + (5 : Int32)) xs.1 then
      ab_b2 (f_33 N (xs.2 ((x4 + (1 : Int32))).toNatClampNeg) (xs.2 ((x4 + (2 : Int32))).toNatClampNeg) (xs.2 ((x4 + (3 : Int32))).toNatClampNeg) (xs.2 ((x4 + (4 : Int32))).toNatClampNeg) (xs.2 ((x4 + (5 : Int32))).toNatClampNeg) P113) fun v121 P120 =>
      Option.bind (f_7 P120) fun v122 =>
      if v122 = v114 then
        if v114 = (0 : Int32) then
          if (lg_cmp (P120.2.1 570 0) (v121).toInt64) = (0 : Int32) then
            f_0_23 xs K N n (x4 + 8) P120
          else
          some ((0 : Int32), P120)
        else
        f_0_23 xs K N n (x4 + 8) P120
      else
      some ((0 : Int32), P120)
      else none
      else none
      else none
      else none
      else none
      else none
      else none
      else none
      else none
      else none
    else
    if ((xs.2 (x4).toNatClampNeg) &&& (63 : Int32)) = 15 then
      ab_b2 (f_34 N P) fun v124 P123 =>
      ab_b2 (f_35 N P123) fun v126 P125 =>
      if (lg_cmp v124 v126) = (0 : Int32) then
        f_0_23 xs K N n (x4 + 8) P125
      else
      some ((0 : Int32), P125)
    else
    if ((xs.2 (x4).toNatClampNeg) &&& (63 : Int32)) = 16 then
      if ab_gi (x4 + (1 : Int32)) xs.1 then
      if ab_gi (x4 + (2 : Int32)) xs.1 then
      if ab_gi (x4 + (3 : Int32)) xs.1 then
      ab_b2 (f_36_1 N (xs.2 ((x4 + (1 : Int32))).toNatClampNeg) (xs.2 ((x4 + (2 : Int32))).toNatClampNeg) (xs.2 ((x4 + (3 : Int32))).toNatClampNeg) P) fun v131 P130 =>
      if ab_gi (x4 + (1 : Int32)) xs.1 then
      if ab_gi (x4 + (2 : Int32)) xs.1 then
      if ab_gi (x4 + (3 : Int32)) xs.1 then
      ab_b2 (f_37 N (xs.2 ((x4 + (1 : Int32))).toNatClampNeg) (xs.2 ((x4 + (2 : Int32))).toNatClampNeg) (xs.2 ((x4 + (3 : Int32))).toNatClampNeg) P130) fun v136 P135 =>
      Option.bind (f_7 P135) fun v137 =>
      if v137 = v131 then
        if v131 = (0 : Int32) then
          if (lg_cmp (P135.2.1 570 0) v136) = (0 : Int32) then
            f_0_23 xs K N n (x4 + 8) P135
          else
          some ((0 : Int32), P135)
        else
        f_0_23 xs K N n (x4 + 8) P135
      else
      some ((0 : Int32), P135)
      else none
      else none
      else none
      else none
      else none
      else none
    else
    if ((xs.2 (x4).toNatClampNeg) &&& (63 : Int32)) = 17 then
      if ab_gi (x4 + (1 : Int32)) xs.1 then
      if ab_gi (x4 + (2 : Int32)) xs.1 then
      ab_b2 (f_38_1 N (xs.2 ((x4 + (1 : Int32))).toNatClampNeg) (xs.2 ((x4 + (2 : Int32))).toNatClampNeg) P) fun v141 P140 =>
      if ab_gi (x4 + (1 : Int32)) xs.1 then
      if ab_gi (x4 + (2 : Int32)) xs.1 then
      ab_b2 (f_39 N (xs.2 ((x4 + (1 : Int32))).toNatClampNeg) (xs.2 ((x4 + (2 : Int32))).toNatClampNeg) P140) fun v145 P144 =>
      Option.bind (f_7 P144) fun v146 =>
      if v146 = v141 then
        if v141 = (0 : Int32) then
          if (lg_cmp (P144.2.1 570 0) (v145).toInt64) = (0 : Int32) then
            f_0_23 xs K N n (x4 + 8) P144
          else
          some ((0 : Int32), P144)
        else
        f_0_23 xs K N n (x4 + 8) P144
      else
      some ((0 : Int32), P144)
      else none
      else none
      else none
      else none
    else
    if ((xs.2 (x4).toNatClampNeg) &&& (63 : Int32)) = 18 then
      if ab_gi (x4 + (1 : Int32)) xs.1 then
      ab_b2 (f_40_1 N (xs.2 ((x4 + (1 : Int32))).toNatClampNeg) P) fun v149 P148 =>
      if ab_gi (x4 + (1 : Int32)) xs.1 then
      ab_b2 (f_41 N (xs.2 ((x4 + (1 : Int32))).toNatClampNeg) P148) fun v152 P151 =>
      Option.bind (f_7 P151) fun v153 =>
      if v153 = v149 then
        if v149 = (0 : Int32) then
          if (lg_cmp (P151.2.1 570 0) (v152).toInt64) = (0 : Int32) then
            f_0_23 xs K N n (x4 + 8) P151
          else
          some ((0 : Int32), P151)
        else
        f_0_23 xs K N n (x4 + 8) P151
      else
      some ((0 : Int32), P151)
      else none
      else none
    else
    if ((xs.2 (x4).toNatClampNeg) &&& (63 : Int32)) = 19 then
      if ab_gi (x4 + (1 : Int32)) xs.1 then
      ab_b2 (f_42_1 N (xs.2 ((x4 + (1 : Int32))).toNatClampNeg) P) fun v156 P155 =>
      if ab_gi (x4 + (1 : Int32)) xs.1 then
      ab_b2 (f_43 N (xs.2 ((x4 + (1 : Int32))).toNatClampNeg) P155) fun v159 P158 =>
      Option.bind (f_7 P158) fun v160 =>
      if v160 = v156 then
        if v156 = (0 : Int32) then
          if (lg_cmp (P158.2.1 570 0) (v159).toInt64) = (0 : Int32) then
            f_0_23 xs K N n (x4 + 8) P158
          else
          some ((0 : Int32), P158)
        else
        f_0_23 xs K N n (x4 + 8) P158
      else
      some ((0 : Int32), P158)
      else none
      else none
    else
    if ((xs.2 (x4).toNatClampNeg) &&& (63 : Int32)) = 20 then
      if ab_gi (x4 + (1 : Int32)) xs.1 then
      ab_b2 (f_44 N (xs.2 ((x4 + (1 : Int32))).toNatClampNeg) P) fun v163 P162 =>
      if ab_gi (x4 + (1 : Int32)) xs.1 then
      ab_b2 (f_45 N (xs.2 ((x4 + (1 : Int32))).toNatClampNeg) P162) fun v166 P165 =>
      if v163 = v166 then
        f_0_23 xs K N n (x4 + 8) P165
      else
      some ((0 : Int32), P165)
      else none
      else none
    else
    if ((xs.2 (x4).toNatClampNeg) &&& (63 : Int32)) = 21 then
      ab_b2 (f_46 N P) fun v168 P167 =>
      ab_b2 (f_47 N P167) fun v170 P169 =>
      if v168 = v170 then
        f_0_23 xs K N n (x4 + 8) P169
      else
      some ((0 : Int32), P169)
    else
    if ((xs.2 (x4).toNatClampNeg) &&& (63 : Int32)) = 22 then
      if ab_gi (x4 + (1 : Int32)) xs.1 then
      ab_b2 (f_48_1 N (xs.2 ((x4 + (1 : Int32))).toNatClampNeg) P) fun v173 P172 =>
      if ab_gi (x4 + (1 : Int32)) xs.1 then
      ab_b2 (f_49 N (xs.2 ((x4 + (1 : Int32))).toNatClampNeg) P172) fun v176 P175 =>
      Option.bind (f_7 P175) fun v177 =>
      if v177 = v173 then
        if v173 = (0 : Int32) then
          if (lg_cmp (P175.2.1 570 0) (v176).toInt64) = (0 : Int32) then
            f_0_23 xs K N n (x4 + 8) P175
          else
          some ((0 : Int32), P175)
        else
        f_0_23 xs K N n (x4 + 8) P175
      else
      some ((0 : Int32), P175)
      else none
      else none
    else
    if ((xs.2 (x4).toNatClampNeg) &&& (63 : Int32)) = 23 then
      if ab_gi (x4 + (1 : Int32)) xs.1 then
      ab_b2 (f_50_1 K N (xs.2 ((x4 + (1 : Int32))).toNatClampNeg) P) fun v180 P179 =>
      if ab_gi (x4 + (1 : Int32)) xs.1 then
      ab_b2 (f_51 N (xs.2 ((x4 + (1 : Int32))).toNatClampNeg) P179) fun v183 P182 =>
      Option.bind (f_7 P182) fun v184 =>
      if v184 = v180 then
        if v180 = (0 : Int32) then
          if (lg_cmp (P182.2.1 570 0) v183) = (0 : Int32) then
            f_0_23 xs K N n (x4 + 8) P182
          else
          some ((0 : Int32), P182)
        else
        f_0_23 xs K N n (x4 + 8) P182
      else
      some ((0 : Int32), P182)
      else none
      else none
    else
    if ((xs.2 (x4).toNatClampNeg) &&& (63 : Int32)) = 24 then
      Option.bind (f_52 N P) fun v185 =>
      ab_b2 (f_53 N P) fun v187 P186 =>
      if v185 = v187 then
        f_0_23 xs K N n (x4 + 8) P186
      else
      some ((0 : Int32), P186)
    else
    if ((xs.2 (x4).toNatClampNeg) &&& (63 : Int32)) = 25 then
      if ab_gi (x4 + (1 : Int32)) xs.1 then
      if ab_gi (x4 + (2 : Int32)) xs.1 then
      ab_b2 (f_54_1 N (xs.2 ((x4 + (1 : Int32))).toNatClampNeg) (xs.2 ((x4 + (2 : Int32))).toNatClampNeg) P) fun v191 P190 =>
      if ab_gi (x4 + (1 : Int32)) xs.1 then
      if ab_gi (x4 + (2 : Int32)) xs.1 then
      ab_b2 (f_55 N (xs.2 ((x4 + (1 : Int32))).toNatClampNeg) (xs.2 ((x4 + (2 : Int32))).toNatClampNeg) P190) fun v195 P194 =>
      Option.bind (f_7 P194) fun v196 =>
      if v196 = v191 then
        if v191 = (0 : Int32) then
          if (lg_cmp (P194.2.1 570 0) (v195).toInt64) = (0 : Int32) then
            f_0_23 xs K N n (x4 + 8) P194
          else
          some ((0 : Int32), P194)
        else
        f_0_23 xs K N n (x4 + 8) P194
      else
      some ((0 : Int32), P194)
      else none
      else none
      else none
      else none
    else
    if ((xs.2 (x4).toNatClampNeg) &&& (63 : Int32)) = 26 then
      ab_b2 (f_56 N P) fun v198 P197 =>
      ab_b2 (f_57 N P197) fun v200 P199 =>
      if v198 = v200 then
        f_0_23 xs K N n (x4 + 8) P199
      else
      some ((0 : Int32), P199)
    else
    if ((xs.2 (x4).toNatClampNeg) &&& (63 : Int32)) = 27 then
      if ab_gi (x4 + (1 : Int32)) xs.1 then
      ab_b2 (f_58_1 (xs.2 ((x4 + (1 : Int32))).toNatClampNeg) P) fun v203 P202 =>
      if ab_gi (x4 + (1 : Int32)) xs.1 then
      ab_b2 (f_59 (xs.2 ((x4 + (1 : Int32))).toNatClampNeg) P202) fun v206 P205 =>
      Option.bind (f_7 P205) fun v207 =>
      if v207 = v203 then
        if v203 = (0 : Int32) then
          if (lg_cmp (P205.2.1 570 0) (v206).toInt64) = (0 : Int32) then
            f_0_23 xs K N n (x4 + 8) P205
          else
          some ((0 : Int32), P205)
        else
        f_0_23 xs K N n (x4 + 8) P205
      else
      some ((0 : Int32), P205)
      else none
      else none
    else
    if ((xs.2 (x4).toNatClampNeg) &&& (63 : Int32)) = 28 then
      if ab_gi (x4 + (1 : Int32)) xs.1 then
      ab_b2 (f_60_1 N (xs.2 ((x4 + (1 : Int32))).toNatClampNeg) P) fun v210 P209 =>
      if ab_gi (x4 + (1 : Int32)) xs.1 then
      ab_b2 (f_61 N (xs.2 ((x4 + (1 : Int32))).toNatClampNeg) P209) fun v213 P212 =>
      Option.bind (f_7 P212) fun v214 =>
      if v214 = v210 then
        if v210 = (0 : Int32) then
          if (lg_cmp (P212.2.1 570 0) (v213).toInt64) = (0 : Int32) then
            f_0_23 xs K N n (x4 + 8) P212
          else
          some ((0 : Int32), P212)
        else
        f_0_23 xs K N n (x4 + 8) P212
      else
      some ((0 : Int32), P212)
      else none
      else none
    else
    if ((xs.2 (x4).toNatClampNeg) &&& (63 : Int32)) = 29 then
      if ab_gi (x4 + (1 : Int32)) xs.1 then
      Option.bind (f_62 N P (xs.2 ((x4 + (1 : Int32))).toNatClampNeg)) fun v216 =>
      if ab_gi (x4 + (1 : Int32)) xs.1 then
      ab_b2 (f_63 N (xs.2 ((x4 + (1 : Int32))).toNatClampNeg) P) fun v219 P218 =>
      if v216 = v219 then
        f_0_23 xs K N n (x4 + 8) P218
      else
      some ((0 : Int32), P218)
      else none
      else none
    else
    if ((xs.2 (x4).toNatClampNeg) &&& (63 : Int32)) = 30 then
      if ab_gi (x4 + (1 : Int32)) xs.1 then
      if ab_gi (x4 + (2 : Int32)) xs.1 then
      if ab_gi (x4 + (3 : Int32)) xs.1 then
      if ab_gi (x4 + (4 : Int32)) xs.1 then
      ab_b2 (f_64_1 (xs.2 ((x4 + (1 : Int32))).toNatClampNeg) (xs.2 ((x4 + (2 : Int32))).toNatClampNeg) (xs.2 ((x4 + (3 : Int32))).toNatClampNeg) (xs.2 ((x4 + (4 : Int32))).toNatClampNeg) P) fun v225 P224 =>
      if ab_gi (x4 + (1 : Int32)) xs.1 then
      if ab_gi (x4 + (2 : Int32)) xs.1 then
      if ab_gi (x4 + (3 : Int32)) xs.1 then
      if ab_gi (x4 + (4 : Int32)) xs.1 then
      ab_b2 (f_65 N (xs.2 ((x4 + (1 : Int32))).toNatClampNeg) (xs.2 ((x4 + (2 : Int32))).toNatClampNeg) (xs.2 ((x4 + (3 : Int32))).toNatClampNeg) (xs.2 ((x4 + (4 : Int32))).toNatClampNeg) P224) fun v231 P230 =>
      Option.bind (f_7 P230) fun v232 =>
      if v232 = v225 then
        if v225 = (0 : Int32) then
          if (lg_cmp (P230.2.1 570 0) (v231).toInt64) = (0 : Int32) then
            f_0_23 xs K N n (x4 + 8) P230
          else
          some ((0 : Int32), P230)
        else
        f_0_23 xs K N n (x4 + 8) P230
      else
      some ((0 : Int32), P230)
      else none
      else none
      else none
      else none
      else none
      else none
      else none
      else none
    else
    if ((xs.2 (x4).toNatClampNeg) &&& (63 : Int32)) = 31 then
      if ab_gi (x4 + (1 : Int32)) xs.1 then
      ab_b2 (f_66_1 N (xs.2 ((x4 + (1 : Int32))).toNatClampNeg) P) fun v235 P234 =>
      if ab_gi (x4 + (1 : Int32)) xs.1 then
      ab_b2 (f_67 N (xs.2 ((x4 + (1 : Int32))).toNatClampNeg) P234) fun v238 P237 =>
      Option.bind (f_7 P237) fun v239 =>
      if v239 = v235 then
        if v235 = (0 : Int32) then
          if (lg_cmp (P237.2.1 570 0) (v238).toInt64) = (0 : Int32) then
            f_0_23 xs K N n (x4 + 8) P237
          else
          some ((0 : Int32), P237)
        else
        f_0_23 xs K N n (x4 + 8) P237
      else
      some ((0 : Int32), P237)
      else none
      else none
    else
    if ((xs.2 (x4).toNatClampNeg) &&& (63 : Int32)) = 32 then
      if ab_gi (x4 + (1 : Int32)) xs.1 then
      ab_b2 (f_68_1 N (xs.2 ((x4 + (1 : Int32))).toNatClampNeg) P) fun v242 P241 =>
      if ab_gi (x4 + (1 : Int32)) xs.1 then
      ab_b2 (f_69 N (xs.2 ((x4 + (1 : Int32))).toNatClampNeg) P241) fun v245 P244 =>
      Option.bind (f_7 P244) fun v246 =>
      if v246 = v242 then
        if v242 = (0 : Int32) then
          if (lg_cmp (P244.2.1 570 0) (v245).toInt64) = (0 : Int32) then
            f_0_23 xs K N n (x4 + 8) P244
          else
          some ((0 : Int32), P244)
        else
        f_0_23 xs K N n (x4 + 8) P244
      else
      some ((0 : Int32), P244)
      else none
      else none
    else
    if ((xs.2 (x4).toNatClampNeg) &&& (63 : Int32)) = 33 then
      if ab_gi (x4 + (1 : Int32)) xs.1 then
      ab_b2 (f_70_1 N (xs.2 ((x4 + (1 : Int32))).toNatClampNeg) P) fun v249 P248 =>
      if ab_gi (x4 + (1 : Int32)) xs.1 then
      ab_b2 (f_71 N (xs.2 ((x4 + (1 : Int32))).toNatClampNeg) P248) fun v252 P251 =>
      Option.bind (f_7 P251) fun v253 =>
      if v253 = v249 then
        if v249 = (0 : Int32) then
          if (lg_cmp (P251.2.1 570 0) (v252).toInt64) = (0 : Int32) then
            f_0_23 xs K N n (x4 + 8) P251
          else
          some ((0 : Int32), P251)
        else
        f_0_23 xs K N n (x4 + 8) P251
      else
      some ((0 : Int32), P251)
      else none
      else none
    else
    if ((xs.2 (x4).toNatClampNeg) &&& (63 : Int32)) = 34 then
      if ab_gi (x4 + (1 : Int32)) xs.1 then
      if ab_gi (x4 + (2 : Int32)) xs.1 then
      ab_b2 (f_72_1 N (xs.2 ((x4 + (1 : Int32))).toNatClampNeg) (xs.2 ((x4 + (2 : Int32))).toNatClampNeg) P) fun v257 P256 =>
      if ab_gi (x4 + (1 : Int32)) xs.1 then
      if ab_gi (x4 + (2 : Int32)) xs.1 then
      ab_b2 (f_73 N (xs.2 ((x4 + (1 : Int32))).toNatClampNeg) (xs.2 ((x4 + (2 : Int32))).toNatClampNeg) P256) fun v261 P260 =>
      Option.bind (f_7 P260) fun v262 =>
      if v262 = v257 then
        if v257 = (0 : Int32) then
          if (lg_cmp (P260.2.1 570 0) (v261).toInt64) = (0 : Int32) then
            f_0_23 xs K N n (x4 + 8) P260
          else
          some ((0 : Int32), P260)
        else
        f_0_23 xs K N n (x4 + 8) P260
      else
      some ((0 : Int32), P260)
      else none
      else none
      else none
      else none
    else
    if ((xs.2 (x4).toNatClampNeg) &&& (63 : Int32)) = 35 then
      if ab_gi (x4 + (1 : Int32)) xs.1 then
      if ab_gi (x4 + (2 : Int32)) xs.1 then
      ab_b2 (f_74_1 N (xs.2 ((x4 + (1 : Int32))).toNatClampNeg) (xs.2 ((x4 + (2 : Int32))).toNatClampNeg) P) fun v266 P265 =>
      if ab_gi (x4 + (1 : Int32)) xs.1 then
      if ab_gi (x4 + (2 : Int32)) xs.1 then
      ab_b2 (f_75 N (xs.2 ((x4 + (1 : Int32))).toNatClampNeg) (xs.2 ((x4 + (2 : Int32))).toNatClampNeg) P265) fun v270 P269 =>
      Option.bind (f_7 P269) fun v271 =>
      if v271 = v266 then
        if v266 = (0 : Int32) then
          if (lg_cmp (P269.2.1 570 0) (v270).toInt64) = (0 : Int32) then
            f_0_23 xs K N n (x4 + 8) P269
          else
          some ((0 : Int32), P269)
        else
        f_0_23 xs K N n (x4 + 8) P269
      else
      some ((0 : Int32), P269)
      else none
      else none
      else none
      else none
    else
    if ((xs.2 (x4).toNatClampNeg) &&& (63 : Int32)) = 36 then
      if ab_gi (x4 + (1 : Int32)) xs.1 then
      if ab_gi (x4 + (2 : Int32)) xs.1 then
      ab_b2 (f_76_1 N (xs.2 ((x4 + (1 : Int32))).toNatClampNeg) (xs.2 ((x4 + (2 : Int32))).toNatClampNeg) P) fun v275 P274 =>
      if ab_gi (x4 + (1 : Int32)) xs.1 then
      if ab_gi (x4 + (2 : Int32)) xs.1 then
      ab_b2 (f_77 N (xs.2 ((x4 + (1 : Int32))).toNatClampNeg) (xs.2 ((x4 + (2 : Int32))).toNatClampNeg) P274) fun v279 P278 =>
      Option.bind (f_7 P278) fun v280 =>
      if v280 = v275 then
        if v275 = (0 : Int32) then
          if (lg_cmp (P278.2.1 570 0) (v279).toInt64) = (0 : Int32) then
            f_0_23 xs K N n (x4 + 8) P278
          else
          some ((0 : Int32), P278)
        else
        f_0_23 xs K N n (x4 + 8) P278
      else
      some ((0 : Int32), P278)
      else none
      else none
      else none
      else none
    else
    if ((xs.2 (x4).toNatClampNeg) &&& (63 : Int32)) = 37 then
      Option.bind (f_78 N P) fun v281 =>
      ab_b2 (f_79 N P) fun v283 P282 =>
      if v281 = v283 then
        f_0_23 xs K N n (x4 + 8) P282
      else
      some ((0 : Int32), P282)
    else
    if ((xs.2 (x4).toNatClampNeg) &&& (63 : Int32)) = 38 then
      if ab_gi (x4 + (1 : Int32)) xs.1 then
      ab_b2 (f_80_1 N (xs.2 ((x4 + (1 : Int32))).toNatClampNeg) P) fun v286 P285 =>
      if ab_gi (x4 + (1 : Int32)) xs.1 then
      ab_b2 (f_81 N (xs.2 ((x4 + (1 : Int32))).toNatClampNeg) P285) fun v289 P288 =>
      Option.bind (f_7 P288) fun v290 =>
      if v290 = v286 then
        if v286 = (0 : Int32) then
          if (lg_cmp (P288.2.1 570 0) v289) = (0 : Int32) then
            f_0_23 xs K N n (x4 + 8) P288
          else
          some ((0 : Int32), P288)
        else
        f_0_23 xs K N n (x4 + 8) P288
      else
      some ((0 : Int32), P288)
      else none
      else none
    else
    if ((xs.2 (x4).toNatClampNeg) &&& (63 : Int32)) = 39 then
      if ab_gi (x4 + (1 : Int32)) xs.1 then
      ab_b2 (f_82_1 N (xs.2 ((x4 + (1 : Int32))).toNatClampNeg) P) fun v293 P292 =>
      if ab_gi (x4 + (1 : Int32)) xs.1 then
      ab_b2 (f_83 N (xs.2 ((x4 + (1 : Int32))).toNatClampNeg) P292) fun v296 P295 =>
      Option.bind (f_7 P295) fun v297 =>
      if v297 = v293 then
        if v293 = (0 : Int32) then
          if (lg_cmp (P295.2.1 570 0) (v296).toInt64) = (0 : Int32) then
            f_0_23 xs K N n (x4 + 8) P295
          else
          some ((0 : Int32), P295)
        else
        f_0_23 xs K N n (x4 + 8) P295
      else
      some ((0 : Int32), P295)
      else none
      else none
    else
    if ((xs.2 (x4).toNatClampNeg) &&& (63 : Int32)) = 40 then
      if ab_gi (x4 + (1 : Int32)) xs.1 then
      if ab_gi (x4 + (2 : Int32)) xs.1 then
      if ab_gi (x4 + (3 : Int32)) xs.1 then
      if ab_gi (x4 + (4 : Int32)) xs.1 then
      if ab_gi (x4 + (5 : Int32)) xs.1 then
      ab_b2 (f_84_1 N (xs.2 ((x4 + (1 : Int32))).toNatClampNeg) (xs.2 ((x4 + (2 : Int32))).toNatClampNeg) (xs.2 ((x4 + (3 : Int32))).toNatClampNeg) (xs.2 ((x4 + (4 : Int32))).toNatClampNeg) (xs.2 ((x4 + (5 : Int32))).toNatClampNeg) P) fun v304 P303 =>
      if ab_gi (x4 + (1 : Int32)) xs.1 then
      if ab_gi (x4 + (2 : Int32)) xs.1 then
      if ab_gi (x4 + (3 : Int32)) xs.1 then
      if ab_gi (x4 + (4 : Int32)) xs.1 then
      if ab_gi (x4 + (5 : Int32)) xs.1 then
      ab_b2 (f_85 N (xs.2 ((x4 + (1 : Int32))).toNatClampNeg) (xs.2 ((x4 + (2 : Int32))).toNatClampNeg) (xs.2 ((x4 + (3 : Int32))).toNatClampNeg) (xs.2 ((x4 + (4 : Int32))).toNatClampNeg) (xs.2 ((x4 + (5 : Int32))).toNatClampNeg) P303) fun v311 P310 =>
      Option.bind (f_7 P310) fun v312 =>
      if v312 = v304 then
        if v304 = (0 : Int32) then
          if (lg_cmp (P310.2.1 570 0) (v311).toInt64) = (0 : Int32) then
            f_0_23 xs K N n (x4 + 8) P310
          else
          some ((0 : Int32), P310)
        else
        f_0_23 xs K N n (x4 + 8) P310
      else
      some ((0 : Int32), P310)
      else none
      else none
      else none
      else none
      else none
      else none
      else none
      else none
      else none
      else none
    else
    if ((xs.2 (x4).toNatClampNeg) &&& (63 : Int32)) = 41 then
      if ab_gi (x4 + (1 : Int32)) xs.1 then
      if ab_gi (x4 + (2 : Int32)) xs.1 then
      if ab_gi (x4 + (3 : Int32)) xs.1 then
      if ab_gi (x4 + (4 : Int32)) xs.1 then
      if ab_gi (x4 + (5 : Int32)) xs.1 then
      if ab_gi (x4 + (6 : Int32)) xs.1 then
      if ab_gi (x4 + (7 : Int32)) xs.1 then
      ab_b2 (f_86_1 N (xs.2 ((x4 + (1 : Int32))).toNatClampNeg) (xs.2 ((x4 + (2 : Int32))).toNatClampNeg) (xs.2 ((x4 + (3 : Int32))).toNatClampNeg) (xs.2 ((x4 + (4 : Int32))).toNatClampNeg) (xs.2 ((x4 + (5 : Int32))).toNatClampNeg) (xs.2 ((x4 + (6 : Int32))).toNatClampNeg) (xs.2 ((x4 + (7 : Int32))).toNatClampNeg) P) fun v321 P320 =>
      if ab_gi (x4 + (1 : Int32)) xs.1 then
      if ab_gi (x4 + (2 : Int32)) xs.1 then
      if ab_gi (x4 + (3 : Int32)) xs.1 then
      if ab_gi (x4 + (4 : Int32)) xs.1 then
      if ab_gi (x4 + (5 : Int32)) xs.1 then
      if ab_gi (x4 + (6 : Int32)) xs.1 then
      if ab_gi (x4 + (7 : Int32)) xs.1 then
      ab_b2 (f_87 N (xs.2 ((x4 + (1 : Int32))).toNatClampNeg) (xs.2 ((x4 + (2 : Int32))).toNatClampNeg) (xs.2 ((x4 + (3 : Int32))).toNatClampNeg) (xs.2 ((x4 + (4 : Int32))).toNatClampNeg) (xs.2 ((x4 + (5 : Int32))).toNatClampNeg) (xs.2 ((x4 + (6 : Int32))).toNatClampNeg) (xs.2 ((x4 + (7 : Int32))).toNatClampNeg) P320) fun v330 P329 =>
      Option.bind (f_7 P329) fun v331 =>
      if v331 = v321 then
        if v321 = (0 : Int32) then
          if (lg_cmp (P329.2.1 570 0) (v330).toInt64) = (0 : Int32) then
            f_0_23 xs K N n (x4 + 8) P329
          else
          some ((0 : Int32), P329)
        else
        f_0_23 xs K N n (x4 + 8) P329
      else
      some ((0 : Int32), P329)
      else none
      else none
      else none
      else none
      else none
      else none
      else none
      else none
      else none
      else none
      else none
      else none
      else none
      else none
    else
    if ((xs.2 (x4).toNatClampNeg) &&& (63 : Int32)) = 42 then
      ab_b2 (f_88 N P) fun v333 P332 =>
      ab_b2 (f_89 N P332) fun v335 P334 =>
      if v333 = v335 then
        f_0_23 xs K N n (x4 + 8) P334
      else
      some ((0 : Int32), P334)
    else
    if ((xs.2 (x4).toNatClampNeg) &&& (63 : Int32)) = 43 then
      ab_b2 (f_90 N P) fun v337 P336 =>
      ab_b2 (f_91 N P336) fun v339 P338 =>
      if v337 = v339 then
        f_0_23 xs K N n (x4 + 8) P338
      else
      some ((0 : Int32), P338)
    else
    if ((xs.2 (x4).toNatClampNeg) &&& (63 : Int32)) = 44 then
      if ab_gi (x4 + (1 : Int32)) xs.1 then
      Option.bind (f_92 P (xs.2 ((x4 + (1 : Int32))).toNatClampNeg)) fun v341 =>
      if ab_gi (x4 + (1 : Int32)) xs.1 then
      ab_b2 (f_93 (xs.2 ((x4 + (1 : Int32))).toNatClampNeg) P) fun v344 P343 =>
      if v341 = v344 then
        f_0_23 xs K N n (x4 + 8) P343
      else
      some ((0 : Int32), P343)
      else none
      else none
    else
    if ((xs.2 (x4).toNatClampNeg) &&& (63 : Int32)) = 45 then
      if ab_gi (x4 + (1 : Int32)) xs.1 then
      Option.bind (f_94 P (xs.2 ((x4 + (1 : Int32))).toNatClampNeg)) fun v346 =>
      if ab_gi (x4 + (1 : Int32)) xs.1 then
      ab_b2 (f_95 (xs.2 ((x4 + (1 : Int32))).toNatClampNeg) P) fun v349 P348 =>
      if v346 = v349 then
        f_0_23 xs K N n (x4 + 8) P348
      else
      some ((0 : Int32), P348)
      else none
      else none
    else
    f_0_23 xs K N n (x4 + 8) P
    else none
theorem t_0_23 (xs : Nat × (Nat → Int32)) {d : Nat} (K : Nat) (N : Nat) (hd : 3 * K ≤ d) : ∀ n : Nat, ∀ (x4 : Int32) (d5 : ab_V) (d6 : ab_V) (P : ab_P), ab_tr xs wI (d + 10) 0 23 [] [.inr (31, xs.1, 0, 0), .inr (11, 0, 0, 0), .inr (12, 0, 0, 72), .inr (22, 1, 0, 570), .inl (.int x4), d5, d6, ab_top] [] P (f_0_23 xs K N n x4 P) := by
  intro n
  induction n with
  | zero => intro x4 d5 d6 P; exact tr_no
  | succ n ih =>
    intro x4 d5 d6 P
    refine tr_nil (rows2 := kb_0_23) rfl (List.cons_ne_nil _ _) ?_
    refine tr_blk 5 (pc' := 30) (rows' := kb_0_23.drop 5) (loc' := [.inr (31, xs.1, 0, 0), .inr (11, 0, 0, 0), .inr (12, 0, 0, 72), .inr (22, 1, 0, 570), .inl (.int x4), d5, d6, ab_top]) (st' := [.inl (.int ((Int32.ofNat xs.1) - (8 : Int32))), .inl (.int x4)]) (P1 := P) rfl ⟨trivial, trivial, (Or.inr (Or.inl ⟨rfl, rfl, rfl⟩)), trivial, trivial, trivial⟩ ?_
    refine tr_if (fun h350 => ?_) (fun h350 => ?_)
    · refine tr_icT (cd := .gt) h350 ?_
      refine tr_nil (rows2 := kb_0_2666) rfl (List.cons_ne_nil _ _) ?_
      refine tr_blk 1 (pc' := 2667) (rows' := kb_0_2666.drop 1) (loc' := [.inr (31, xs.1, 0, 0), .inr (11, 0, 0, 0), .inr (12, 0, 0, 72), .inr (22, 1, 0, 570), .inl (.int x4), d5, d6, ab_top]) (st' := [.inl (.int (1 : Int32))]) (P1 := P) rfl ⟨trivial, trivial⟩ ?_
      exact tr_reI (z := km_0) rfl ⟨_, rfl, rfl⟩ rfl
    · refine tr_icF (cd := .gt) h350 ?_
      refine tr_gd (fun h1 => ?_)
      refine tr_blk 5 (pc' := 40) (rows' := kb_0_23.drop 11) (loc' := [.inr (31, xs.1, 0, 0), .inr (11, 0, 0, 0), .inr (12, 0, 0, 72), .inr (22, 1, 0, 570), .inl (.int x4), d5, d6, ab_top]) (st' := [.inl (.int ((xs.2 (x4).toNatClampNeg) &&& (63 : Int32)))]) (P1 := P) rfl ⟨trivial, trivial, ⟨h1, rfl⟩, trivial, trivial, trivial⟩ ?_
      refine tr_if (fun h351 => ?_) (fun h351 => ?_)
      · refine tr_sw (t := 240) (by rw [h351]; rfl) ?_
        refine tr_nil (rows2 := kb_0_240) rfl (List.cons_ne_nil _ _) ?_
        refine tr_gd (fun h2 => ?_)
        refine tr_gd (fun h3 => ?_)
        refine tr_gd (fun h4 => ?_)
        refine tr_gd (fun h5 => ?_)
        refine tr_gd (fun h6 => ?_)
        refine tr_blk 26 (pc' := 271) (rows' := kb_0_240.drop 26) (loc' := [.inr (31, xs.1, 0, 0), .inr (11, 0, 0, 0), .inr (12, 0, 0, 72), .inr (22, 1, 0, 570), .inl (.int x4), d5, d6, ab_top]) (st' := [.inl (.int (xs.2 ((x4 + (5 : Int32))).toNatClampNeg)), .inl (.int (xs.2 ((x4 + (4 : Int32))).toNatClampNeg)), .inl (.int (xs.2 ((x4 + (3 : Int32))).toNatClampNeg)), .inl (.int (xs.2 ((x4 + (2 : Int32))).toNatClampNeg)), .inl (.int (xs.2 ((x4 + (1 : Int32))).toNatClampNeg)), .inr (11, 0, 0, 0)]) (P1 := P) rfl ⟨trivial, trivial, trivial, trivial, trivial, ⟨h2, rfl⟩, trivial, trivial, trivial, trivial, ⟨h3, rfl⟩, trivial, trivial, trivial, trivial, ⟨h4, rfl⟩, trivial, trivial, trivial, trivial, ⟨h5, rfl⟩, trivial, trivial, trivial, trivial, ⟨h6, rfl⟩, trivial⟩ ?_
        refine tr_cWI (z := km_3) (av := [.inr (11, 0, 0, 0), .inl (.int (xs.2 ((x4 + (1 : Int32))).toNatClampNeg)), .inl (.int (xs.2 ((x4 + (2 : Int32))).toNatClampNeg)), .inl (.int (xs.2 ((x4 + (3 : Int32))).toNatClampNeg)), .inl (.int (xs.2 ((x4 + (4 : Int32))).toNatClampNeg)), .inl (.int (xs.2 ((x4 + (5 : Int32))).toNatClampNeg))]) (st' := []) rfl rfl rfl (Nat.le_of_ble_eq_true rfl) ⟨rfl, Or.inl (by decide)⟩ rfl (Nat.le_of_ble_eq_true rfl) (t_3 N (xs.2 ((x4 + (1 : Int32))).toNatClampNeg) (xs.2 ((x4 + (2 : Int32))).toNatClampNeg) (xs.2 ((x4 + (3 : Int32))).toNatClampNeg) (xs.2 ((x4 + (4 : Int32))).toNatClampNeg) (xs.2 ((x4 + (5 : Int32))).toNatClampNeg) P) (fun v8 P7 => ?_)
        refine tr_gd (fun h9 => ?_)
        refine tr_gd (fun h10 => ?_)
        refine tr_gd (fun h11 => ?_)
        refine tr_gd (fun h12 => ?_)
        refine tr_gd (fun h13 => ?_)
        refine tr_blk 26 (pc' := 305) (rows' := kb_0_240.drop 53) (loc' := [.inr (31, xs.1, 0, 0), .inr (11, 0, 0, 0), .inr (12, 0, 0, 72), .inr (22, 1, 0, 570), .inl (.int x4), d5, d6, ab_top]) (st' := [.inl (.int (xs.2 ((x4 + (5 : Int32))).toNatClampNeg)), .inl (.int (xs.2 ((x4 + (4 : Int32))).toNatClampNeg)), .inl (.int (xs.2 ((x4 + (3 : Int32))).toNatClampNeg)), .inl (.int (xs.2 ((x4 + (2 : Int32))).toNatClampNeg)), .inl (.int (xs.2 ((x4 + (1 : Int32))).toNatClampNeg)), .inr (12, 0, 0, 72), .inl (.int v8)]) (P1 := P7) rfl ⟨trivial, trivial, trivial, trivial, trivial, ⟨h9, rfl⟩, trivial, trivial, trivial, trivial, ⟨h10, rfl⟩, trivial, trivial, trivial, trivial, ⟨h11, rfl⟩, trivial, trivial, trivial, trivial, ⟨h12, rfl⟩, trivial, trivial, trivial, trivial, ⟨h13, rfl⟩, trivial⟩ ?_
        refine tr_cWI (z := km_4) (av := [.inr (12, 0, 0, 72), .inl (.int (xs.2 ((x4 + (1 : Int32))).toNatClampNeg)), .inl (.int (xs.2 ((x4 + (2 : Int32))).toNatClampNeg)), .inl (.int (xs.2 ((x4 + (3 : Int32))).toNatClampNeg)), .inl (.int (xs.2 ((x4 + (4 : Int32))).toNatClampNeg)), .inl (.int (xs.2 ((x4 + (5 : Int32))).toNatClampNeg))]) (st' := [.inl (.int v8)]) rfl rfl rfl (Nat.le_of_ble_eq_true rfl) ⟨rfl, Or.inl (by decide)⟩ rfl (Nat.le_of_ble_eq_true rfl) (t_4 N (xs.2 ((x4 + (1 : Int32))).toNatClampNeg) (xs.2 ((x4 + (2 : Int32))).toNatClampNeg) (xs.2 ((x4 + (3 : Int32))).toNatClampNeg) (xs.2 ((x4 + (4 : Int32))).toNatClampNeg) (xs.2 ((x4 + (5 : Int32))).toNatClampNeg) P7) (fun v15 P14 => ?_)
        refine tr_if (fun h352 => ?_) (fun h352 => ?_)
        · refine tr_icT (cd := .eq) h352 ?_
          refine tr_nil (rows2 := kb_0_2660) rfl (List.cons_ne_nil _ _) ?_
          refine tr_blk 1 (pc' := 2663) (rows' := kb_0_2660.drop 1) (loc' := [.inr (31, xs.1, 0, 0), .inr (11, 0, 0, 0), .inr (12, 0, 0, 72), .inr (22, 1, 0, 570), .inl (.int (x4 + 8)), d5, d6, ab_top]) (st' := []) (P1 := P14) rfl ⟨trivial, trivial⟩ ?_
          refine tr_goto ?_
          exact ih (x4 + 8) (d5) (d6) P14
        · refine tr_icF (cd := .eq) h352 ?_
          refine tr_blk 1 (pc' := 312) (rows' := kb_0_240.drop 56) (loc' := [.inr (31, xs.1, 0, 0), .inr (11, 0, 0, 0), .inr (12, 0, 0, 72), .inr (22, 1, 0, 570), .inl (.int x4), d5, d6, ab_top]) (st' := [.inl (.int (0 : Int32))]) (P1 := P14) rfl ⟨trivial, trivial⟩ ?_
          exact tr_reI (z := km_0) rfl ⟨_, rfl, rfl⟩ rfl
      refine tr_if (fun h353 => ?_) (fun h353 => ?_)
      · refine tr_sw (t := 313) (by rw [h353]; rfl) ?_
        refine tr_nil (rows2 := kb_0_313) rfl (List.cons_ne_nil _ _) ?_
        refine tr_gd (fun h16 => ?_)
        refine tr_blk 7 (pc' := 321) (rows' := kb_0_313.drop 7) (loc' := [.inr (31, xs.1, 0, 0), .inr (11, 0, 0, 0), .inr (12, 0, 0, 72), .inr (22, 1, 0, 570), .inl (.int x4), d5, d6, ab_top]) (st' := [.inr (22, 1, 0, 570), .inl (.int (xs.2 ((x4 + (1 : Int32))).toNatClampNeg)), .inr (11, 0, 0, 0)]) (P1 := P) rfl ⟨trivial, trivial, trivial, trivial, trivial, ⟨h16, rfl⟩, trivial, trivial⟩ ?_
        refine tr_cWI (z := km_5) (av := [.inr (11, 0, 0, 0), .inl (.int (xs.2 ((x4 + (1 : Int32))).toNatClampNeg)), .inr (22, 1, 0, 570)]) (st' := []) rfl rfl rfl (Nat.le_of_ble_eq_true rfl) trivial rfl (Nat.le_of_ble_eq_true rfl) (t_5_1 N (xs.2 ((x4 + (1 : Int32))).toNatClampNeg) P) (fun v18 P17 => ?_)
        refine tr_gd (fun h19 => ?_)
        refine tr_blk 7 (pc' := 333) (rows' := kb_0_313.drop 15) (loc' := [.inr (31, xs.1, 0, 0), .inr (11, 0, 0, 0), .inr (12, 0, 0, 72), .inr (22, 1, 0, 570), .inl (.int x4), .inl (.int v18), d6, ab_top]) (st' := [.inl (.int (xs.2 ((x4 + (1 : Int32))).toNatClampNeg)), .inr (12, 0, 0, 72)]) (P1 := P17) rfl ⟨trivial, trivial, trivial, trivial, trivial, trivial, ⟨h19, rfl⟩, trivial⟩ ?_
        refine tr_cWI (z := km_6) (av := [.inr (12, 0, 0, 72), .inl (.int (xs.2 ((x4 + (1 : Int32))).toNatClampNeg))]) (st' := []) rfl rfl rfl (Nat.le_of_ble_eq_true rfl) ⟨rfl, Or.inl (by decide)⟩ rfl (Nat.le_of_ble_eq_true rfl) (t_6 N (xs.2 ((x4 + (1 : Int32))).toNatClampNeg) P17) (fun v21 P20 => ?_)
        refine tr_blk 2 (pc' := 339) (rows' := kb_0_313.drop 18) (loc' := [.inr (31, xs.1, 0, 0), .inr (11, 0, 0, 0), .inr (12, 0, 0, 72), .inr (22, 1, 0, 570), .inl (.int x4), .inl (.int v18), .inl (.int v21), ab_top]) (st' := [.inr (12, 0, 0, 72)]) (P1 := P20) rfl ⟨trivial, trivial, trivial⟩ ?_
        refine tr_cRI (z := km_7) (av := [.inr (12, 0, 0, 72)]) (st' := []) rfl rfl rfl (Nat.le_of_ble_eq_true rfl) ⟨rfl, Or.inl (by decide)⟩ rfl (Nat.le_of_ble_eq_true rfl) (t_7 P20) (fun v22 => ?_)
        refine tr_blk 1 (pc' := 344) (rows' := kb_0_313.drop 20) (loc' := [.inr (31, xs.1, 0, 0), .inr (11, 0, 0, 0), .inr (12, 0, 0, 72), .inr (22, 1, 0, 570), .inl (.int x4), .inl (.int v18), .inl (.int v21), ab_top]) (st' := [.inl (.int v18), .inl (.int v22)]) (P1 := P20) rfl ⟨trivial, trivial⟩ ?_
        refine tr_if (fun h354 => ?_) (fun h354 => ?_)
        · refine tr_icT (cd := .eq) h354 ?_
          refine tr_nil (rows2 := kb_0_349) rfl (List.cons_ne_nil _ _) ?_
          refine tr_blk 1 (pc' := 351) (rows' := kb_0_349.drop 1) (loc' := [.inr (31, xs.1, 0, 0), .inr (11, 0, 0, 0), .inr (12, 0, 0, 72), .inr (22, 1, 0, 570), .inl (.int x4), .inl (.int v18), .inl (.int v21), ab_top]) (st' := [.inl (.int v18)]) (P1 := P20) rfl ⟨trivial, trivial⟩ ?_
          refine tr_if (fun h355 => ?_) (fun h355 => ?_)
          · refine tr_ifF (cd := .ne) (fun q => q h355) ?_
            refine tr_blk 6 (pc' := 361) (rows' := kb_0_349.drop 8) (loc' := [.inr (31, xs.1, 0, 0), .inr (11, 0, 0, 0), .inr (12, 0, 0, 72), .inr (22, 1, 0, 570), .inl (.int x4), .inl (.int v18), .inl (.int v21), ab_top]) (st' := [.inl (.int (lg_cmp (P20.2.1 570 0) (v21).toInt64))]) (P1 := P20) rfl ⟨trivial, trivial, (ab_vi (by decide)), trivial, trivial, trivial, trivial⟩ ?_
            refine tr_if (fun h356 => ?_) (fun h356 => ?_)
            · refine tr_ifT (cd := .eq) h356 ?_
              refine tr_nil (rows2 := kb_0_366) rfl (List.cons_ne_nil _ _) ?_
              refine tr_goto ?_
              refine tr_nil (rows2 := kb_0_2660) rfl (List.cons_ne_nil _ _) ?_
              refine tr_blk 1 (pc' := 2663) (rows' := kb_0_2660.drop 1) (loc' := [.inr (31, xs.1, 0, 0), .inr (11, 0, 0, 0), .inr (12, 0, 0, 72), .inr (22, 1, 0, 570), .inl (.int (x4 + 8)), .inl (.int v18), .inl (.int v21), ab_top]) (st' := []) (P1 := P20) rfl ⟨trivial, trivial⟩ ?_
              refine tr_goto ?_
              exact ih (x4 + 8) (.inl (.int v18)) (.inl (.int v21)) P20
            · refine tr_ifF (cd := .eq) h356 ?_
              refine tr_blk 1 (pc' := 365) (rows' := kb_0_349.drop 10) (loc' := [.inr (31, xs.1, 0, 0), .inr (11, 0, 0, 0), .inr (12, 0, 0, 72), .inr (22, 1, 0, 570), .inl (.int x4), .inl (.int v18), .inl (.int v21), ab_top]) (st' := [.inl (.int (0 : Int32))]) (P1 := P20) rfl ⟨trivial, trivial⟩ ?_
              exact tr_reI (z := km_0) rfl ⟨_, rfl, rfl⟩ rfl
          · refine tr_ifT (cd := .ne) h355 ?_
            refine tr_nil (rows2 := kb_0_366) rfl (List.cons_ne_nil _ _) ?_
            refine tr_goto ?_
            refine tr_nil (rows2 := kb_0_2660) rfl (List.cons_ne_nil _ _) ?_
            refine tr_blk 1 (pc' := 2663) (rows' := kb_0_2660.drop 1) (loc' := [.inr (31, xs.1, 0, 0), .inr (11, 0, 0, 0), .inr (12, 0, 0, 72), .inr (22, 1, 0, 570), .inl (.int (x4 + 8)), .inl (.int v18), .inl (.int v21), ab_top]) (st' := []) (P1 := P20) rfl ⟨trivial, trivial⟩ ?_
            refine tr_goto ?_
            exact ih (x4 + 8) (.inl (.int v18)) (.inl (.int v21)) P20
        · refine tr_icF (cd := .eq) h354 ?_
          refine tr_blk 1 (pc' := 348) (rows' := kb_0_313.drop 22) (loc' := [.inr (31, xs.1, 0, 0), .inr (11, 0, 0, 0), .inr (12, 0, 0, 72), .inr (22, 1, 0, 570), .inl (.int x4), .inl (.int v18), .inl (.int v21), ab_top]) (st' := [.inl (.int (0 : Int32))]) (P1 := P20) rfl ⟨trivial, trivial⟩ ?_
          exact tr_reI (z := km_0) rfl ⟨_, rfl, rfl⟩ rfl
      refine tr_if (fun h357 => ?_) (fun h357 => ?_)
      · refine tr_sw (t := 369) (by rw [h357]; rfl) ?_
        refine tr_nil (rows2 := kb_0_369) rfl (List.cons_ne_nil _ _) ?_
        refine tr_gd (fun h23 => ?_)
        refine tr_blk 7 (pc' := 377) (rows' := kb_0_369.drop 7) (loc' := [.inr (31, xs.1, 0, 0), .inr (11, 0, 0, 0), .inr (12, 0, 0, 72), .inr (22, 1, 0, 570), .inl (.int x4), d5, d6, ab_top]) (st' := [.inr (22, 1, 0, 570), .inl (.int (xs.2 ((x4 + (1 : Int32))).toNatClampNeg)), .inr (11, 0, 0, 0)]) (P1 := P) rfl ⟨trivial, trivial, trivial, trivial, trivial, ⟨h23, rfl⟩, trivial, trivial⟩ ?_
        refine tr_cWI (z := km_8) (av := [.inr (11, 0, 0, 0), .inl (.int (xs.2 ((x4 + (1 : Int32))).toNatClampNeg)), .inr (22, 1, 0, 570)]) (st' := []) rfl rfl rfl (Nat.le_of_ble_eq_true rfl) trivial rfl (Nat.le_of_ble_eq_true rfl) (t_8_1 K N (by omega) (xs.2 ((x4 + (1 : Int32))).toNatClampNeg) P) (fun v25 P24 => ?_)
        refine tr_gd (fun h26 => ?_)
        refine tr_blk 7 (pc' := 389) (rows' := kb_0_369.drop 15) (loc' := [.inr (31, xs.1, 0, 0), .inr (11, 0, 0, 0), .inr (12, 0, 0, 72), .inr (22, 1, 0, 570), .inl (.int x4), .inl (.int v25), d6, ab_top]) (st' := [.inl (.int (xs.2 ((x4 + (1 : Int32))).toNatClampNeg)), .inr (12, 0, 0, 72)]) (P1 := P24) rfl ⟨trivial, trivial, trivial, trivial, trivial, trivial, ⟨h26, rfl⟩, trivial⟩ ?_
        refine tr_cWI (z := km_9) (av := [.inr (12, 0, 0, 72), .inl (.int (xs.2 ((x4 + (1 : Int32))).toNatClampNeg))]) (st' := []) rfl rfl rfl (Nat.le_of_ble_eq_true rfl) ⟨rfl, Or.inl (by decide)⟩ rfl (Nat.le_of_ble_eq_true rfl) (t_9 K N (by omega) (xs.2 ((x4 + (1 : Int32))).toNatClampNeg) P24) (fun v28 P27 => ?_)
        refine tr_blk 2 (pc' := 395) (rows' := kb_0_369.drop 18) (loc' := [.inr (31, xs.1, 0, 0), .inr (11, 0, 0, 0), .inr (12, 0, 0, 72), .inr (22, 1, 0, 570), .inl (.int x4), .inl (.int v25), .inl (.int v28), ab_top]) (st' := [.inr (12, 0, 0, 72)]) (P1 := P27) rfl ⟨trivial, trivial, trivial⟩ ?_
        refine tr_cRI (z := km_7) (av := [.inr (12, 0, 0, 72)]) (st' := []) rfl rfl rfl (Nat.le_of_ble_eq_true rfl) ⟨rfl, Or.inl (by decide)⟩ rfl (Nat.le_of_ble_eq_true rfl) (t_7 P27) (fun v29 => ?_)
        refine tr_blk 1 (pc' := 400) (rows' := kb_0_369.drop 20) (loc' := [.inr (31, xs.1, 0, 0), .inr (11, 0, 0, 0), .inr (12, 0, 0, 72), .inr (22, 1, 0, 570), .inl (.int x4), .inl (.int v25), .inl (.int v28), ab_top]) (st' := [.inl (.int v25), .inl (.int v29)]) (P1 := P27) rfl ⟨trivial, trivial⟩ ?_
        refine tr_if (fun h358 => ?_) (fun h358 => ?_)
        · refine tr_icT (cd := .eq) h358 ?_
          refine tr_nil (rows2 := kb_0_405) rfl (List.cons_ne_nil _ _) ?_
          refine tr_blk 1 (pc' := 407) (rows' := kb_0_405.drop 1) (loc' := [.inr (31, xs.1, 0, 0), .inr (11, 0, 0, 0), .inr (12, 0, 0, 72), .inr (22, 1, 0, 570), .inl (.int x4), .inl (.int v25), .inl (.int v28), ab_top]) (st' := [.inl (.int v25)]) (P1 := P27) rfl ⟨trivial, trivial⟩ ?_
          refine tr_if (fun h359 => ?_) (fun h359 => ?_)
          · refine tr_ifF (cd := .ne) (fun q => q h359) ?_
            refine tr_blk 6 (pc' := 417) (rows' := kb_0_405.drop 8) (loc' := [.inr (31, xs.1, 0, 0), .inr (11, 0, 0, 0), .inr (12, 0, 0, 72), .inr (22, 1, 0, 570), .inl (.int x4), .inl (.int v25), .inl (.int v28), ab_top]) (st' := [.inl (.int (lg_cmp (P27.2.1 570 0) (v28).toInt64))]) (P1 := P27) rfl ⟨trivial, trivial, (ab_vi (by decide)), trivial, trivial, trivial, trivial⟩ ?_
            refine tr_if (fun h360 => ?_) (fun h360 => ?_)
            · refine tr_ifT (cd := .eq) h360 ?_
              refine tr_nil (rows2 := kb_0_422) rfl (List.cons_ne_nil _ _) ?_
              refine tr_goto ?_
              refine tr_nil (rows2 := kb_0_2660) rfl (List.cons_ne_nil _ _) ?_
              refine tr_blk 1 (pc' := 2663) (rows' := kb_0_2660.drop 1) (loc' := [.inr (31, xs.1, 0, 0), .inr (11, 0, 0, 0), .inr (12, 0, 0, 72), .inr (22, 1, 0, 570), .inl (.int (x4 + 8)), .inl (.int v25), .inl (.int v28), ab_top]) (st' := []) (P1 := P27) rfl ⟨trivial, trivial⟩ ?_
              refine tr_goto ?_
              exact ih (x4 + 8) (.inl (.int v25)) (.inl (.int v28)) P27
            · refine tr_ifF (cd := .eq) h360 ?_
              refine tr_blk 1 (pc' := 421) (rows' := kb_0_405.drop 10) (loc' := [.inr (31, xs.1, 0, 0), .inr (11, 0, 0, 0), .inr (12, 0, 0, 72), .inr (22, 1, 0, 570), .inl (.int x4), .inl (.int v25), .inl (.int v28), ab_top]) (st' := [.inl (.int (0 : Int32))]) (P1 := P27) rfl ⟨trivial, trivial⟩ ?_
              exact tr_reI (z := km_0) rfl ⟨_, rfl, rfl⟩ rfl
          · refine tr_ifT (cd := .ne) h359 ?_
            refine tr_nil (rows2 := kb_0_422) rfl (List.cons_ne_nil _ _) ?_
            refine tr_goto ?_
            refine tr_nil (rows2 := kb_0_2660) rfl (List.cons_ne_nil _ _) ?_
            refine tr_blk 1 (pc' := 2663) (rows' := kb_0_2660.drop 1) (loc' := [.inr (31, xs.1, 0, 0), .inr (11, 0, 0, 0), .inr (12, 0, 0, 72), .inr (22, 1, 0, 570), .inl (.int (x4 + 8)), .inl (.int v25), .inl (.int v28), ab_top]) (st' := []) (P1 := P27) rfl ⟨trivial, trivial⟩ ?_
            refine tr_goto ?_
            exact ih (x4 + 8) (.inl (.int v25)) (.inl (.int v28)) P27
        · refine tr_icF (cd := .eq) h358 ?_
          refine tr_blk 1 (pc' := 404) (rows' := kb_0_369.drop 22) (loc' := [.inr (31, xs.1, 0, 0), .inr (11, 0, 0, 0), .inr (12, 0, 0, 72), .inr (22, 1, 0, 570), .inl (.int x4), .inl (.int v25), .inl (.int v28), ab_top]) (st' := [.inl (.int (0 : Int32))]) (P1 := P27) rfl ⟨trivial, trivial⟩ ?_
          exact tr_reI (z := km_0) rfl ⟨_, rfl, rfl⟩ rfl
      refine tr_if (fun h361 => ?_) (fun h361 => ?_)
      · refine tr_sw (t := 425) (by rw [h361]; rfl) ?_
        refine tr_nil (rows2 := kb_0_425) rfl (List.cons_ne_nil _ _) ?_
        refine tr_gd (fun h30 => ?_)
        refine tr_blk 7 (pc' := 433) (rows' := kb_0_425.drop 7) (loc' := [.inr (31, xs.1, 0, 0), .inr (11, 0, 0, 0), .inr (12, 0, 0, 72), .inr (22, 1, 0, 570), .inl (.int x4), d5, d6, ab_top]) (st' := [.inr (22, 1, 0, 570), .inl (.int (xs.2 ((x4 + (1 : Int32))).toNatClampNeg)), .inr (11, 0, 0, 0)]) (P1 := P) rfl ⟨trivial, trivial, trivial, trivial, trivial, ⟨h30, rfl⟩, trivial, trivial⟩ ?_
        refine tr_cWI (z := km_10) (av := [.inr (11, 0, 0, 0), .inl (.int (xs.2 ((x4 + (1 : Int32))).toNatClampNeg)), .inr (22, 1, 0, 570)]) (st' := []) rfl rfl rfl (Nat.le_of_ble_eq_true rfl) trivial rfl (Nat.le_of_ble_eq_true rfl) (t_10_1 N (xs.2 ((x4 + (1 : Int32))).toNatClampNeg) P) (fun v32 P31 => ?_)
        refine tr_gd (fun h33 => ?_)
        refine tr_blk 7 (pc' := 445) (rows' := kb_0_425.drop 15) (loc' := [.inr (31, xs.1, 0, 0), .inr (11, 0, 0, 0), .inr (12, 0, 0, 72), .inr (22, 1, 0, 570), .inl (.int x4), .inl (.int v32), d6, ab_top]) (st' := [.inl (.int (xs.2 ((x4 + (1 : Int32))).toNatClampNeg)), .inr (12, 0, 0, 72)]) (P1 := P31) rfl ⟨trivial, trivial, trivial, trivial, trivial, trivial, ⟨h33, rfl⟩, trivial⟩ ?_
        refine tr_cWI (z := km_11) (av := [.inr (12, 0, 0, 72), .inl (.int (xs.2 ((x4 + (1 : Int32))).toNatClampNeg))]) (st' := []) rfl rfl rfl (Nat.le_of_ble_eq_true rfl) ⟨rfl, Or.inl (by decide)⟩ rfl (Nat.le_of_ble_eq_true rfl) (t_11 N (xs.2 ((x4 + (1 : Int32))).toNatClampNeg) P31) (fun v35 P34 => ?_)
        refine tr_blk 2 (pc' := 451) (rows' := kb_0_425.drop 18) (loc' := [.inr (31, xs.1, 0, 0), .inr (11, 0, 0, 0), .inr (12, 0, 0, 72), .inr (22, 1, 0, 570), .inl (.int x4), .inl (.int v32), .inl (.int v35), ab_top]) (st' := [.inr (12, 0, 0, 72)]) (P1 := P34) rfl ⟨trivial, trivial, trivial⟩ ?_
        refine tr_cRI (z := km_7) (av := [.inr (12, 0, 0, 72)]) (st' := []) rfl rfl rfl (Nat.le_of_ble_eq_true rfl) ⟨rfl, Or.inl (by decide)⟩ rfl (Nat.le_of_ble_eq_true rfl) (t_7 P34) (fun v36 => ?_)
        refine tr_blk 1 (pc' := 456) (rows' := kb_0_425.drop 20) (loc' := [.inr (31, xs.1, 0, 0), .inr (11, 0, 0, 0), .inr (12, 0, 0, 72), .inr (22, 1, 0, 570), .inl (.int x4), .inl (.int v32), .inl (.int v35), ab_top]) (st' := [.inl (.int v32), .inl (.int v36)]) (P1 := P34) rfl ⟨trivial, trivial⟩ ?_
        refine tr_if (fun h362 => ?_) (fun h362 => ?_)
        · refine tr_icT (cd := .eq) h362 ?_
          refine tr_nil (rows2 := kb_0_461) rfl (List.cons_ne_nil _ _) ?_
          refine tr_blk 1 (pc' := 463) (rows' := kb_0_461.drop 1) (loc' := [.inr (31, xs.1, 0, 0), .inr (11, 0, 0, 0), .inr (12, 0, 0, 72), .inr (22, 1, 0, 570), .inl (.int x4), .inl (.int v32), .inl (.int v35), ab_top]) (st' := [.inl (.int v32)]) (P1 := P34) rfl ⟨trivial, trivial⟩ ?_
          refine tr_if (fun h363 => ?_) (fun h363 => ?_)
          · refine tr_ifF (cd := .ne) (fun q => q h363) ?_
            refine tr_blk 6 (pc' := 473) (rows' := kb_0_461.drop 8) (loc' := [.inr (31, xs.1, 0, 0), .inr (11, 0, 0, 0), .inr (12, 0, 0, 72), .inr (22, 1, 0, 570), .inl (.int x4), .inl (.int v32), .inl (.int v35), ab_top]) (st' := [.inl (.int (lg_cmp (P34.2.1 570 0) (v35).toInt64))]) (P1 := P34) rfl ⟨trivial, trivial, (ab_vi (by decide)), trivial, trivial, trivial, trivial⟩ ?_
            refine tr_if (fun h364 => ?_) (fun h364 => ?_)
            · refine tr_ifT (cd := .eq) h364 ?_
              refine tr_nil (rows2 := kb_0_478) rfl (List.cons_ne_nil _ _) ?_
              refine tr_goto ?_
              refine tr_nil (rows2 := kb_0_2660) rfl (List.cons_ne_nil _ _) ?_
              refine tr_blk 1 (pc' := 2663) (rows' := kb_0_2660.drop 1) (loc' := [.inr (31, xs.1, 0, 0), .inr (11, 0, 0, 0), .inr (12, 0, 0, 72), .inr (22, 1, 0, 570), .inl (.int (x4 + 8)), .inl (.int v32), .inl (.int v35), ab_top]) (st' := []) (P1 := P34) rfl ⟨trivial, trivial⟩ ?_
              refine tr_goto ?_
              exact ih (x4 + 8) (.inl (.int v32)) (.inl (.int v35)) P34
            · refine tr_ifF (cd := .eq) h364 ?_
              refine tr_blk 1 (pc' := 477) (rows' := kb_0_461.drop 10) (loc' := [.inr (31, xs.1, 0, 0), .inr (11, 0, 0, 0), .inr (12, 0, 0, 72), .inr (22, 1, 0, 570), .inl (.int x4), .inl (.int v32), .inl (.int v35), ab_top]) (st' := [.inl (.int (0 : Int32))]) (P1 := P34) rfl ⟨trivial, trivial⟩ ?_
              exact tr_reI (z := km_0) rfl ⟨_, rfl, rfl⟩ rfl
          · refine tr_ifT (cd := .ne) h363 ?_
            refine tr_nil (rows2 := kb_0_478) rfl (List.cons_ne_nil _ _) ?_
            refine tr_goto ?_
            refine tr_nil (rows2 := kb_0_2660) rfl (List.cons_ne_nil _ _) ?_
            refine tr_blk 1 (pc' := 2663) (rows' := kb_0_2660.drop 1) (loc' := [.inr (31, xs.1, 0, 0), .inr (11, 0, 0, 0), .inr (12, 0, 0, 72), .inr (22, 1, 0, 570), .inl (.int (x4 + 8)), .inl (.int v32), .inl (.int v35), ab_top]) (st' := []) (P1 := P34) rfl ⟨trivial, trivial⟩ ?_
            refine tr_goto ?_
            exact ih (x4 + 8) (.inl (.int v32)) (.inl (.int v35)) P34
        · refine tr_icF (cd := .eq) h362 ?_
          refine tr_blk 1 (pc' := 460) (rows' := kb_0_425.drop 22) (loc' := [.inr (31, xs.1, 0, 0), .inr (11, 0, 0, 0), .inr (12, 0, 0, 72), .inr (22, 1, 0, 570), .inl (.int x4), .inl (.int v32), .inl (.int v35), ab_top]) (st' := [.inl (.int (0 : Int32))]) (P1 := P34) rfl ⟨trivial, trivial⟩ ?_
          exact tr_reI (z := km_0) rfl ⟨_, rfl, rfl⟩ rfl
      refine tr_if (fun h365 => ?_) (fun h365 => ?_)
      · refine tr_sw (t := 481) (by rw [h365]; rfl) ?_
        refine tr_nil (rows2 := kb_0_481) rfl (List.cons_ne_nil _ _) ?_
        refine tr_gd (fun h37 => ?_)
        refine tr_blk 7 (pc' := 489) (rows' := kb_0_481.drop 7) (loc' := [.inr (31, xs.1, 0, 0), .inr (11, 0, 0, 0), .inr (12, 0, 0, 72), .inr (22, 1, 0, 570), .inl (.int x4), d5, d6, ab_top]) (st' := [.inr (22, 1, 0, 570), .inl (.int (xs.2 ((x4 + (1 : Int32))).toNatClampNeg)), .inr (11, 0, 0, 0)]) (P1 := P) rfl ⟨trivial, trivial, trivial, trivial, trivial, ⟨h37, rfl⟩, trivial, trivial⟩ ?_
        refine tr_cWI (z := km_12) (av := [.inr (11, 0, 0, 0), .inl (.int (xs.2 ((x4 + (1 : Int32))).toNatClampNeg)), .inr (22, 1, 0, 570)]) (st' := []) rfl rfl rfl (Nat.le_of_ble_eq_true rfl) trivial rfl (Nat.le_of_ble_eq_true rfl) (t_12_1 N (xs.2 ((x4 + (1 : Int32))).toNatClampNeg) P) (fun v39 P38 => ?_)
        refine tr_gd (fun h40 => ?_)
        refine tr_blk 7 (pc' := 501) (rows' := kb_0_481.drop 15) (loc' := [.inr (31, xs.1, 0, 0), .inr (11, 0, 0, 0), .inr (12, 0, 0, 72), .inr (22, 1, 0, 570), .inl (.int x4), .inl (.int v39), d6, ab_top]) (st' := [.inl (.int (xs.2 ((x4 + (1 : Int32))).toNatClampNeg)), .inr (12, 0, 0, 72)]) (P1 := P38) rfl ⟨trivial, trivial, trivial, trivial, trivial, trivial, ⟨h40, rfl⟩, trivial⟩ ?_
        refine tr_cWI (z := km_13) (av := [.inr (12, 0, 0, 72), .inl (.int (xs.2 ((x4 + (1 : Int32))).toNatClampNeg))]) (st' := []) rfl rfl rfl (Nat.le_of_ble_eq_true rfl) ⟨rfl, Or.inl (by decide)⟩ rfl (Nat.le_of_ble_eq_true rfl) (t_13 N (xs.2 ((x4 + (1 : Int32))).toNatClampNeg) P38) (fun v42 P41 => ?_)
        refine tr_blk 2 (pc' := 507) (rows' := kb_0_481.drop 18) (loc' := [.inr (31, xs.1, 0, 0), .inr (11, 0, 0, 0), .inr (12, 0, 0, 72), .inr (22, 1, 0, 570), .inl (.int x4), .inl (.int v39), .inl (.int v42), ab_top]) (st' := [.inr (12, 0, 0, 72)]) (P1 := P41) rfl ⟨trivial, trivial, trivial⟩ ?_
        refine tr_cRI (z := km_7) (av := [.inr (12, 0, 0, 72)]) (st' := []) rfl rfl rfl (Nat.le_of_ble_eq_true rfl) ⟨rfl, Or.inl (by decide)⟩ rfl (Nat.le_of_ble_eq_true rfl) (t_7 P41) (fun v43 => ?_)
        refine tr_blk 1 (pc' := 512) (rows' := kb_0_481.drop 20) (loc' := [.inr (31, xs.1, 0, 0), .inr (11, 0, 0, 0), .inr (12, 0, 0, 72), .inr (22, 1, 0, 570), .inl (.int x4), .inl (.int v39), .inl (.int v42), ab_top]) (st' := [.inl (.int v39), .inl (.int v43)]) (P1 := P41) rfl ⟨trivial, trivial⟩ ?_
        refine tr_if (fun h366 => ?_) (fun h366 => ?_)
        · refine tr_icT (cd := .eq) h366 ?_
          refine tr_nil (rows2 := kb_0_517) rfl (List.cons_ne_nil _ _) ?_
          refine tr_blk 1 (pc' := 519) (rows' := kb_0_517.drop 1) (loc' := [.inr (31, xs.1, 0, 0), .inr (11, 0, 0, 0), .inr (12, 0, 0, 72), .inr (22, 1, 0, 570), .inl (.int x4), .inl (.int v39), .inl (.int v42), ab_top]) (st' := [.inl (.int v39)]) (P1 := P41) rfl ⟨trivial, trivial⟩ ?_
          refine tr_if (fun h367 => ?_) (fun h367 => ?_)
          · refine tr_ifF (cd := .ne) (fun q => q h367) ?_
            refine tr_blk 6 (pc' := 529) (rows' := kb_0_517.drop 8) (loc' := [.inr (31, xs.1, 0, 0), .inr (11, 0, 0, 0), .inr (12, 0, 0, 72), .inr (22, 1, 0, 570), .inl (.int x4), .inl (.int v39), .inl (.int v42), ab_top]) (st' := [.inl (.int (lg_cmp (P41.2.1 570 0) (v42).toInt64))]) (P1 := P41) rfl ⟨trivial, trivial, (ab_vi (by decide)), trivial, trivial, trivial, trivial⟩ ?_
            refine tr_if (fun h368 => ?_) (fun h368 => ?_)
            · refine tr_ifT (cd := .eq) h368 ?_
              refine tr_nil (rows2 := kb_0_534) rfl (List.cons_ne_nil _ _) ?_
              refine tr_goto ?_
              refine tr_nil (rows2 := kb_0_2660) rfl (List.cons_ne_nil _ _) ?_
              refine tr_blk 1 (pc' := 2663) (rows' := kb_0_2660.drop 1) (loc' := [.inr (31, xs.1, 0, 0), .inr (11, 0, 0, 0), .inr (12, 0, 0, 72), .inr (22, 1, 0, 570), .inl (.int (x4 + 8)), .inl (.int v39), .inl (.int v42), ab_top]) (st' := []) (P1 := P41) rfl ⟨trivial, trivial⟩ ?_
              refine tr_goto ?_
              exact ih (x4 + 8) (.inl (.int v39)) (.inl (.int v42)) P41
            · refine tr_ifF (cd := .eq) h368 ?_
              refine tr_blk 1 (pc' := 533) (rows' := kb_0_517.drop 10) (loc' := [.inr (31, xs.1, 0, 0), .inr (11, 0, 0, 0), .inr (12, 0, 0, 72), .inr (22, 1, 0, 570), .inl (.int x4), .inl (.int v39), .inl (.int v42), ab_top]) (st' := [.inl (.int (0 : Int32))]) (P1 := P41) rfl ⟨trivial, trivial⟩ ?_
              exact tr_reI (z := km_0) rfl ⟨_, rfl, rfl⟩ rfl
          · refine tr_ifT (cd := .ne) h367 ?_
            refine tr_nil (rows2 := kb_0_534) rfl (List.cons_ne_nil _ _) ?_
            refine tr_goto ?_
            refine tr_nil (rows2 := kb_0_2660) rfl (List.cons_ne_nil _ _) ?_
            refine tr_blk 1 (pc' := 2663) (rows' := kb_0_2660.drop 1) (loc' := [.inr (31, xs.1, 0, 0), .inr (11, 0, 0, 0), .inr (12, 0, 0, 72), .inr (22, 1, 0, 570), .inl (.int (x4 + 8)), .inl (.int v39), .inl (.int v42), ab_top]) (st' := []) (P1 := P41) rfl ⟨trivial, trivial⟩ ?_
            refine tr_goto ?_
            exact ih (x4 + 8) (.inl (.int v39)) (.inl (.int v42)) P41
        · refine tr_icF (cd := .eq) h366 ?_
          refine tr_blk 1 (pc' := 516) (rows' := kb_0_481.drop 22) (loc' := [.inr (31, xs.1, 0, 0), .inr (11, 0, 0, 0), .inr (12, 0, 0, 72), .inr (22, 1, 0, 570), .inl (.int x4), .inl (.int v39), .inl (.int v42), ab_top]) (st' := [.inl (.int (0 : Int32))]) (P1 := P41) rfl ⟨trivial, trivial⟩ ?_
          exact tr_reI (z := km_0) rfl ⟨_, rfl, rfl⟩ rfl
      refine tr_if (fun h369 => ?_) (fun h369 => ?_)
      · refine tr_sw (t := 537) (by rw [h369]; rfl) ?_
        refine tr_nil (rows2 := kb_0_537) rfl (List.cons_ne_nil _ _) ?_
        refine tr_blk 1 (pc' := 538) (rows' := kb_0_537.drop 1) (loc' := [.inr (31, xs.1, 0, 0), .inr (11, 0, 0, 0), .inr (12, 0, 0, 72), .inr (22, 1, 0, 570), .inl (.int x4), d5, d6, ab_top]) (st' := [.inr (11, 0, 0, 0)]) (P1 := P) rfl ⟨trivial, trivial⟩ ?_
        refine tr_cRI (z := km_14) (av := [.inr (11, 0, 0, 0)]) (st' := []) rfl rfl rfl (Nat.le_of_ble_eq_true rfl) ⟨rfl, Or.inl (by decide)⟩ rfl (Nat.le_of_ble_eq_true rfl) (t_14 P) (fun v44 => ?_)
        refine tr_blk 1 (pc' := 542) (rows' := kb_0_537.drop 3) (loc' := [.inr (31, xs.1, 0, 0), .inr (11, 0, 0, 0), .inr (12, 0, 0, 72), .inr (22, 1, 0, 570), .inl (.int x4), d5, d6, ab_top]) (st' := [.inr (12, 0, 0, 72), .inl (.int v44)]) (P1 := P) rfl ⟨trivial, trivial⟩ ?_
        refine tr_cWI (z := km_15) (av := [.inr (12, 0, 0, 72)]) (st' := [.inl (.int v44)]) rfl rfl rfl (Nat.le_of_ble_eq_true rfl) ⟨rfl, Or.inl (by decide)⟩ rfl (Nat.le_of_ble_eq_true rfl) (t_15 P) (fun v46 P45 => ?_)
        refine tr_if (fun h370 => ?_) (fun h370 => ?_)
        · refine tr_icT (cd := .eq) h370 ?_
          refine tr_nil (rows2 := kb_0_2660) rfl (List.cons_ne_nil _ _) ?_
          refine tr_blk 1 (pc' := 2663) (rows' := kb_0_2660.drop 1) (loc' := [.inr (31, xs.1, 0, 0), .inr (11, 0, 0, 0), .inr (12, 0, 0, 72), .inr (22, 1, 0, 570), .inl (.int (x4 + 8)), d5, d6, ab_top]) (st' := []) (P1 := P45) rfl ⟨trivial, trivial⟩ ?_
          refine tr_goto ?_
          exact ih (x4 + 8) (d5) (d6) P45
        · refine tr_icF (cd := .eq) h370 ?_
          refine tr_blk 1 (pc' := 549) (rows' := kb_0_537.drop 6) (loc' := [.inr (31, xs.1, 0, 0), .inr (11, 0, 0, 0), .inr (12, 0, 0, 72), .inr (22, 1, 0, 570), .inl (.int x4), d5, d6, ab_top]) (st' := [.inl (.int (0 : Int32))]) (P1 := P45) rfl ⟨trivial, trivial⟩ ?_
          exact tr_reI (z := km_0) rfl ⟨_, rfl, rfl⟩ rfl
      refine tr_if (fun h371 => ?_) (fun h371 => ?_)
      · refine tr_sw (t := 550) (by rw [h371]; rfl) ?_
        refine tr_nil (rows2 := kb_0_550) rfl (List.cons_ne_nil _ _) ?_
        refine tr_blk 1 (pc' := 551) (rows' := kb_0_550.drop 1) (loc' := [.inr (31, xs.1, 0, 0), .inr (11, 0, 0, 0), .inr (12, 0, 0, 72), .inr (22, 1, 0, 570), .inl (.int x4), d5, d6, ab_top]) (st' := [.inr (11, 0, 0, 0)]) (P1 := P) rfl ⟨trivial, trivial⟩ ?_
        refine tr_cWI (z := km_16) (av := [.inr (11, 0, 0, 0)]) (st' := []) rfl rfl rfl (Nat.le_of_ble_eq_true rfl) ⟨rfl, Or.inl (by decide)⟩ rfl (Nat.le_of_ble_eq_true rfl) (t_16 P) (fun v48 P47 => ?_)
        refine tr_blk 1 (pc' := 555) (rows' := kb_0_550.drop 3) (loc' := [.inr (31, xs.1, 0, 0), .inr (11, 0, 0, 0), .inr (12, 0, 0, 72), .inr (22, 1, 0, 570), .inl (.int x4), d5, d6, ab_top]) (st' := [.inr (12, 0, 0, 72), .inl (.int v48)]) (P1 := P47) rfl ⟨trivial, trivial⟩ ?_
        refine tr_cWI (z := km_17) (av := [.inr (12, 0, 0, 72)]) (st' := [.inl (.int v48)]) rfl rfl rfl (Nat.le_of_ble_eq_true rfl) ⟨rfl, Or.inl (by decide)⟩ rfl (Nat.le_of_ble_eq_true rfl) (t_17 N P47) (fun v50 P49 => ?_)
        refine tr_if (fun h372 => ?_) (fun h372 => ?_)
        · refine tr_icT (cd := .eq) h372 ?_
          refine tr_nil (rows2 := kb_0_2660) rfl (List.cons_ne_nil _ _) ?_
          refine tr_blk 1 (pc' := 2663) (rows' := kb_0_2660.drop 1) (loc' := [.inr (31, xs.1, 0, 0), .inr (11, 0, 0, 0), .inr (12, 0, 0, 72), .inr (22, 1, 0, 570), .inl (.int (x4 + 8)), d5, d6, ab_top]) (st' := []) (P1 := P49) rfl ⟨trivial, trivial⟩ ?_
          refine tr_goto ?_
          exact ih (x4 + 8) (d5) (d6) P49
        · refine tr_icF (cd := .eq) h372 ?_
          refine tr_blk 1 (pc' := 562) (rows' := kb_0_550.drop 6) (loc' := [.inr (31, xs.1, 0, 0), .inr (11, 0, 0, 0), .inr (12, 0, 0, 72), .inr (22, 1, 0, 570), .inl (.int x4), d5, d6, ab_top]) (st' := [.inl (.int (0 : Int32))]) (P1 := P49) rfl ⟨trivial, trivial⟩ ?_
          exact tr_reI (z := km_0) rfl ⟨_, rfl, rfl⟩ rfl
      refine tr_if (fun h373 => ?_) (fun h373 => ?_)
      · refine tr_sw (t := 563) (by rw [h373]; rfl) ?_
        refine tr_nil (rows2 := kb_0_563) rfl (List.cons_ne_nil _ _) ?_
        refine tr_gd (fun h51 => ?_)
        refine tr_blk 7 (pc' := 571) (rows' := kb_0_563.drop 7) (loc' := [.inr (31, xs.1, 0, 0), .inr (11, 0, 0, 0), .inr (12, 0, 0, 72), .inr (22, 1, 0, 570), .inl (.int x4), d5, d6, ab_top]) (st' := [.inr (22, 1, 0, 570), .inl (.int (xs.2 ((x4 + (1 : Int32))).toNatClampNeg)), .inr (11, 0, 0, 0)]) (P1 := P) rfl ⟨trivial, trivial, trivial, trivial, trivial, ⟨h51, rfl⟩, trivial, trivial⟩ ?_
        refine tr_cWI (z := km_18) (av := [.inr (11, 0, 0, 0), .inl (.int (xs.2 ((x4 + (1 : Int32))).toNatClampNeg)), .inr (22, 1, 0, 570)]) (st' := []) rfl rfl rfl (Nat.le_of_ble_eq_true rfl) trivial rfl (Nat.le_of_ble_eq_true rfl) (t_18_1 N (xs.2 ((x4 + (1 : Int32))).toNatClampNeg) P) (fun v53 P52 => ?_)
        refine tr_gd (fun h54 => ?_)
        refine tr_blk 7 (pc' := 583) (rows' := kb_0_563.drop 15) (loc' := [.inr (31, xs.1, 0, 0), .inr (11, 0, 0, 0), .inr (12, 0, 0, 72), .inr (22, 1, 0, 570), .inl (.int x4), .inl (.int v53), d6, ab_top]) (st' := [.inl (.int (xs.2 ((x4 + (1 : Int32))).toNatClampNeg)), .inr (12, 0, 0, 72)]) (P1 := P52) rfl ⟨trivial, trivial, trivial, trivial, trivial, trivial, ⟨h54, rfl⟩, trivial⟩ ?_
        refine tr_cWI (z := km_19) (av := [.inr (12, 0, 0, 72), .inl (.int (xs.2 ((x4 + (1 : Int32))).toNatClampNeg))]) (st' := []) rfl rfl rfl (Nat.le_of_ble_eq_true rfl) ⟨rfl, Or.inl (by decide)⟩ rfl (Nat.le_of_ble_eq_true rfl) (t_19 N (xs.2 ((x4 + (1 : Int32))).toNatClampNeg) P52) (fun v56 P55 => ?_)
        refine tr_blk 2 (pc' := 589) (rows' := kb_0_563.drop 18) (loc' := [.inr (31, xs.1, 0, 0), .inr (11, 0, 0, 0), .inr (12, 0, 0, 72), .inr (22, 1, 0, 570), .inl (.int x4), .inl (.int v53), .inl (.int v56), ab_top]) (st' := [.inr (12, 0, 0, 72)]) (P1 := P55) rfl ⟨trivial, trivial, trivial⟩ ?_
        refine tr_cRI (z := km_7) (av := [.inr (12, 0, 0, 72)]) (st' := []) rfl rfl rfl (Nat.le_of_ble_eq_true rfl) ⟨rfl, Or.inl (by decide)⟩ rfl (Nat.le_of_ble_eq_true rfl) (t_7 P55) (fun v57 => ?_)
        refine tr_blk 1 (pc' := 594) (rows' := kb_0_563.drop 20) (loc' := [.inr (31, xs.1, 0, 0), .inr (11, 0, 0, 0), .inr (12, 0, 0, 72), .inr (22, 1, 0, 570), .inl (.int x4), .inl (.int v53), .inl (.int v56), ab_top]) (st' := [.inl (.int v53), .inl (.int v57)]) (P1 := P55) rfl ⟨trivial, trivial⟩ ?_
        refine tr_if (fun h374 => ?_) (fun h374 => ?_)
        · refine tr_icT (cd := .eq) h374 ?_
          refine tr_nil (rows2 := kb_0_599) rfl (List.cons_ne_nil _ _) ?_
          refine tr_blk 1 (pc' := 601) (rows' := kb_0_599.drop 1) (loc' := [.inr (31, xs.1, 0, 0), .inr (11, 0, 0, 0), .inr (12, 0, 0, 72), .inr (22, 1, 0, 570), .inl (.int x4), .inl (.int v53), .inl (.int v56), ab_top]) (st' := [.inl (.int v53)]) (P1 := P55) rfl ⟨trivial, trivial⟩ ?_
          refine tr_if (fun h375 => ?_) (fun h375 => ?_)
          · refine tr_ifF (cd := .ne) (fun q => q h375) ?_
            refine tr_blk 6 (pc' := 611) (rows' := kb_0_599.drop 8) (loc' := [.inr (31, xs.1, 0, 0), .inr (11, 0, 0, 0), .inr (12, 0, 0, 72), .inr (22, 1, 0, 570), .inl (.int x4), .inl (.int v53), .inl (.int v56), ab_top]) (st' := [.inl (.int (lg_cmp (P55.2.1 570 0) (v56).toInt64))]) (P1 := P55) rfl ⟨trivial, trivial, (ab_vi (by decide)), trivial, trivial, trivial, trivial⟩ ?_
            refine tr_if (fun h376 => ?_) (fun h376 => ?_)
            · refine tr_ifT (cd := .eq) h376 ?_
              refine tr_nil (rows2 := kb_0_616) rfl (List.cons_ne_nil _ _) ?_
              refine tr_goto ?_
              refine tr_nil (rows2 := kb_0_2660) rfl (List.cons_ne_nil _ _) ?_
              refine tr_blk 1 (pc' := 2663) (rows' := kb_0_2660.drop 1) (loc' := [.inr (31, xs.1, 0, 0), .inr (11, 0, 0, 0), .inr (12, 0, 0, 72), .inr (22, 1, 0, 570), .inl (.int (x4 + 8)), .inl (.int v53), .inl (.int v56), ab_top]) (st' := []) (P1 := P55) rfl ⟨trivial, trivial⟩ ?_
              refine tr_goto ?_
              exact ih (x4 + 8) (.inl (.int v53)) (.inl (.int v56)) P55
            · refine tr_ifF (cd := .eq) h376 ?_
              refine tr_blk 1 (pc' := 615) (rows' := kb_0_599.drop 10) (loc' := [.inr (31, xs.1, 0, 0), .inr (11, 0, 0, 0), .inr (12, 0, 0, 72), .inr (22, 1, 0, 570), .inl (.int x4), .inl (.int v53), .inl (.int v56), ab_top]) (st' := [.inl (.int (0 : Int32))]) (P1 := P55) rfl ⟨trivial, trivial⟩ ?_
              exact tr_reI (z := km_0) rfl ⟨_, rfl, rfl⟩ rfl
          · refine tr_ifT (cd := .ne) h375 ?_
            refine tr_nil (rows2 := kb_0_616) rfl (List.cons_ne_nil _ _) ?_
            refine tr_goto ?_
            refine tr_nil (rows2 := kb_0_2660) rfl (List.cons_ne_nil _ _) ?_
            refine tr_blk 1 (pc' := 2663) (rows' := kb_0_2660.drop 1) (loc' := [.inr (31, xs.1, 0, 0), .inr (11, 0, 0, 0), .inr (12, 0, 0, 72), .inr (22, 1, 0, 570), .inl (.int (x4 + 8)), .inl (.int v53), .inl (.int v56), ab_top]) (st' := []) (P1 := P55) rfl ⟨trivial, trivial⟩ ?_
            refine tr_goto ?_
            exact ih (x4 + 8) (.inl (.int v53)) (.inl (.int v56)) P55
        · refine tr_icF (cd := .eq) h374 ?_
          refine tr_blk 1 (pc' := 598) (rows' := kb_0_563.drop 22) (loc' := [.inr (31, xs.1, 0, 0), .inr (11, 0, 0, 0), .inr (12, 0, 0, 72), .inr (22, 1, 0, 570), .inl (.int x4), .inl (.int v53), .inl (.int v56), ab_top]) (st' := [.inl (.int (0 : Int32))]) (P1 := P55) rfl ⟨trivial, trivial⟩ ?_
          exact tr_reI (z := km_0) rfl ⟨_, rfl, rfl⟩ rfl
      refine tr_if (fun h377 => ?_) (fun h377 => ?_)
      · refine tr_sw (t := 619) (by rw [h377]; rfl) ?_
        refine tr_nil (rows2 := kb_0_619) rfl (List.cons_ne_nil _ _) ?_
        refine tr_gd (fun h58 => ?_)
        refine tr_gd (fun h59 => ?_)
        refine tr_blk 12 (pc' := 633) (rows' := kb_0_619.drop 12) (loc' := [.inr (31, xs.1, 0, 0), .inr (11, 0, 0, 0), .inr (12, 0, 0, 72), .inr (22, 1, 0, 570), .inl (.int x4), d5, d6, ab_top]) (st' := [.inr (22, 1, 0, 570), .inl (.int (xs.2 ((x4 + (2 : Int32))).toNatClampNeg)), .inl (.int (xs.2 ((x4 + (1 : Int32))).toNatClampNeg)), .inr (11, 0, 0, 0)]) (P1 := P) rfl ⟨trivial, trivial, trivial, trivial, trivial, ⟨h58, rfl⟩, trivial, trivial, trivial, trivial, ⟨h59, rfl⟩, trivial, trivial⟩ ?_
        refine tr_cWI (z := km_20) (av := [.inr (11, 0, 0, 0), .inl (.int (xs.2 ((x4 + (1 : Int32))).toNatClampNeg)), .inl (.int (xs.2 ((x4 + (2 : Int32))).toNatClampNeg)), .inr (22, 1, 0, 570)]) (st' := []) rfl rfl rfl (Nat.le_of_ble_eq_true rfl) trivial rfl (Nat.le_of_ble_eq_true rfl) (t_20_1 (xs.2 ((x4 + (1 : Int32))).toNatClampNeg) (xs.2 ((x4 + (2 : Int32))).toNatClampNeg) P) (fun v61 P60 => ?_)
        refine tr_gd (fun h62 => ?_)
        refine tr_gd (fun h63 => ?_)
        refine tr_blk 12 (pc' := 651) (rows' := kb_0_619.drop 25) (loc' := [.inr (31, xs.1, 0, 0), .inr (11, 0, 0, 0), .inr (12, 0, 0, 72), .inr (22, 1, 0, 570), .inl (.int x4), .inl (.int v61), d6, ab_top]) (st' := [.inl (.int (xs.2 ((x4 + (2 : Int32))).toNatClampNeg)), .inl (.int (xs.2 ((x4 + (1 : Int32))).toNatClampNeg)), .inr (12, 0, 0, 72)]) (P1 := P60) rfl ⟨trivial, trivial, trivial, trivial, trivial, trivial, ⟨h62, rfl⟩, trivial, trivial, trivial, trivial, ⟨h63, rfl⟩, trivial⟩ ?_
        refine tr_cWI (z := km_21) (av := [.inr (12, 0, 0, 72), .inl (.int (xs.2 ((x4 + (1 : Int32))).toNatClampNeg)), .inl (.int (xs.2 ((x4 + (2 : Int32))).toNatClampNeg))]) (st' := []) rfl rfl rfl (Nat.le_of_ble_eq_true rfl) ⟨rfl, Or.inl (by decide)⟩ rfl (Nat.le_of_ble_eq_true rfl) (t_21 (xs.2 ((x4 + (1 : Int32))).toNatClampNeg) (xs.2 ((x4 + (2 : Int32))).toNatClampNeg) P60) (fun v65 P64 => ?_)
        refine tr_blk 2 (pc' := 657) (rows' := kb_0_619.drop 28) (loc' := [.inr (31, xs.1, 0, 0), .inr (11, 0, 0, 0), .inr (12, 0, 0, 72), .inr (22, 1, 0, 570), .inl (.int x4), .inl (.int v61), .inl (.int v65), ab_top]) (st' := [.inr (12, 0, 0, 72)]) (P1 := P64) rfl ⟨trivial, trivial, trivial⟩ ?_
        refine tr_cRI (z := km_7) (av := [.inr (12, 0, 0, 72)]) (st' := []) rfl rfl rfl (Nat.le_of_ble_eq_true rfl) ⟨rfl, Or.inl (by decide)⟩ rfl (Nat.le_of_ble_eq_true rfl) (t_7 P64) (fun v66 => ?_)
        refine tr_blk 1 (pc' := 662) (rows' := kb_0_619.drop 30) (loc' := [.inr (31, xs.1, 0, 0), .inr (11, 0, 0, 0), .inr (12, 0, 0, 72), .inr (22, 1, 0, 570), .inl (.int x4), .inl (.int v61), .inl (.int v65), ab_top]) (st' := [.inl (.int v61), .inl (.int v66)]) (P1 := P64) rfl ⟨trivial, trivial⟩ ?_
        refine tr_if (fun h378 => ?_) (fun h378 => ?_)
        · refine tr_icT (cd := .eq) h378 ?_
          refine tr_nil (rows2 := kb_0_667) rfl (List.cons_ne_nil _ _) ?_
          refine tr_blk 1 (pc' := 669) (rows' := kb_0_667.drop 1) (loc' := [.inr (31, xs.1, 0, 0), .inr (11, 0, 0, 0), .inr (12, 0, 0, 72), .inr (22, 1, 0, 570), .inl (.int x4), .inl (.int v61), .inl (.int v65), ab_top]) (st' := [.inl (.int v61)]) (P1 := P64) rfl ⟨trivial, trivial⟩ ?_
          refine tr_if (fun h379 => ?_) (fun h379 => ?_)
          · refine tr_ifF (cd := .ne) (fun q => q h379) ?_
            refine tr_blk 6 (pc' := 679) (rows' := kb_0_667.drop 8) (loc' := [.inr (31, xs.1, 0, 0), .inr (11, 0, 0, 0), .inr (12, 0, 0, 72), .inr (22, 1, 0, 570), .inl (.int x4), .inl (.int v61), .inl (.int v65), ab_top]) (st' := [.inl (.int (lg_cmp (P64.2.1 570 0) (v65).toInt64))]) (P1 := P64) rfl ⟨trivial, trivial, (ab_vi (by decide)), trivial, trivial, trivial, trivial⟩ ?_
            refine tr_if (fun h380 => ?_) (fun h380 => ?_)
            · refine tr_ifT (cd := .eq) h380 ?_
              refine tr_nil (rows2 := kb_0_684) rfl (List.cons_ne_nil _ _) ?_
              refine tr_goto ?_
              refine tr_nil (rows2 := kb_0_2660) rfl (List.cons_ne_nil _ _) ?_
              refine tr_blk 1 (pc' := 2663) (rows' := kb_0_2660.drop 1) (loc' := [.inr (31, xs.1, 0, 0), .inr (11, 0, 0, 0), .inr (12, 0, 0, 72), .inr (22, 1, 0, 570), .inl (.int (x4 + 8)), .inl (.int v61), .inl (.int v65), ab_top]) (st' := []) (P1 := P64) rfl ⟨trivial, trivial⟩ ?_
              refine tr_goto ?_
              exact ih (x4 + 8) (.inl (.int v61)) (.inl (.int v65)) P64
            · refine tr_ifF (cd := .eq) h380 ?_
              refine tr_blk 1 (pc' := 683) (rows' := kb_0_667.drop 10) (loc' := [.inr (31, xs.1, 0, 0), .inr (11, 0, 0, 0), .inr (12, 0, 0, 72), .inr (22, 1, 0, 570), .inl (.int x4), .inl (.int v61), .inl (.int v65), ab_top]) (st' := [.inl (.int (0 : Int32))]) (P1 := P64) rfl ⟨trivial, trivial⟩ ?_
              exact tr_reI (z := km_0) rfl ⟨_, rfl, rfl⟩ rfl
          · refine tr_ifT (cd := .ne) h379 ?_
            refine tr_nil (rows2 := kb_0_684) rfl (List.cons_ne_nil _ _) ?_
            refine tr_goto ?_
            refine tr_nil (rows2 := kb_0_2660) rfl (List.cons_ne_nil _ _) ?_
            refine tr_blk 1 (pc' := 2663) (rows' := kb_0_2660.drop 1) (loc' := [.inr (31, xs.1, 0, 0), .inr (11, 0, 0, 0), .inr (12, 0, 0, 72), .inr (22, 1, 0, 570), .inl (.int (x4 + 8)), .inl (.int v61), .inl (.int v65), ab_top]) (st' := []) (P1 := P64) rfl ⟨trivial, trivial⟩ ?_
            refine tr_goto ?_
            exact ih (x4 + 8) (.inl (.int v61)) (.inl (.int v65)) P64
        · refine tr_icF (cd := .eq) h378 ?_
          refine tr_blk 1 (pc' := 666) (rows' := kb_0_619.drop 32) (loc' := [.inr (31, xs.1, 0, 0), .inr (11, 0, 0, 0), .inr (12, 0, 0, 72), .inr (22, 1, 0, 570), .inl (.int x4), .inl (.int v61), .inl (.int v65), ab_top]) (st' := [.inl (.int (0 : Int32))]) (P1 := P64) rfl ⟨trivial, trivial⟩ ?_
          exact tr_reI (z := km_0) rfl ⟨_, rfl, rfl⟩ rfl
      refine tr_if (fun h381 => ?_) (fun h381 => ?_)
      · refine tr_sw (t := 687) (by rw [h381]; rfl) ?_
        refine tr_nil (rows2 := kb_0_687) rfl (List.cons_ne_nil _ _) ?_
        refine tr_gd (fun h67 => ?_)
        refine tr_gd (fun h68 => ?_)
        refine tr_blk 12 (pc' := 701) (rows' := kb_0_687.drop 12) (loc' := [.inr (31, xs.1, 0, 0), .inr (11, 0, 0, 0), .inr (12, 0, 0, 72), .inr (22, 1, 0, 570), .inl (.int x4), d5, d6, ab_top]) (st' := [.inr (22, 1, 0, 570), .inl (.int (xs.2 ((x4 + (2 : Int32))).toNatClampNeg)), .inl (.int (xs.2 ((x4 + (1 : Int32))).toNatClampNeg)), .inr (11, 0, 0, 0)]) (P1 := P) rfl ⟨trivial, trivial, trivial, trivial, trivial, ⟨h67, rfl⟩, trivial, trivial, trivial, trivial, ⟨h68, rfl⟩, trivial, trivial⟩ ?_
        refine tr_cWI (z := km_22) (av := [.inr (11, 0, 0, 0), .inl (.int (xs.2 ((x4 + (1 : Int32))).toNatClampNeg)), .inl (.int (xs.2 ((x4 + (2 : Int32))).toNatClampNeg)), .inr (22, 1, 0, 570)]) (st' := []) rfl rfl rfl (Nat.le_of_ble_eq_true rfl) trivial rfl (Nat.le_of_ble_eq_true rfl) (t_22_1 N (xs.2 ((x4 + (1 : Int32))).toNatClampNeg) (xs.2 ((x4 + (2 : Int32))).toNatClampNeg) P) (fun v70 P69 => ?_)
        refine tr_gd (fun h71 => ?_)
        refine tr_gd (fun h72 => ?_)
        refine tr_blk 12 (pc' := 719) (rows' := kb_0_687.drop 25) (loc' := [.inr (31, xs.1, 0, 0), .inr (11, 0, 0, 0), .inr (12, 0, 0, 72), .inr (22, 1, 0, 570), .inl (.int x4), .inl (.int v70), d6, ab_top]) (st' := [.inl (.int (xs.2 ((x4 + (2 : Int32))).toNatClampNeg)), .inl (.int (xs.2 ((x4 + (1 : Int32))).toNatClampNeg)), .inr (12, 0, 0, 72)]) (P1 := P69) rfl ⟨trivial, trivial, trivial, trivial, trivial, trivial, ⟨h71, rfl⟩, trivial, trivial, trivial, trivial, ⟨h72, rfl⟩, trivial⟩ ?_
        refine tr_cWI (z := km_23) (av := [.inr (12, 0, 0, 72), .inl (.int (xs.2 ((x4 + (1 : Int32))).toNatClampNeg)), .inl (.int (xs.2 ((x4 + (2 : Int32))).toNatClampNeg))]) (st' := []) rfl rfl rfl (Nat.le_of_ble_eq_true rfl) ⟨rfl, Or.inl (by decide)⟩ rfl (Nat.le_of_ble_eq_true rfl) (t_23 N (xs.2 ((x4 + (1 : Int32))).toNatClampNeg) (xs.2 ((x4 + (2 : Int32))).toNatClampNeg) P69) (fun v74 P73 => ?_)
        refine tr_blk 2 (pc' := 725) (rows' := kb_0_687.drop 28) (loc' := [.inr (31, xs.1, 0, 0), .inr (11, 0, 0, 0), .inr (12, 0, 0, 72), .inr (22, 1, 0, 570), .inl (.int x4), .inl (.int v70), .inl (.int v74), ab_top]) (st' := [.inr (12, 0, 0, 72)]) (P1 := P73) rfl ⟨trivial, trivial, trivial⟩ ?_
        refine tr_cRI (z := km_7) (av := [.inr (12, 0, 0, 72)]) (st' := []) rfl rfl rfl (Nat.le_of_ble_eq_true rfl) ⟨rfl, Or.inl (by decide)⟩ rfl (Nat.le_of_ble_eq_true rfl) (t_7 P73) (fun v75 => ?_)
        refine tr_blk 1 (pc' := 730) (rows' := kb_0_687.drop 30) (loc' := [.inr (31, xs.1, 0, 0), .inr (11, 0, 0, 0), .inr (12, 0, 0, 72), .inr (22, 1, 0, 570), .inl (.int x4), .inl (.int v70), .inl (.int v74), ab_top]) (st' := [.inl (.int v70), .inl (.int v75)]) (P1 := P73) rfl ⟨trivial, trivial⟩ ?_
        refine tr_if (fun h382 => ?_) (fun h382 => ?_)
        · refine tr_icT (cd := .eq) h382 ?_
          refine tr_nil (rows2 := kb_0_735) rfl (List.cons_ne_nil _ _) ?_
          refine tr_blk 1 (pc' := 737) (rows' := kb_0_735.drop 1) (loc' := [.inr (31, xs.1, 0, 0), .inr (11, 0, 0, 0), .inr (12, 0, 0, 72), .inr (22, 1, 0, 570), .inl (.int x4), .inl (.int v70), .inl (.int v74), ab_top]) (st' := [.inl (.int v70)]) (P1 := P73) rfl ⟨trivial, trivial⟩ ?_
          refine tr_if (fun h383 => ?_) (fun h383 => ?_)
          · refine tr_ifF (cd := .ne) (fun q => q h383) ?_
            refine tr_blk 6 (pc' := 747) (rows' := kb_0_735.drop 8) (loc' := [.inr (31, xs.1, 0, 0), .inr (11, 0, 0, 0), .inr (12, 0, 0, 72), .inr (22, 1, 0, 570), .inl (.int x4), .inl (.int v70), .inl (.int v74), ab_top]) (st' := [.inl (.int (lg_cmp (P73.2.1 570 0) (v74).toInt64))]) (P1 := P73) rfl ⟨trivial, trivial, (ab_vi (by decide)), trivial, trivial, trivial, trivial⟩ ?_
            refine tr_if (fun h384 => ?_) (fun h384 => ?_)
            · refine tr_ifT (cd := .eq) h384 ?_
              refine tr_nil (rows2 := kb_0_752) rfl (List.cons_ne_nil _ _) ?_
              refine tr_goto ?_
              refine tr_nil (rows2 := kb_0_2660) rfl (List.cons_ne_nil _ _) ?_
              refine tr_blk 1 (pc' := 2663) (rows' := kb_0_2660.drop 1) (loc' := [.inr (31, xs.1, 0, 0), .inr (11, 0, 0, 0), .inr (12, 0, 0, 72), .inr (22, 1, 0, 570), .inl (.int (x4 + 8)), .inl (.int v70), .inl (.int v74), ab_top]) (st' := []) (P1 := P73) rfl ⟨trivial, trivial⟩ ?_
              refine tr_goto ?_
              exact ih (x4 + 8) (.inl (.int v70)) (.inl (.int v74)) P73
            · refine tr_ifF (cd := .eq) h384 ?_
              refine tr_blk 1 (pc' := 751) (rows' := kb_0_735.drop 10) (loc' := [.inr (31, xs.1, 0, 0), .inr (11, 0, 0, 0), .inr (12, 0, 0, 72), .inr (22, 1, 0, 570), .inl (.int x4), .inl (.int v70), .inl (.int v74), ab_top]) (st' := [.inl (.int (0 : Int32))]) (P1 := P73) rfl ⟨trivial, trivial⟩ ?_
              exact tr_reI (z := km_0) rfl ⟨_, rfl, rfl⟩ rfl
          · refine tr_ifT (cd := .ne) h383 ?_
            refine tr_nil (rows2 := kb_0_752) rfl (List.cons_ne_nil _ _) ?_
            refine tr_goto ?_
            refine tr_nil (rows2 := kb_0_2660) rfl (List.cons_ne_nil _ _) ?_
            refine tr_blk 1 (pc' := 2663) (rows' := kb_0_2660.drop 1) (loc' := [.inr (31, xs.1, 0, 0), .inr (11, 0, 0, 0), .inr (12, 0, 0, 72), .inr (22, 1, 0, 570), .inl (.int (x4 + 8)), .inl (.int v70), .inl (.int v74), ab_top]) (st' := []) (P1 := P73) rfl ⟨trivial, trivial⟩ ?_
            refine tr_goto ?_
            exact ih (x4 + 8) (.inl (.int v70)) (.inl (.int v74)) P73
        · refine tr_icF (cd := .eq) h382 ?_
          refine tr_blk 1 (pc' := 734) (rows' := kb_0_687.drop 32) (loc' := [.inr (31, xs.1, 0, 0), .inr (11, 0, 0, 0), .inr (12, 0, 0, 72), .inr (22, 1, 0, 570), .inl (.int x4), .inl (.int v70), .inl (.int v74), ab_top]) (st' := [.inl (.int (0 : Int32))]) (P1 := P73) rfl ⟨trivial, trivial⟩ ?_
          exact tr_reI (z := km_0) rfl ⟨_, rfl, rfl⟩ rfl
      refine tr_if (fun h385 => ?_) (fun h385 => ?_)
      · refine tr_sw (t := 755) (by rw [h385]; rfl) ?_
        refine tr_nil (rows2 := kb_0_755) rfl (List.cons_ne_nil _ _) ?_
        refine tr_gd (fun h76 => ?_)
        refine tr_gd (fun h77 => ?_)
        refine tr_blk 12 (pc' := 769) (rows' := kb_0_755.drop 12) (loc' := [.inr (31, xs.1, 0, 0), .inr (11, 0, 0, 0), .inr (12, 0, 0, 72), .inr (22, 1, 0, 570), .inl (.int x4), d5, d6, ab_top]) (st' := [.inr (22, 1, 0, 570), .inl (.int (xs.2 ((x4 + (2 : Int32))).toNatClampNeg)), .inl (.int (xs.2 ((x4 + (1 : Int32))).toNatClampNeg)), .inr (11, 0, 0, 0)]) (P1 := P) rfl ⟨trivial, trivial, trivial, trivial, trivial, ⟨h76, rfl⟩, trivial, trivial, trivial, trivial, ⟨h77, rfl⟩, trivial, trivial⟩ ?_
        refine tr_cWI (z := km_24) (av := [.inr (11, 0, 0, 0), .inl (.int (xs.2 ((x4 + (1 : Int32))).toNatClampNeg)), .inl (.int (xs.2 ((x4 + (2 : Int32))).toNatClampNeg)), .inr (22, 1, 0, 570)]) (st' := []) rfl rfl rfl (Nat.le_of_ble_eq_true rfl) trivial rfl (Nat.le_of_ble_eq_true rfl) (t_24_1 N (xs.2 ((x4 + (1 : Int32))).toNatClampNeg) (xs.2 ((x4 + (2 : Int32))).toNatClampNeg) P) (fun v79 P78 => ?_)
        refine tr_gd (fun h80 => ?_)
        refine tr_gd (fun h81 => ?_)
        refine tr_blk 12 (pc' := 787) (rows' := kb_0_755.drop 25) (loc' := [.inr (31, xs.1, 0, 0), .inr (11, 0, 0, 0), .inr (12, 0, 0, 72), .inr (22, 1, 0, 570), .inl (.int x4), .inl (.int v79), d6, ab_top]) (st' := [.inl (.int (xs.2 ((x4 + (2 : Int32))).toNatClampNeg)), .inl (.int (xs.2 ((x4 + (1 : Int32))).toNatClampNeg)), .inr (12, 0, 0, 72)]) (P1 := P78) rfl ⟨trivial, trivial, trivial, trivial, trivial, trivial, ⟨h80, rfl⟩, trivial, trivial, trivial, trivial, ⟨h81, rfl⟩, trivial⟩ ?_
        refine tr_cWI (z := km_25) (av := [.inr (12, 0, 0, 72), .inl (.int (xs.2 ((x4 + (1 : Int32))).toNatClampNeg)), .inl (.int (xs.2 ((x4 + (2 : Int32))).toNatClampNeg))]) (st' := []) rfl rfl rfl (Nat.le_of_ble_eq_true rfl) ⟨rfl, Or.inl (by decide)⟩ rfl (Nat.le_of_ble_eq_true rfl) (t_25 N (xs.2 ((x4 + (1 : Int32))).toNatClampNeg) (xs.2 ((x4 + (2 : Int32))).toNatClampNeg) P78) (fun v83 P82 => ?_)
        refine tr_blk 2 (pc' := 793) (rows' := kb_0_755.drop 28) (loc' := [.inr (31, xs.1, 0, 0), .inr (11, 0, 0, 0), .inr (12, 0, 0, 72), .inr (22, 1, 0, 570), .inl (.int x4), .inl (.int v79), .inl (.int v83), ab_top]) (st' := [.inr (12, 0, 0, 72)]) (P1 := P82) rfl ⟨trivial, trivial, trivial⟩ ?_
        refine tr_cRI (z := km_7) (av := [.inr (12, 0, 0, 72)]) (st' := []) rfl rfl rfl (Nat.le_of_ble_eq_true rfl) ⟨rfl, Or.inl (by decide)⟩ rfl (Nat.le_of_ble_eq_true rfl) (t_7 P82) (fun v84 => ?_)
        refine tr_blk 1 (pc' := 798) (rows' := kb_0_755.drop 30) (loc' := [.inr (31, xs.1, 0, 0), .inr (11, 0, 0, 0), .inr (12, 0, 0, 72), .inr (22, 1, 0, 570), .inl (.int x4), .inl (.int v79), .inl (.int v83), ab_top]) (st' := [.inl (.int v79), .inl (.int v84)]) (P1 := P82) rfl ⟨trivial, trivial⟩ ?_
        refine tr_if (fun h386 => ?_) (fun h386 => ?_)
        · refine tr_icT (cd := .eq) h386 ?_
          refine tr_nil (rows2 := kb_0_803) rfl (List.cons_ne_nil _ _) ?_
          refine tr_blk 1 (pc' := 805) (rows' := kb_0_803.drop 1) (loc' := [.inr (31, xs.1, 0, 0), .inr (11, 0, 0, 0), .inr (12, 0, 0, 72), .inr (22, 1, 0, 570), .inl (.int x4), .inl (.int v79), .inl (.int v83), ab_top]) (st' := [.inl (.int v79)]) (P1 := P82) rfl ⟨trivial, trivial⟩ ?_
          refine tr_if (fun h387 => ?_) (fun h387 => ?_)
          · refine tr_ifF (cd := .ne) (fun q => q h387) ?_
            refine tr_blk 6 (pc' := 815) (rows' := kb_0_803.drop 8) (loc' := [.inr (31, xs.1, 0, 0), .inr (11, 0, 0, 0), .inr (12, 0, 0, 72), .inr (22, 1, 0, 570), .inl (.int x4), .inl (.int v79), .inl (.int v83), ab_top]) (st' := [.inl (.int (lg_cmp (P82.2.1 570 0) (v83).toInt64))]) (P1 := P82) rfl ⟨trivial, trivial, (ab_vi (by decide)), trivial, trivial, trivial, trivial⟩ ?_
            refine tr_if (fun h388 => ?_) (fun h388 => ?_)
            · refine tr_ifT (cd := .eq) h388 ?_
              refine tr_nil (rows2 := kb_0_820) rfl (List.cons_ne_nil _ _) ?_
              refine tr_goto ?_
              refine tr_nil (rows2 := kb_0_2660) rfl (List.cons_ne_nil _ _) ?_
              refine tr_blk 1 (pc' := 2663) (rows' := kb_0_2660.drop 1) (loc' := [.inr (31, xs.1, 0, 0), .inr (11, 0, 0, 0), .inr (12, 0, 0, 72), .inr (22, 1, 0, 570), .inl (.int (x4 + 8)), .inl (.int v79), .inl (.int v83), ab_top]) (st' := []) (P1 := P82) rfl ⟨trivial, trivial⟩ ?_
              refine tr_goto ?_
              exact ih (x4 + 8) (.inl (.int v79)) (.inl (.int v83)) P82
            · refine tr_ifF (cd := .eq) h388 ?_
              refine tr_blk 1 (pc' := 819) (rows' := kb_0_803.drop 10) (loc' := [.inr (31, xs.1, 0, 0), .inr (11, 0, 0, 0), .inr (12, 0, 0, 72), .inr (22, 1, 0, 570), .inl (.int x4), .inl (.int v79), .inl (.int v83), ab_top]) (st' := [.inl (.int (0 : Int32))]) (P1 := P82) rfl ⟨trivial, trivial⟩ ?_
              exact tr_reI (z := km_0) rfl ⟨_, rfl, rfl⟩ rfl
          · refine tr_ifT (cd := .ne) h387 ?_
            refine tr_nil (rows2 := kb_0_820) rfl (List.cons_ne_nil _ _) ?_
            refine tr_goto ?_
            refine tr_nil (rows2 := kb_0_2660) rfl (List.cons_ne_nil _ _) ?_
            refine tr_blk 1 (pc' := 2663) (rows' := kb_0_2660.drop 1) (loc' := [.inr (31, xs.1, 0, 0), .inr (11, 0, 0, 0), .inr (12, 0, 0, 72), .inr (22, 1, 0, 570), .inl (.int (x4 + 8)), .inl (.int v79), .inl (.int v83), ab_top]) (st' := []) (P1 := P82) rfl ⟨trivial, trivial⟩ ?_
            refine tr_goto ?_
            exact ih (x4 + 8) (.inl (.int v79)) (.inl (.int v83)) P82
        · refine tr_icF (cd := .eq) h386 ?_
          refine tr_blk 1 (pc' := 802) (rows' := kb_0_755.drop 32) (loc' := [.inr (31, xs.1, 0, 0), .inr (11, 0, 0, 0), .inr (12, 0, 0, 72), .inr (22, 1, 0, 570), .inl (.int x4), .inl (.int v79), .inl (.int v83), ab_top]) (st' := [.inl (.int (0 : Int32))]) (P1 := P82) rfl ⟨trivial, trivial⟩ ?_
          exact tr_reI (z := km_0) rfl ⟨_, rfl, rfl⟩ rfl
      refine tr_if (fun h389 => ?_) (fun h389 => ?_)
      · refine tr_sw (t := 823) (by rw [h389]; rfl) ?_
        refine tr_nil (rows2 := kb_0_823) rfl (List.cons_ne_nil _ _) ?_
        refine tr_gd (fun h85 => ?_)
        refine tr_blk 7 (pc' := 831) (rows' := kb_0_823.drop 7) (loc' := [.inr (31, xs.1, 0, 0), .inr (11, 0, 0, 0), .inr (12, 0, 0, 72), .inr (22, 1, 0, 570), .inl (.int x4), d5, d6, ab_top]) (st' := [.inr (22, 1, 0, 570), .inl (.int (xs.2 ((x4 + (1 : Int32))).toNatClampNeg)), .inr (11, 0, 0, 0)]) (P1 := P) rfl ⟨trivial, trivial, trivial, trivial, trivial, ⟨h85, rfl⟩, trivial, trivial⟩ ?_
        refine tr_cWI (z := km_26) (av := [.inr (11, 0, 0, 0), .inl (.int (xs.2 ((x4 + (1 : Int32))).toNatClampNeg)), .inr (22, 1, 0, 570)]) (st' := []) rfl rfl rfl (Nat.le_of_ble_eq_true rfl) trivial rfl (Nat.le_of_ble_eq_true rfl) (t_26_1 N (xs.2 ((x4 + (1 : Int32))).toNatClampNeg) P) (fun v87 P86 => ?_)
        refine tr_gd (fun h88 => ?_)
        refine tr_blk 7 (pc' := 843) (rows' := kb_0_823.drop 15) (loc' := [.inr (31, xs.1, 0, 0), .inr (11, 0, 0, 0), .inr (12, 0, 0, 72), .inr (22, 1, 0, 570), .inl (.int x4), .inl (.int v87), d6, ab_top]) (st' := [.inl (.int (xs.2 ((x4 + (1 : Int32))).toNatClampNeg)), .inr (12, 0, 0, 72)]) (P1 := P86) rfl ⟨trivial, trivial, trivial, trivial, trivial, trivial, ⟨h88, rfl⟩, trivial⟩ ?_
        refine tr_cWI (z := km_27) (av := [.inr (12, 0, 0, 72), .inl (.int (xs.2 ((x4 + (1 : Int32))).toNatClampNeg))]) (st' := []) rfl rfl rfl (Nat.le_of_ble_eq_true rfl) ⟨rfl, Or.inl (by decide)⟩ rfl (Nat.le_of_ble_eq_true rfl) (t_27 N (xs.2 ((x4 + (1 : Int32))).toNatClampNeg) P86) (fun v90 P89 => ?_)
        refine tr_blk 2 (pc' := 849) (rows' := kb_0_823.drop 18) (loc' := [.inr (31, xs.1, 0, 0), .inr (11, 0, 0, 0), .inr (12, 0, 0, 72), .inr (22, 1, 0, 570), .inl (.int x4), .inl (.int v87), .inl (.int v90), ab_top]) (st' := [.inr (12, 0, 0, 72)]) (P1 := P89) rfl ⟨trivial, trivial, trivial⟩ ?_
        refine tr_cRI (z := km_7) (av := [.inr (12, 0, 0, 72)]) (st' := []) rfl rfl rfl (Nat.le_of_ble_eq_true rfl) ⟨rfl, Or.inl (by decide)⟩ rfl (Nat.le_of_ble_eq_true rfl) (t_7 P89) (fun v91 => ?_)
        refine tr_blk 1 (pc' := 854) (rows' := kb_0_823.drop 20) (loc' := [.inr (31, xs.1, 0, 0), .inr (11, 0, 0, 0), .inr (12, 0, 0, 72), .inr (22, 1, 0, 570), .inl (.int x4), .inl (.int v87), .inl (.int v90), ab_top]) (st' := [.inl (.int v87), .inl (.int v91)]) (P1 := P89) rfl ⟨trivial, trivial⟩ ?_
        refine tr_if (fun h390 => ?_) (fun h390 => ?_)
        · refine tr_icT (cd := .eq) h390 ?_
          refine tr_nil (rows2 := kb_0_859) rfl (List.cons_ne_nil _ _) ?_
          refine tr_blk 1 (pc' := 861) (rows' := kb_0_859.drop 1) (loc' := [.inr (31, xs.1, 0, 0), .inr (11, 0, 0, 0), .inr (12, 0, 0, 72), .inr (22, 1, 0, 570), .inl (.int x4), .inl (.int v87), .inl (.int v90), ab_top]) (st' := [.inl (.int v87)]) (P1 := P89) rfl ⟨trivial, trivial⟩ ?_
          refine tr_if (fun h391 => ?_) (fun h391 => ?_)
          · refine tr_ifF (cd := .ne) (fun q => q h391) ?_
            refine tr_blk 6 (pc' := 871) (rows' := kb_0_859.drop 8) (loc' := [.inr (31, xs.1, 0, 0), .inr (11, 0, 0, 0), .inr (12, 0, 0, 72), .inr (22, 1, 0, 570), .inl (.int x4), .inl (.int v87), .inl (.int v90), ab_top]) (st' := [.inl (.int (lg_cmp (P89.2.1 570 0) (v90).toInt64))]) (P1 := P89) rfl ⟨trivial, trivial, (ab_vi (by decide)), trivial, trivial, trivial, trivial⟩ ?_
            refine tr_if (fun h392 => ?_) (fun h392 => ?_)
            · refine tr_ifT (cd := .eq) h392 ?_
              refine tr_nil (rows2 := kb_0_876) rfl (List.cons_ne_nil _ _) ?_
              refine tr_goto ?_
              refine tr_nil (rows2 := kb_0_2660) rfl (List.cons_ne_nil _ _) ?_
              refine tr_blk 1 (pc' := 2663) (rows' := kb_0_2660.drop 1) (loc' := [.inr (31, xs.1, 0, 0), .inr (11, 0, 0, 0), .inr (12, 0, 0, 72), .inr (22, 1, 0, 570), .inl (.int (x4 + 8)), .inl (.int v87), .inl (.int v90), ab_top]) (st' := []) (P1 := P89) rfl ⟨trivial, trivial⟩ ?_
              refine tr_goto ?_
              exact ih (x4 + 8) (.inl (.int v87)) (.inl (.int v90)) P89
            · refine tr_ifF (cd := .eq) h392 ?_
              refine tr_blk 1 (pc' := 875) (rows' := kb_0_859.drop 10) (loc' := [.inr (31, xs.1, 0, 0), .inr (11, 0, 0, 0), .inr (12, 0, 0, 72), .inr (22, 1, 0, 570), .inl (.int x4), .inl (.int v87), .inl (.int v90), ab_top]) (st' := [.inl (.int (0 : Int32))]) (P1 := P89) rfl ⟨trivial, trivial⟩ ?_
              exact tr_reI (z := km_0) rfl ⟨_, rfl, rfl⟩ rfl
          · refine tr_ifT (cd := .ne) h391 ?_
            refine tr_nil (rows2 := kb_0_876) rfl (List.cons_ne_nil _ _) ?_
            refine tr_goto ?_
            refine tr_nil (rows2 := kb_0_2660) rfl (List.cons_ne_nil _ _) ?_
            refine tr_blk 1 (pc' := 2663) (rows' := kb_0_2660.drop 1) (loc' := [.inr (31, xs.1, 0, 0), .inr (11, 0, 0, 0), .inr (12, 0, 0, 72), .inr (22, 1, 0, 570), .inl (.int (x4 + 8)), .inl (.int v87), .inl (.int v90), ab_top]) (st' := []) (P1 := P89) rfl ⟨trivial, trivial⟩ ?_
            refine tr_goto ?_
            exact ih (x4 + 8) (.inl (.int v87)) (.inl (.int v90)) P89
        · refine tr_icF (cd := .eq) h390 ?_
          refine tr_blk 1 (pc' := 858) (rows' := kb_0_823.drop 22) (loc' := [.inr (31, xs.1, 0, 0), .inr (11, 0, 0, 0), .inr (12, 0, 0, 72), .inr (22, 1, 0, 570), .inl (.int x4), .inl (.int v87), .inl (.int v90), ab_top]) (st' := [.inl (.int (0 : Int32))]) (P1 := P89) rfl ⟨trivial, trivial⟩ ?_
          exact tr_reI (z := km_0) rfl ⟨_, rfl, rfl⟩ rfl
      refine tr_if (fun h393 => ?_) (fun h393 => ?_)
      · refine tr_sw (t := 879) (by rw [h393]; rfl) ?_
        refine tr_nil (rows2 := kb_0_879) rfl (List.cons_ne_nil _ _) ?_
        refine tr_gd (fun h92 => ?_)
        refine tr_gd (fun h93 => ?_)
        refine tr_blk 12 (pc' := 893) (rows' := kb_0_879.drop 12) (loc' := [.inr (31, xs.1, 0, 0), .inr (11, 0, 0, 0), .inr (12, 0, 0, 72), .inr (22, 1, 0, 570), .inl (.int x4), d5, d6, ab_top]) (st' := [.inr (22, 1, 0, 570), .inl (.int (xs.2 ((x4 + (2 : Int32))).toNatClampNeg)), .inl (.int (xs.2 ((x4 + (1 : Int32))).toNatClampNeg)), .inr (11, 0, 0, 0)]) (P1 := P) rfl ⟨trivial, trivial, trivial, trivial, trivial, ⟨h92, rfl⟩, trivial, trivial, trivial, trivial, ⟨h93, rfl⟩, trivial, trivial⟩ ?_
        refine tr_cWI (z := km_28) (av := [.inr (11, 0, 0, 0), .inl (.int (xs.2 ((x4 + (1 : Int32))).toNatClampNeg)), .inl (.int (xs.2 ((x4 + (2 : Int32))).toNatClampNeg)), .inr (22, 1, 0, 570)]) (st' := []) rfl rfl rfl (Nat.le_of_ble_eq_true rfl) trivial rfl (Nat.le_of_ble_eq_true rfl) (t_28_1 N (xs.2 ((x4 + (1 : Int32))).toNatClampNeg) (xs.2 ((x4 + (2 : Int32))).toNatClampNeg) P) (fun v95 P94 => ?_)
        refine tr_gd (fun h96 => ?_)
        refine tr_gd (fun h97 => ?_)
        refine tr_blk 12 (pc' := 911) (rows' := kb_0_879.drop 25) (loc' := [.inr (31, xs.1, 0, 0), .inr (11, 0, 0, 0), .inr (12, 0, 0, 72), .inr (22, 1, 0, 570), .inl (.int x4), .inl (.int v95), d6, ab_top]) (st' := [.inl (.int (xs.2 ((x4 + (2 : Int32))).toNatClampNeg)), .inl (.int (xs.2 ((x4 + (1 : Int32))).toNatClampNeg)), .inr (12, 0, 0, 72)]) (P1 := P94) rfl ⟨trivial, trivial, trivial, trivial, trivial, trivial, ⟨h96, rfl⟩, trivial, trivial, trivial, trivial, ⟨h97, rfl⟩, trivial⟩ ?_
        refine tr_cWI (z := km_29) (av := [.inr (12, 0, 0, 72), .inl (.int (xs.2 ((x4 + (1 : Int32))).toNatClampNeg)), .inl (.int (xs.2 ((x4 + (2 : Int32))).toNatClampNeg))]) (st' := []) rfl rfl rfl (Nat.le_of_ble_eq_true rfl) ⟨rfl, Or.inl (by decide)⟩ rfl (Nat.le_of_ble_eq_true rfl) (t_29 N (xs.2 ((x4 + (1 : Int32))).toNatClampNeg) (xs.2 ((x4 + (2 : Int32))).toNatClampNeg) P94) (fun v99 P98 => ?_)
        refine tr_blk 2 (pc' := 917) (rows' := kb_0_879.drop 28) (loc' := [.inr (31, xs.1, 0, 0), .inr (11, 0, 0, 0), .inr (12, 0, 0, 72), .inr (22, 1, 0, 570), .inl (.int x4), .inl (.int v95), .inl (.int v99), ab_top]) (st' := [.inr (12, 0, 0, 72)]) (P1 := P98) rfl ⟨trivial, trivial, trivial⟩ ?_
        refine tr_cRI (z := km_7) (av := [.inr (12, 0, 0, 72)]) (st' := []) rfl rfl rfl (Nat.le_of_ble_eq_true rfl) ⟨rfl, Or.inl (by decide)⟩ rfl (Nat.le_of_ble_eq_true rfl) (t_7 P98) (fun v100 => ?_)
        refine tr_blk 1 (pc' := 922) (rows' := kb_0_879.drop 30) (loc' := [.inr (31, xs.1, 0, 0), .inr (11, 0, 0, 0), .inr (12, 0, 0, 72), .inr (22, 1, 0, 570), .inl (.int x4), .inl (.int v95), .inl (.int v99), ab_top]) (st' := [.inl (.int v95), .inl (.int v100)]) (P1 := P98) rfl ⟨trivial, trivial⟩ ?_
        refine tr_if (fun h394 => ?_) (fun h394 => ?_)
        · refine tr_icT (cd := .eq) h394 ?_
          refine tr_nil (rows2 := kb_0_927) rfl (List.cons_ne_nil _ _) ?_
          refine tr_blk 1 (pc' := 929) (rows' := kb_0_927.drop 1) (loc' := [.inr (31, xs.1, 0, 0), .inr (11, 0, 0, 0), .inr (12, 0, 0, 72), .inr (22, 1, 0, 570), .inl (.int x4), .inl (.int v95), .inl (.int v99), ab_top]) (st' := [.inl (.int v95)]) (P1 := P98) rfl ⟨trivial, trivial⟩ ?_
          refine tr_if (fun h395 => ?_) (fun h395 => ?_)
          · refine tr_ifF (cd := .ne) (fun q => q h395) ?_
            refine tr_blk 6 (pc' := 939) (rows' := kb_0_927.drop 8) (loc' := [.inr (31, xs.1, 0, 0), .inr (11, 0, 0, 0), .inr (12, 0, 0, 72), .inr (22, 1, 0, 570), .inl (.int x4), .inl (.int v95), .inl (.int v99), ab_top]) (st' := [.inl (.int (lg_cmp (P98.2.1 570 0) (v99).toInt64))]) (P1 := P98) rfl ⟨trivial, trivial, (ab_vi (by decide)), trivial, trivial, trivial, trivial⟩ ?_
            refine tr_if (fun h396 => ?_) (fun h396 => ?_)
            · refine tr_ifT (cd := .eq) h396 ?_
              refine tr_nil (rows2 := kb_0_944) rfl (List.cons_ne_nil _ _) ?_
              refine tr_goto ?_
              refine tr_nil (rows2 := kb_0_2660) rfl (List.cons_ne_nil _ _) ?_
              refine tr_blk 1 (pc' := 2663) (rows' := kb_0_2660.drop 1) (loc' := [.inr (31, xs.1, 0, 0), .inr (11, 0, 0, 0), .inr (12, 0, 0, 72), .inr (22, 1, 0, 570), .inl (.int (x4 + 8)), .inl (.int v95), .inl (.int v99), ab_top]) (st' := []) (P1 := P98) rfl ⟨trivial, trivial⟩ ?_
              refine tr_goto ?_
              exact ih (x4 + 8) (.inl (.int v95)) (.inl (.int v99)) P98
            · refine tr_ifF (cd := .eq) h396 ?_
              refine tr_blk 1 (pc' := 943) (rows' := kb_0_927.drop 10) (loc' := [.inr (31, xs.1, 0, 0), .inr (11, 0, 0, 0), .inr (12, 0, 0, 72), .inr (22, 1, 0, 570), .inl (.int x4), .inl (.int v95), .inl (.int v99), ab_top]) (st' := [.inl (.int (0 : Int32))]) (P1 := P98) rfl ⟨trivial, trivial⟩ ?_
              exact tr_reI (z := km_0) rfl ⟨_, rfl, rfl⟩ rfl
          · refine tr_ifT (cd := .ne) h395 ?_
            refine tr_nil (rows2 := kb_0_944) rfl (List.cons_ne_nil _ _) ?_
            refine tr_goto ?_
            refine tr_nil (rows2 := kb_0_2660) rfl (List.cons_ne_nil _ _) ?_
            refine tr_blk 1 (pc' := 2663) (rows' := kb_0_2660.drop 1) (loc' := [.inr (31, xs.1, 0, 0), .inr (11, 0, 0, 0), .inr (12, 0, 0, 72), .inr (22, 1, 0, 570), .inl (.int (x4 + 8)), .inl (.int v95), .inl (.int v99), ab_top]) (st' := []) (P1 := P98) rfl ⟨trivial, trivial⟩ ?_
            refine tr_goto ?_
            exact ih (x4 + 8) (.inl (.int v95)) (.inl (.int v99)) P98
        · refine tr_icF (cd := .eq) h394 ?_
          refine tr_blk 1 (pc' := 926) (rows' := kb_0_879.drop 32) (loc' := [.inr (31, xs.1, 0, 0), .inr (11, 0, 0, 0), .inr (12, 0, 0, 72), .inr (22, 1, 0, 570), .inl (.int x4), .inl (.int v95), .inl (.int v99), ab_top]) (st' := [.inl (.int (0 : Int32))]) (P1 := P98) rfl ⟨trivial, trivial⟩ ?_
          exact tr_reI (z := km_0) rfl ⟨_, rfl, rfl⟩ rfl
      refine tr_if (fun h397 => ?_) (fun h397 => ?_)
      · refine tr_sw (t := 947) (by rw [h397]; rfl) ?_
        refine tr_nil (rows2 := kb_0_947) rfl (List.cons_ne_nil _ _) ?_
        refine tr_gd (fun h101 => ?_)
        refine tr_blk 7 (pc' := 955) (rows' := kb_0_947.drop 7) (loc' := [.inr (31, xs.1, 0, 0), .inr (11, 0, 0, 0), .inr (12, 0, 0, 72), .inr (22, 1, 0, 570), .inl (.int x4), d5, d6, ab_top]) (st' := [.inr (22, 1, 0, 570), .inl (.int (xs.2 ((x4 + (1 : Int32))).toNatClampNeg)), .inr (11, 0, 0, 0)]) (P1 := P) rfl ⟨trivial, trivial, trivial, trivial, trivial, ⟨h101, rfl⟩, trivial, trivial⟩ ?_
        refine tr_cWI (z := km_30) (av := [.inr (11, 0, 0, 0), .inl (.int (xs.2 ((x4 + (1 : Int32))).toNatClampNeg)), .inr (22, 1, 0, 570)]) (st' := []) rfl rfl rfl (Nat.le_of_ble_eq_true rfl) trivial rfl (Nat.le_of_ble_eq_true rfl) (t_30_1 N (xs.2 ((x4 + (1 : Int32))).toNatClampNeg) P) (fun v103 P102 => ?_)
        refine tr_gd (fun h104 => ?_)
        refine tr_blk 7 (pc' := 967) (rows' := kb_0_947.drop 15) (loc' := [.inr (31, xs.1, 0, 0), .inr (11, 0, 0, 0), .inr (12, 0, 0, 72), .inr (22, 1, 0, 570), .inl (.int x4), .inl (.int v103), d6, ab_top]) (st' := [.inl (.int (xs.2 ((x4 + (1 : Int32))).toNatClampNeg)), .inr (12, 0, 0, 72)]) (P1 := P102) rfl ⟨trivial, trivial, trivial, trivial, trivial, trivial, ⟨h104, rfl⟩, trivial⟩ ?_
        refine tr_cWI (z := km_31) (av := [.inr (12, 0, 0, 72), .inl (.int (xs.2 ((x4 + (1 : Int32))).toNatClampNeg))]) (st' := []) rfl rfl rfl (Nat.le_of_ble_eq_true rfl) ⟨rfl, Or.inl (by decide)⟩ rfl (Nat.le_of_ble_eq_true rfl) (t_31 N (xs.2 ((x4 + (1 : Int32))).toNatClampNeg) P102) (fun v106 P105 => ?_)
        refine tr_blk 2 (pc' := 973) (rows' := kb_0_947.drop 18) (loc' := [.inr (31, xs.1, 0, 0), .inr (11, 0, 0, 0), .inr (12, 0, 0, 72), .inr (22, 1, 0, 570), .inl (.int x4), .inl (.int v103), .inl (.int v106), ab_top]) (st' := [.inr (12, 0, 0, 72)]) (P1 := P105) rfl ⟨trivial, trivial, trivial⟩ ?_
        refine tr_cRI (z := km_7) (av := [.inr (12, 0, 0, 72)]) (st' := []) rfl rfl rfl (Nat.le_of_ble_eq_true rfl) ⟨rfl, Or.inl (by decide)⟩ rfl (Nat.le_of_ble_eq_true rfl) (t_7 P105) (fun v107 => ?_)
        refine tr_blk 1 (pc' := 978) (rows' := kb_0_947.drop 20) (loc' := [.inr (31, xs.1, 0, 0), .inr (11, 0, 0, 0), .inr (12, 0, 0, 72), .inr (22, 1, 0, 570), .inl (.int x4), .inl (.int v103), .inl (.int v106), ab_top]) (st' := [.inl (.int v103), .inl (.int v107)]) (P1 := P105) rfl ⟨trivial, trivial⟩ ?_
        refine tr_if (fun h398 => ?_) (fun h398 => ?_)
        · refine tr_icT (cd := .eq) h398 ?_
          refine tr_nil (rows2 := kb_0_983) rfl (List.cons_ne_nil _ _) ?_
          refine tr_blk 1 (pc' := 985) (rows' := kb_0_983.drop 1) (loc' := [.inr (31, xs.1, 0, 0), .inr (11, 0, 0, 0), .inr (12, 0, 0, 72), .inr (22, 1, 0, 570), .inl (.int x4), .inl (.int v103), .inl (.int v106), ab_top]) (st' := [.inl (.int v103)]) (P1 := P105) rfl ⟨trivial, trivial⟩ ?_
          refine tr_if (fun h399 => ?_) (fun h399 => ?_)
          · refine tr_ifF (cd := .ne) (fun q => q h399) ?_
            refine tr_blk 6 (pc' := 995) (rows' := kb_0_983.drop 8) (loc' := [.inr (31, xs.1, 0, 0), .inr (11, 0, 0, 0), .inr (12, 0, 0, 72), .inr (22, 1, 0, 570), .inl (.int x4), .inl (.int v103), .inl (.int v106), ab_top]) (st' := [.inl (.int (lg_cmp (P105.2.1 570 0) (v106).toInt64))]) (P1 := P105) rfl ⟨trivial, trivial, (ab_vi (by decide)), trivial, trivial, trivial, trivial⟩ ?_
            refine tr_if (fun h400 => ?_) (fun h400 => ?_)
            · refine tr_ifT (cd := .eq) h400 ?_
              refine tr_nil (rows2 := kb_0_1000) rfl (List.cons_ne_nil _ _) ?_
              refine tr_goto ?_
              refine tr_nil (rows2 := kb_0_2660) rfl (List.cons_ne_nil _ _) ?_
              refine tr_blk 1 (pc' := 2663) (rows' := kb_0_2660.drop 1) (loc' := [.inr (31, xs.1, 0, 0), .inr (11, 0, 0, 0), .inr (12, 0, 0, 72), .inr (22, 1, 0, 570), .inl (.int (x4 + 8)), .inl (.int v103), .inl (.int v106), ab_top]) (st' := []) (P1 := P105) rfl ⟨trivial, trivial⟩ ?_
              refine tr_goto ?_
              exact ih (x4 + 8) (.inl (.int v103)) (.inl (.int v106)) P105
            · refine tr_ifF (cd := .eq) h400 ?_
              refine tr_blk 1 (pc' := 999) (rows' := kb_0_983.drop 10) (loc' := [.inr (31, xs.1, 0, 0), .inr (11, 0, 0, 0), .inr (12, 0, 0, 72), .inr (22, 1, 0, 570), .inl (.int x4), .inl (.int v103), .inl (.int v106), ab_top]) (st' := [.inl (.int (0 : Int32))]) (P1 := P105) rfl ⟨trivial, trivial⟩ ?_
              exact tr_reI (z := km_0) rfl ⟨_, rfl, rfl⟩ rfl
          · refine tr_ifT (cd := .ne) h399 ?_
            refine tr_nil (rows2 := kb_0_1000) rfl (List.cons_ne_nil _ _) ?_
            refine tr_goto ?_
            refine tr_nil (rows2 := kb_0_2660) rfl (List.cons_ne_nil _ _) ?_
            refine tr_blk 1 (pc' := 2663) (rows' := kb_0_2660.drop 1) (loc' := [.inr (31, xs.1, 0, 0), .inr (11, 0, 0, 0), .inr (12, 0, 0, 72), .inr (22, 1, 0, 570), .inl (.int (x4 + 8)), .inl (.int v103), .inl (.int v106), ab_top]) (st' := []) (P1 := P105) rfl ⟨trivial, trivial⟩ ?_
            refine tr_goto ?_
            exact ih (x4 + 8) (.inl (.int v103)) (.inl (.int v106)) P105
        · refine tr_icF (cd := .eq) h398 ?_
          refine tr_blk 1 (pc' := 982) (rows' := kb_0_947.drop 22) (loc' := [.inr (31, xs.1, 0, 0), .inr (11, 0, 0, 0), .inr (12, 0, 0, 72), .inr (22, 1, 0, 570), .inl (.int x4), .inl (.int v103), .inl (.int v106), ab_top]) (st' := [.inl (.int (0 : Int32))]) (P1 := P105) rfl ⟨trivial, trivial⟩ ?_
          exact tr_reI (z := km_0) rfl ⟨_, rfl, rfl⟩ rfl
      refine tr_if (fun h401 => ?_) (fun h401 => ?_)
      · refine tr_sw (t := 1003) (by rw [h401]; rfl) ?_
        refine tr_nil (rows2 := kb_0_1003) rfl (List.cons_ne_nil _ _) ?_
        refine tr_gd (fun h108 => ?_)
        refine tr_gd (fun h109 => ?_)
        refine tr_gd (fun h110 => ?_)
        refine tr_gd (fun h111 => ?_)
        refine tr_gd (fun h112 => ?_)
        refine tr_blk 27 (pc' := 1035) (rows' := kb_0_1003.drop 27) (loc' := [.inr (31, xs.1, 0, 0), .inr (11, 0, 0, 0), .inr (12, 0, 0, 72), .inr (22, 1, 0, 570), .inl (.int x4), d5, d6, ab_top]) (st' := [.inr (22, 1, 0, 570), .inl (.int (xs.2 ((x4 + (5 : Int32))).toNatClampNeg)), .inl (.int (xs.2 ((x4 + (4 : Int32))).toNatClampNeg)), .inl (.int (xs.2 ((x4 + (3 : Int32))).toNatClampNeg)), .inl (.int (xs.2 ((x4 + (2 : Int32))).toNatClampNeg)), .inl (.int (xs.2 ((x4 + (1 : Int32))).toNatClampNeg)), .inr (11, 0, 0, 0)]) (P1 := P) rfl ⟨trivial, trivial, trivial, trivial, trivial, ⟨h108, rfl⟩, trivial, trivial, trivial, trivial, ⟨h109, rfl⟩, trivial, trivial, trivial, trivial, ⟨h110, rfl⟩, trivial, trivial, trivial, trivial, ⟨h111, rfl⟩, trivial, trivial, trivial, trivial, ⟨h112, rfl⟩, trivial, trivial⟩ ?_
        refine tr_cWI (z := km_32) (av := [.inr (11, 0, 0, 0), .inl (.int (xs.2 ((x4 + (1 : Int32))).toNatClampNeg)), .inl (.int (xs.2 ((x4 + (2 : Int32))).toNatClampNeg)), .inl (.int (xs.2 ((x4 + (3 : Int32))).toNatClampNeg)), .inl (.int (xs.2 ((x4 + (4 : Int32))).toNatClampNeg)), .inl (.int (xs.2 ((x4 + (5 : Int32))).toNatClampNeg)), .inr (22, 1, 0, 570)]) (st' := []) rfl rfl rfl (Nat.le_of_ble_eq_true rfl) trivial rfl (Nat.le_of_ble_eq_true rfl) (t_32_1 N (xs.2 ((x4 + (1 : Int32))).toNatClampNeg) (xs.2 ((x4 + (2 : Int32))).toNatClampNeg) (xs.2 ((x4 + (3 : Int32))).toNatClampNeg) (xs.2 ((x4 + (4 : Int32))).toNatClampNeg) (xs.2 ((x4 + (5 : Int32))).toNatClampNeg) P) (fun v114 P113 => ?_)
        refine tr_gd (fun h115 => ?_)
        refine tr_gd (fun h116 => ?_)
        refine tr_gd (fun h117 => ?_)
        refine tr_gd (fun h118 => ?_)
        refine tr_gd (fun h119 => ?_)
        refine tr_blk 27 (pc' := 1071) (rows' := kb_0_1003.drop 55) (loc' := [.inr (31, xs.1, 0, 0), .inr (11, 0, 0, 0), .inr (12, 0, 0, 72), .inr (22, 1, 0, 570), .inl (.int x4), .inl (.int v114), d6, ab_top]) (st' := [.inl (.int (xs.2 ((x4 + (5 : Int32))).toNatClampNeg)), .inl (.int (xs.2 ((x4 + (4 : Int32))).toNatClampNeg)), .inl (.int (xs.2 ((x4 + (3 : Int32))).toNatClampNeg)), .inl (.int (xs.2 ((x4 + (2 : Int32))).toNatClampNeg)), .inl (.int (xs.2 ((x4 + (1 : Int32))).toNatClampNeg)), .inr (12, 0, 0, 72)]) (P1 := P113) rfl ⟨trivial, trivial, trivial, trivial, trivial, trivial, ⟨h115, rfl⟩, trivial, trivial, trivial, trivial, ⟨h116, rfl⟩, trivial, trivial, trivial, trivial, ⟨h117, rfl⟩, trivial, trivial, trivial, trivial, ⟨h118, rfl⟩, trivial, trivial, trivial, trivial, ⟨h119, rfl⟩, trivial⟩ ?_
        refine tr_cWI (z := km_33) (av := [.inr (12, 0, 0, 72), .inl (.int (xs.2 ((x4 + (1 : Int32))).toNatClampNeg)), .inl (.int (xs.2 ((x4 + (2 : Int32))).toNatClampNeg)), .inl (.int (xs.2 ((x4 + (3 : Int32))).toNatClampNeg)), .inl (.int (xs.2 ((x4 + (4 : Int32))).toNatClampNeg)), .inl (.int (xs.2 ((x4 + (5 : Int32))).toNatClampNeg))]) (st' := []) rfl rfl rfl (Nat.le_of_ble_eq_true rfl) ⟨rfl, Or.inl (by decide)⟩ rfl (Nat.le_of_ble_eq_true rfl) (t_33 N (xs.2 ((x4 + (1 : Int32))).toNatClampNeg) (xs.2 ((x4 + (2 : Int32))).toNatClampNeg) (xs.2 ((x4 + (3 : Int32))).toNatClampNeg) (xs.2 ((x4 + (4 : Int32))).toNatClampNeg) (xs.2 ((x4 + (5 : Int32))).toNatClampNeg) P113) (fun v121 P120 => ?_)
        refine tr_blk 2 (pc' := 1077) (rows' := kb_0_1003.drop 58) (loc' := [.inr (31, xs.1, 0, 0), .inr (11, 0, 0, 0), .inr (12, 0, 0, 72), .inr (22, 1, 0, 570), .inl (.int x4), .inl (.int v114), .inl (.int v121), ab_top]) (st' := [.inr (12, 0, 0, 72)]) (P1 := P120) rfl ⟨trivial, trivial, trivial⟩ ?_
        refine tr_cRI (z := km_7) (av := [.inr (12, 0, 0, 72)]) (st' := []) rfl rfl rfl (Nat.le_of_ble_eq_true rfl) ⟨rfl, Or.inl (by decide)⟩ rfl (Nat.le_of_ble_eq_true rfl) (t_7 P120) (fun v122 => ?_)
        refine tr_blk 1 (pc' := 1082) (rows' := kb_0_1003.drop 60) (loc' := [.inr (31, xs.1, 0, 0), .inr (11, 0, 0, 0), .inr (12, 0, 0, 72), .inr (22, 1, 0, 570), .inl (.int x4), .inl (.int v114), .inl (.int v121), ab_top]) (st' := [.inl (.int v114), .inl (.int v122)]) (P1 := P120) rfl ⟨trivial, trivial⟩ ?_
        refine tr_if (fun h402 => ?_) (fun h402 => ?_)
        · refine tr_icT (cd := .eq) h402 ?_
          refine tr_nil (rows2 := kb_0_1087) rfl (List.cons_ne_nil _ _) ?_
          refine tr_blk 1 (pc' := 1089) (rows' := kb_0_1087.drop 1) (loc' := [.inr (31, xs.1, 0, 0), .inr (11, 0, 0, 0), .inr (12, 0, 0, 72), .inr (22, 1, 0, 570), .inl (.int x4), .inl (.int v114), .inl (.int v121), ab_top]) (st' := [.inl (.int v114)]) (P1 := P120) rfl ⟨trivial, trivial⟩ ?_
          refine tr_if (fun h403 => ?_) (fun h403 => ?_)
          · refine tr_ifF (cd := .ne) (fun q => q h403) ?_
            refine tr_blk 6 (pc' := 1099) (rows' := kb_0_1087.drop 8) (loc' := [.inr (31, xs.1, 0, 0), .inr (11, 0, 0, 0), .inr (12, 0, 0, 72), .inr (22, 1, 0, 570), .inl (.int x4), .inl (.int v114), .inl (.int v121), ab_top]) (st' := [.inl (.int (lg_cmp (P120.2.1 570 0) (v121).toInt64))]) (P1 := P120) rfl ⟨trivial, trivial, (ab_vi (by decide)), trivial, trivial, trivial, trivial⟩ ?_
            refine tr_if (fun h404 => ?_) (fun h404 => ?_)
            · refine tr_ifT (cd := .eq) h404 ?_
              refine tr_nil (rows2 := kb_0_1104) rfl (List.cons_ne_nil _ _) ?_
              refine tr_goto ?_
              refine tr_nil (rows2 := kb_0_2660) rfl (List.cons_ne_nil _ _) ?_
              refine tr_blk 1 (pc' := 2663) (rows' := kb_0_2660.drop 1) (loc' := [.inr (31, xs.1, 0, 0), .inr (11, 0, 0, 0), .inr (12, 0, 0, 72), .inr (22, 1, 0, 570), .inl (.int (x4 + 8)), .inl (.int v114), .inl (.int v121), ab_top]) (st' := []) (P1 := P120) rfl ⟨trivial, trivial⟩ ?_
              refine tr_goto ?_
              exact ih (x4 + 8) (.inl (.int v114)) (.inl (.int v121)) P120
            · refine tr_ifF (cd := .eq) h404 ?_
              refine tr_blk 1 (pc' := 1103) (rows' := kb_0_1087.drop 10) (loc' := [.inr (31, xs.1, 0, 0), .inr (11, 0, 0, 0), .inr (12, 0, 0, 72), .inr (22, 1, 0, 570), .inl (.int x4), .inl (.int v114), .inl (.int v121), ab_top]) (st' := [.inl (.int (0 : Int32))]) (P1 := P120) rfl ⟨trivial, trivial⟩ ?_
              exact tr_reI (z := km_0) rfl ⟨_, rfl, rfl⟩ rfl
          · refine tr_ifT (cd := .ne) h403 ?_
            refine tr_nil (rows2 := kb_0_1104) rfl (List.cons_ne_nil _ _) ?_
            refine tr_goto ?_
            refine tr_nil (rows2 := kb_0_2660) rfl (List.cons_ne_nil _ _) ?_
            refine tr_blk 1 (pc' := 2663) (rows' := kb_0_2660.drop 1) (loc' := [.inr (31, xs.1, 0, 0), .inr (11, 0, 0, 0), .inr (12, 0, 0, 72), .inr (22, 1, 0, 570), .inl (.int (x4 + 8)), .inl (.int v114), .inl (.int v121), ab_top]) (st' := []) (P1 := P120) rfl ⟨trivial, trivial⟩ ?_
            refine tr_goto ?_
            exact ih (x4 + 8) (.inl (.int v114)) (.inl (.int v121)) P120
        · refine tr_icF (cd := .eq) h402 ?_
          refine tr_blk 1 (pc' := 1086) (rows' := kb_0_1003.drop 62) (loc' := [.inr (31, xs.1, 0, 0), .inr (11, 0, 0, 0), .inr (12, 0, 0, 72), .inr (22, 1, 0, 570), .inl (.int x4), .inl (.int v114), .inl (.int v121), ab_top]) (st' := [.inl (.int (0 : Int32))]) (P1 := P120) rfl ⟨trivial, trivial⟩ ?_
          exact tr_reI (z := km_0) rfl ⟨_, rfl, rfl⟩ rfl
      refine tr_if (fun h405 => ?_) (fun h405 => ?_)
      · refine tr_sw (t := 1107) (by rw [h405]; rfl) ?_
        refine tr_nil (rows2 := kb_0_1107) rfl (List.cons_ne_nil _ _) ?_
        refine tr_blk 1 (pc' := 1108) (rows' := kb_0_1107.drop 1) (loc' := [.inr (31, xs.1, 0, 0), .inr (11, 0, 0, 0), .inr (12, 0, 0, 72), .inr (22, 1, 0, 570), .inl (.int x4), d5, d6, ab_top]) (st' := [.inr (11, 0, 0, 0)]) (P1 := P) rfl ⟨trivial, trivial⟩ ?_
        refine tr_cWL (z := km_34) (av := [.inr (11, 0, 0, 0)]) (st' := []) rfl rfl rfl (Nat.le_of_ble_eq_true rfl) ⟨rfl, Or.inl (by decide)⟩ rfl (Nat.le_of_ble_eq_true rfl) (t_34 N P) (fun v124 P123 => ?_)
        refine tr_blk 1 (pc' := 1112) (rows' := kb_0_1107.drop 3) (loc' := [.inr (31, xs.1, 0, 0), .inr (11, 0, 0, 0), .inr (12, 0, 0, 72), .inr (22, 1, 0, 570), .inl (.int x4), d5, d6, ab_top]) (st' := [.inr (12, 0, 0, 72), .inl (.long v124)]) (P1 := P123) rfl ⟨trivial, trivial⟩ ?_
        refine tr_cWL (z := km_35) (av := [.inr (12, 0, 0, 72)]) (st' := [.inl (.long v124)]) rfl rfl rfl (Nat.le_of_ble_eq_true rfl) ⟨rfl, Or.inl (by decide)⟩ rfl (Nat.le_of_ble_eq_true rfl) (t_35 N P123) (fun v126 P125 => ?_)
        refine tr_blk 1 (pc' := 1116) (rows' := kb_0_1107.drop 5) (loc' := [.inr (31, xs.1, 0, 0), .inr (11, 0, 0, 0), .inr (12, 0, 0, 72), .inr (22, 1, 0, 570), .inl (.int x4), d5, d6, ab_top]) (st' := [.inl (.int (lg_cmp v124 v126))]) (P1 := P125) rfl ⟨trivial, trivial⟩ ?_
        refine tr_if (fun h406 => ?_) (fun h406 => ?_)
        · refine tr_ifT (cd := .eq) h406 ?_
          refine tr_nil (rows2 := kb_0_2660) rfl (List.cons_ne_nil _ _) ?_
          refine tr_blk 1 (pc' := 2663) (rows' := kb_0_2660.drop 1) (loc' := [.inr (31, xs.1, 0, 0), .inr (11, 0, 0, 0), .inr (12, 0, 0, 72), .inr (22, 1, 0, 570), .inl (.int (x4 + 8)), d5, d6, ab_top]) (st' := []) (P1 := P125) rfl ⟨trivial, trivial⟩ ?_
          refine tr_goto ?_
          exact ih (x4 + 8) (d5) (d6) P125
        · refine tr_ifF (cd := .eq) h406 ?_
          refine tr_blk 1 (pc' := 1120) (rows' := kb_0_1107.drop 7) (loc' := [.inr (31, xs.1, 0, 0), .inr (11, 0, 0, 0), .inr (12, 0, 0, 72), .inr (22, 1, 0, 570), .inl (.int x4), d5, d6, ab_top]) (st' := [.inl (.int (0 : Int32))]) (P1 := P125) rfl ⟨trivial, trivial⟩ ?_
          exact tr_reI (z := km_0) rfl ⟨_, rfl, rfl⟩ rfl
      refine tr_if (fun h407 => ?_) (fun h407 => ?_)
      · refine tr_sw (t := 1121) (by rw [h407]; rfl) ?_
        refine tr_nil (rows2 := kb_0_1121) rfl (List.cons_ne_nil _ _) ?_
        refine tr_gd (fun h127 => ?_)
        refine tr_gd (fun h128 => ?_)
        refine tr_gd (fun h129 => ?_)
        refine tr_blk 17 (pc' := 1141) (rows' := kb_0_1121.drop 17) (loc' := [.inr (31, xs.1, 0, 0), .inr (11, 0, 0, 0), .inr (12, 0, 0, 72), .inr (22, 1, 0, 570), .inl (.int x4), d5, d6, ab_top]) (st' := [.inr (22, 1, 0, 570), .inl (.int (xs.2 ((x4 + (3 : Int32))).toNatClampNeg)), .inl (.int (xs.2 ((x4 + (2 : Int32))).toNatClampNeg)), .inl (.int (xs.2 ((x4 + (1 : Int32))).toNatClampNeg)), .inr (11, 0, 0, 0)]) (P1 := P) rfl ⟨trivial, trivial, trivial, trivial, trivial, ⟨h127, rfl⟩, trivial, trivial, trivial, trivial, ⟨h128, rfl⟩, trivial, trivial, trivial, trivial, ⟨h129, rfl⟩, trivial, trivial⟩ ?_
        refine tr_cWI (z := km_36) (av := [.inr (11, 0, 0, 0), .inl (.int (xs.2 ((x4 + (1 : Int32))).toNatClampNeg)), .inl (.int (xs.2 ((x4 + (2 : Int32))).toNatClampNeg)), .inl (.int (xs.2 ((x4 + (3 : Int32))).toNatClampNeg)), .inr (22, 1, 0, 570)]) (st' := []) rfl rfl rfl (Nat.le_of_ble_eq_true rfl) trivial rfl (Nat.le_of_ble_eq_true rfl) (t_36_1 N (xs.2 ((x4 + (1 : Int32))).toNatClampNeg) (xs.2 ((x4 + (2 : Int32))).toNatClampNeg) (xs.2 ((x4 + (3 : Int32))).toNatClampNeg) P) (fun v131 P130 => ?_)
        refine tr_gd (fun h132 => ?_)
        refine tr_gd (fun h133 => ?_)
        refine tr_gd (fun h134 => ?_)
        refine tr_blk 17 (pc' := 1165) (rows' := kb_0_1121.drop 35) (loc' := [.inr (31, xs.1, 0, 0), .inr (11, 0, 0, 0), .inr (12, 0, 0, 72), .inr (22, 1, 0, 570), .inl (.int x4), .inl (.int v131), d6, ab_top]) (st' := [.inl (.int (xs.2 ((x4 + (3 : Int32))).toNatClampNeg)), .inl (.int (xs.2 ((x4 + (2 : Int32))).toNatClampNeg)), .inl (.int (xs.2 ((x4 + (1 : Int32))).toNatClampNeg)), .inr (12, 0, 0, 72)]) (P1 := P130) rfl ⟨trivial, trivial, trivial, trivial, trivial, trivial, ⟨h132, rfl⟩, trivial, trivial, trivial, trivial, ⟨h133, rfl⟩, trivial, trivial, trivial, trivial, ⟨h134, rfl⟩, trivial⟩ ?_
        refine tr_cWL (z := km_37) (av := [.inr (12, 0, 0, 72), .inl (.int (xs.2 ((x4 + (1 : Int32))).toNatClampNeg)), .inl (.int (xs.2 ((x4 + (2 : Int32))).toNatClampNeg)), .inl (.int (xs.2 ((x4 + (3 : Int32))).toNatClampNeg))]) (st' := []) rfl rfl rfl (Nat.le_of_ble_eq_true rfl) ⟨rfl, Or.inl (by decide)⟩ rfl (Nat.le_of_ble_eq_true rfl) (t_37 N (xs.2 ((x4 + (1 : Int32))).toNatClampNeg) (xs.2 ((x4 + (2 : Int32))).toNatClampNeg) (xs.2 ((x4 + (3 : Int32))).toNatClampNeg) P130) (fun v136 P135 => ?_)
        refine tr_blk 2 (pc' := 1171) (rows' := kb_0_1121.drop 38) (loc' := [.inr (31, xs.1, 0, 0), .inr (11, 0, 0, 0), .inr (12, 0, 0, 72), .inr (22, 1, 0, 570), .inl (.int x4), .inl (.int v131), .inl (.long v136), ab_top]) (st' := [.inr (12, 0, 0, 72)]) (P1 := P135) rfl ⟨trivial, trivial, trivial⟩ ?_
        refine tr_cRI (z := km_7) (av := [.inr (12, 0, 0, 72)]) (st' := []) rfl rfl rfl (Nat.le_of_ble_eq_true rfl) ⟨rfl, Or.inl (by decide)⟩ rfl (Nat.le_of_ble_eq_true rfl) (t_7 P135) (fun v137 => ?_)
        refine tr_blk 1 (pc' := 1176) (rows' := kb_0_1121.drop 40) (loc' := [.inr (31, xs.1, 0, 0), .inr (11, 0, 0, 0), .inr (12, 0, 0, 72), .inr (22, 1, 0, 570), .inl (.int x4), .inl (.int v131), .inl (.long v136), ab_top]) (st' := [.inl (.int v131), .inl (.int v137)]) (P1 := P135) rfl ⟨trivial, trivial⟩ ?_
        refine tr_if (fun h408 => ?_) (fun h408 => ?_)
        · refine tr_icT (cd := .eq) h408 ?_
          refine tr_nil (rows2 := kb_0_1181) rfl (List.cons_ne_nil _ _) ?_
          refine tr_blk 1 (pc' := 1183) (rows' := kb_0_1181.drop 1) (loc' := [.inr (31, xs.1, 0, 0), .inr (11, 0, 0, 0), .inr (12, 0, 0, 72), .inr (22, 1, 0, 570), .inl (.int x4), .inl (.int v131), .inl (.long v136), ab_top]) (st' := [.inl (.int v131)]) (P1 := P135) rfl ⟨trivial, trivial⟩ ?_
          refine tr_if (fun h409 => ?_) (fun h409 => ?_)
          · refine tr_ifF (cd := .ne) (fun q => q h409) ?_
            refine tr_blk 5 (pc' := 1192) (rows' := kb_0_1181.drop 7) (loc' := [.inr (31, xs.1, 0, 0), .inr (11, 0, 0, 0), .inr (12, 0, 0, 72), .inr (22, 1, 0, 570), .inl (.int x4), .inl (.int v131), .inl (.long v136), ab_top]) (st' := [.inl (.int (lg_cmp (P135.2.1 570 0) v136))]) (P1 := P135) rfl ⟨trivial, trivial, (ab_vi (by decide)), trivial, trivial, trivial⟩ ?_
            refine tr_if (fun h410 => ?_) (fun h410 => ?_)
            · refine tr_ifT (cd := .eq) h410 ?_
              refine tr_nil (rows2 := kb_0_1197) rfl (List.cons_ne_nil _ _) ?_
              refine tr_goto ?_
              refine tr_nil (rows2 := kb_0_2660) rfl (List.cons_ne_nil _ _) ?_
              refine tr_blk 1 (pc' := 2663) (rows' := kb_0_2660.drop 1) (loc' := [.inr (31, xs.1, 0, 0), .inr (11, 0, 0, 0), .inr (12, 0, 0, 72), .inr (22, 1, 0, 570), .inl (.int (x4 + 8)), .inl (.int v131), .inl (.long v136), ab_top]) (st' := []) (P1 := P135) rfl ⟨trivial, trivial⟩ ?_
              refine tr_goto ?_
              exact ih (x4 + 8) (.inl (.int v131)) (.inl (.long v136)) P135
            · refine tr_ifF (cd := .eq) h410 ?_
              refine tr_blk 1 (pc' := 1196) (rows' := kb_0_1181.drop 9) (loc' := [.inr (31, xs.1, 0, 0), .inr (11, 0, 0, 0), .inr (12, 0, 0, 72), .inr (22, 1, 0, 570), .inl (.int x4), .inl (.int v131), .inl (.long v136), ab_top]) (st' := [.inl (.int (0 : Int32))]) (P1 := P135) rfl ⟨trivial, trivial⟩ ?_
              exact tr_reI (z := km_0) rfl ⟨_, rfl, rfl⟩ rfl
          · refine tr_ifT (cd := .ne) h409 ?_
            refine tr_nil (rows2 := kb_0_1197) rfl (List.cons_ne_nil _ _) ?_
            refine tr_goto ?_
            refine tr_nil (rows2 := kb_0_2660) rfl (List.cons_ne_nil _ _) ?_
            refine tr_blk 1 (pc' := 2663) (rows' := kb_0_2660.drop 1) (loc' := [.inr (31, xs.1, 0, 0), .inr (11, 0, 0, 0), .inr (12, 0, 0, 72), .inr (22, 1, 0, 570), .inl (.int (x4 + 8)), .inl (.int v131), .inl (.long v136), ab_top]) (st' := []) (P1 := P135) rfl ⟨trivial, trivial⟩ ?_
            refine tr_goto ?_
            exact ih (x4 + 8) (.inl (.int v131)) (.inl (.long v136)) P135
        · refine tr_icF (cd := .eq) h408 ?_
          refine tr_blk 1 (pc' := 1180) (rows' := kb_0_1121.drop 42) (loc' := [.inr (31, xs.1, 0, 0), .inr (11, 0, 0, 0), .inr (12, 0, 0, 72), .inr (22, 1, 0, 570), .inl (.int x4), .inl (.int v131), .inl (.long v136), ab_top]) (st' := [.inl (.int (0 : Int32))]) (P1 := P135) rfl ⟨trivial, trivial⟩ ?_
          exact tr_reI (z := km_0) rfl ⟨_, rfl, rfl⟩ rfl
      refine tr_if (fun h411 => ?_) (fun h411 => ?_)
      · refine tr_sw (t := 1200) (by rw [h411]; rfl) ?_
        refine tr_nil (rows2 := kb_0_1200) rfl (List.cons_ne_nil _ _) ?_
        refine tr_gd (fun h138 => ?_)
        refine tr_gd (fun h139 => ?_)
        refine tr_blk 12 (pc' := 1214) (rows' := kb_0_1200.drop 12) (loc' := [.inr (31, xs.1, 0, 0), .inr (11, 0, 0, 0), .inr (12, 0, 0, 72), .inr (22, 1, 0, 570), .inl (.int x4), d5, d6, ab_top]) (st' := [.inr (22, 1, 0, 570), .inl (.int (xs.2 ((x4 + (2 : Int32))).toNatClampNeg)), .inl (.int (xs.2 ((x4 + (1 : Int32))).toNatClampNeg)), .inr (11, 0, 0, 0)]) (P1 := P) rfl ⟨trivial, trivial, trivial, trivial, trivial, ⟨h138, rfl⟩, trivial, trivial, trivial, trivial, ⟨h139, rfl⟩, trivial, trivial⟩ ?_
        refine tr_cWI (z := km_38) (av := [.inr (11, 0, 0, 0), .inl (.int (xs.2 ((x4 + (1 : Int32))).toNatClampNeg)), .inl (.int (xs.2 ((x4 + (2 : Int32))).toNatClampNeg)), .inr (22, 1, 0, 570)]) (st' := []) rfl rfl rfl (Nat.le_of_ble_eq_true rfl) trivial rfl (Nat.le_of_ble_eq_true rfl) (t_38_1 N (xs.2 ((x4 + (1 : Int32))).toNatClampNeg) (xs.2 ((x4 + (2 : Int32))).toNatClampNeg) P) (fun v141 P140 => ?_)
        refine tr_gd (fun h142 => ?_)
        refine tr_gd (fun h143 => ?_)
        refine tr_blk 12 (pc' := 1232) (rows' := kb_0_1200.drop 25) (loc' := [.inr (31, xs.1, 0, 0), .inr (11, 0, 0, 0), .inr (12, 0, 0, 72), .inr (22, 1, 0, 570), .inl (.int x4), .inl (.int v141), d6, ab_top]) (st' := [.inl (.int (xs.2 ((x4 + (2 : Int32))).toNatClampNeg)), .inl (.int (xs.2 ((x4 + (1 : Int32))).toNatClampNeg)), .inr (12, 0, 0, 72)]) (P1 := P140) rfl ⟨trivial, trivial, trivial, trivial, trivial, trivial, ⟨h142, rfl⟩, trivial, trivial, trivial, trivial, ⟨h143, rfl⟩, trivial⟩ ?_
        refine tr_cWI (z := km_39) (av := [.inr (12, 0, 0, 72), .inl (.int (xs.2 ((x4 + (1 : Int32))).toNatClampNeg)), .inl (.int (xs.2 ((x4 + (2 : Int32))).toNatClampNeg))]) (st' := []) rfl rfl rfl (Nat.le_of_ble_eq_true rfl) ⟨rfl, Or.inl (by decide)⟩ rfl (Nat.le_of_ble_eq_true rfl) (t_39 N (xs.2 ((x4 + (1 : Int32))).toNatClampNeg) (xs.2 ((x4 + (2 : Int32))).toNatClampNeg) P140) (fun v145 P144 => ?_)
        refine tr_blk 2 (pc' := 1238) (rows' := kb_0_1200.drop 28) (loc' := [.inr (31, xs.1, 0, 0), .inr (11, 0, 0, 0), .inr (12, 0, 0, 72), .inr (22, 1, 0, 570), .inl (.int x4), .inl (.int v141), .inl (.int v145), ab_top]) (st' := [.inr (12, 0, 0, 72)]) (P1 := P144) rfl ⟨trivial, trivial, trivial⟩ ?_
        refine tr_cRI (z := km_7) (av := [.inr (12, 0, 0, 72)]) (st' := []) rfl rfl rfl (Nat.le_of_ble_eq_true rfl) ⟨rfl, Or.inl (by decide)⟩ rfl (Nat.le_of_ble_eq_true rfl) (t_7 P144) (fun v146 => ?_)
        refine tr_blk 1 (pc' := 1243) (rows' := kb_0_1200.drop 30) (loc' := [.inr (31, xs.1, 0, 0), .inr (11, 0, 0, 0), .inr (12, 0, 0, 72), .inr (22, 1, 0, 570), .inl (.int x4), .inl (.int v141), .inl (.int v145), ab_top]) (st' := [.inl (.int v141), .inl (.int v146)]) (P1 := P144) rfl ⟨trivial, trivial⟩ ?_
        refine tr_if (fun h412 => ?_) (fun h412 => ?_)
        · refine tr_icT (cd := .eq) h412 ?_
          refine tr_nil (rows2 := kb_0_1248) rfl (List.cons_ne_nil _ _) ?_
          refine tr_blk 1 (pc' := 1250) (rows' := kb_0_1248.drop 1) (loc' := [.inr (31, xs.1, 0, 0), .inr (11, 0, 0, 0), .inr (12, 0, 0, 72), .inr (22, 1, 0, 570), .inl (.int x4), .inl (.int v141), .inl (.int v145), ab_top]) (st' := [.inl (.int v141)]) (P1 := P144) rfl ⟨trivial, trivial⟩ ?_
          refine tr_if (fun h413 => ?_) (fun h413 => ?_)
          · refine tr_ifF (cd := .ne) (fun q => q h413) ?_
            refine tr_blk 6 (pc' := 1260) (rows' := kb_0_1248.drop 8) (loc' := [.inr (31, xs.1, 0, 0), .inr (11, 0, 0, 0), .inr (12, 0, 0, 72), .inr (22, 1, 0, 570), .inl (.int x4), .inl (.int v141), .inl (.int v145), ab_top]) (st' := [.inl (.int (lg_cmp (P144.2.1 570 0) (v145).toInt64))]) (P1 := P144) rfl ⟨trivial, trivial, (ab_vi (by decide)), trivial, trivial, trivial, trivial⟩ ?_
            refine tr_if (fun h414 => ?_) (fun h414 => ?_)
            · refine tr_ifT (cd := .eq) h414 ?_
              refine tr_nil (rows2 := kb_0_1265) rfl (List.cons_ne_nil _ _) ?_
              refine tr_goto ?_
              refine tr_nil (rows2 := kb_0_2660) rfl (List.cons_ne_nil _ _) ?_
              refine tr_blk 1 (pc' := 2663) (rows' := kb_0_2660.drop 1) (loc' := [.inr (31, xs.1, 0, 0), .inr (11, 0, 0, 0), .inr (12, 0, 0, 72), .inr (22, 1, 0, 570), .inl (.int (x4 + 8)), .inl (.int v141), .inl (.int v145), ab_top]) (st' := []) (P1 := P144) rfl ⟨trivial, trivial⟩ ?_
              refine tr_goto ?_
              exact ih (x4 + 8) (.inl (.int v141)) (.inl (.int v145)) P144
            · refine tr_ifF (cd := .eq) h414 ?_
              refine tr_blk 1 (pc' := 1264) (rows' := kb_0_1248.drop 10) (loc' := [.inr (31, xs.1, 0, 0), .inr (11, 0, 0, 0), .inr (12, 0, 0, 72), .inr (22, 1, 0, 570), .inl (.int x4), .inl (.int v141), .inl (.int v145), ab_top]) (st' := [.inl (.int (0 : Int32))]) (P1 := P144) rfl ⟨trivial, trivial⟩ ?_
              exact tr_reI (z := km_0) rfl ⟨_, rfl, rfl⟩ rfl
          · refine tr_ifT (cd := .ne) h413 ?_
            refine tr_nil (rows2 := kb_0_1265) rfl (List.cons_ne_nil _ _) ?_
            refine tr_goto ?_
            refine tr_nil (rows2 := kb_0_2660) rfl (List.cons_ne_nil _ _) ?_
            refine tr_blk 1 (pc' := 2663) (rows' := kb_0_2660.drop 1) (loc' := [.inr (31, xs.1, 0, 0), .inr (11, 0, 0, 0), .inr (12, 0, 0, 72), .inr (22, 1, 0, 570), .inl (.int (x4 + 8)), .inl (.int v141), .inl (.int v145), ab_top]) (st' := []) (P1 := P144) rfl ⟨trivial, trivial⟩ ?_
            refine tr_goto ?_
            exact ih (x4 + 8) (.inl (.int v141)) (.inl (.int v145)) P144
        · refine tr_icF (cd := .eq) h412 ?_
          refine tr_blk 1 (pc' := 1247) (rows' := kb_0_1200.drop 32) (loc' := [.inr (31, xs.1, 0, 0), .inr (11, 0, 0, 0), .inr (12, 0, 0, 72), .inr (22, 1, 0, 570), .inl (.int x4), .inl (.int v141), .inl (.int v145), ab_top]) (st' := [.inl (.int (0 : Int32))]) (P1 := P144) rfl ⟨trivial, trivial⟩ ?_
          exact tr_reI (z := km_0) rfl ⟨_, rfl, rfl⟩ rfl
      refine tr_if (fun h415 => ?_) (fun h415 => ?_)
      · refine tr_sw (t := 1268) (by rw [h415]; rfl) ?_
        refine tr_nil (rows2 := kb_0_1268) rfl (List.cons_ne_nil _ _) ?_
        refine tr_gd (fun h147 => ?_)
        refine tr_blk 7 (pc' := 1276) (rows' := kb_0_1268.drop 7) (loc' := [.inr (31, xs.1, 0, 0), .inr (11, 0, 0, 0), .inr (12, 0, 0, 72), .inr (22, 1, 0, 570), .inl (.int x4), d5, d6, ab_top]) (st' := [.inr (22, 1, 0, 570), .inl (.int (xs.2 ((x4 + (1 : Int32))).toNatClampNeg)), .inr (11, 0, 0, 0)]) (P1 := P) rfl ⟨trivial, trivial, trivial, trivial, trivial, ⟨h147, rfl⟩, trivial, trivial⟩ ?_
        refine tr_cWI (z := km_40) (av := [.inr (11, 0, 0, 0), .inl (.int (xs.2 ((x4 + (1 : Int32))).toNatClampNeg)), .inr (22, 1, 0, 570)]) (st' := []) rfl rfl rfl (Nat.le_of_ble_eq_true rfl) trivial rfl (Nat.le_of_ble_eq_true rfl) (t_40_1 N (xs.2 ((x4 + (1 : Int32))).toNatClampNeg) P) (fun v149 P148 => ?_)
        refine tr_gd (fun h150 => ?_)
        refine tr_blk 7 (pc' := 1288) (rows' := kb_0_1268.drop 15) (loc' := [.inr (31, xs.1, 0, 0), .inr (11, 0, 0, 0), .inr (12, 0, 0, 72), .inr (22, 1, 0, 570), .inl (.int x4), .inl (.int v149), d6, ab_top]) (st' := [.inl (.int (xs.2 ((x4 + (1 : Int32))).toNatClampNeg)), .inr (12, 0, 0, 72)]) (P1 := P148) rfl ⟨trivial, trivial, trivial, trivial, trivial, trivial, ⟨h150, rfl⟩, trivial⟩ ?_
        refine tr_cWI (z := km_41) (av := [.inr (12, 0, 0, 72), .inl (.int (xs.2 ((x4 + (1 : Int32))).toNatClampNeg))]) (st' := []) rfl rfl rfl (Nat.le_of_ble_eq_true rfl) ⟨rfl, Or.inl (by decide)⟩ rfl (Nat.le_of_ble_eq_true rfl) (t_41 N (xs.2 ((x4 + (1 : Int32))).toNatClampNeg) P148) (fun v152 P151 => ?_)
        refine tr_blk 2 (pc' := 1294) (rows' := kb_0_1268.drop 18) (loc' := [.inr (31, xs.1, 0, 0), .inr (11, 0, 0, 0), .inr (12, 0, 0, 72), .inr (22, 1, 0, 570), .inl (.int x4), .inl (.int v149), .inl (.int v152), ab_top]) (st' := [.inr (12, 0, 0, 72)]) (P1 := P151) rfl ⟨trivial, trivial, trivial⟩ ?_
        refine tr_cRI (z := km_7) (av := [.inr (12, 0, 0, 72)]) (st' := []) rfl rfl rfl (Nat.le_of_ble_eq_true rfl) ⟨rfl, Or.inl (by decide)⟩ rfl (Nat.le_of_ble_eq_true rfl) (t_7 P151) (fun v153 => ?_)
        refine tr_blk 1 (pc' := 1299) (rows' := kb_0_1268.drop 20) (loc' := [.inr (31, xs.1, 0, 0), .inr (11, 0, 0, 0), .inr (12, 0, 0, 72), .inr (22, 1, 0, 570), .inl (.int x4), .inl (.int v149), .inl (.int v152), ab_top]) (st' := [.inl (.int v149), .inl (.int v153)]) (P1 := P151) rfl ⟨trivial, trivial⟩ ?_
        refine tr_if (fun h416 => ?_) (fun h416 => ?_)
        · refine tr_icT (cd := .eq) h416 ?_
          refine tr_nil (rows2 := kb_0_1304) rfl (List.cons_ne_nil _ _) ?_
          refine tr_blk 1 (pc' := 1306) (rows' := kb_0_1304.drop 1) (loc' := [.inr (31, xs.1, 0, 0), .inr (11, 0, 0, 0), .inr (12, 0, 0, 72), .inr (22, 1, 0, 570), .inl (.int x4), .inl (.int v149), .inl (.int v152), ab_top]) (st' := [.inl (.int v149)]) (P1 := P151) rfl ⟨trivial, trivial⟩ ?_
          refine tr_if (fun h417 => ?_) (fun h417 => ?_)
          · refine tr_ifF (cd := .ne) (fun q => q h417) ?_
            refine tr_blk 6 (pc' := 1316) (rows' := kb_0_1304.drop 8) (loc' := [.inr (31, xs.1, 0, 0), .inr (11, 0, 0, 0), .inr (12, 0, 0, 72), .inr (22, 1, 0, 570), .inl (.int x4), .inl (.int v149), .inl (.int v152), ab_top]) (st' := [.inl (.int (lg_cmp (P151.2.1 570 0) (v152).toInt64))]) (P1 := P151) rfl ⟨trivial, trivial, (ab_vi (by decide)), trivial, trivial, trivial, trivial⟩ ?_
            refine tr_if (fun h418 => ?_) (fun h418 => ?_)
            · refine tr_ifT (cd := .eq) h418 ?_
              refine tr_nil (rows2 := kb_0_1321) rfl (List.cons_ne_nil _ _) ?_
              refine tr_goto ?_
              refine tr_nil (rows2 := kb_0_2660) rfl (List.cons_ne_nil _ _) ?_
              refine tr_blk 1 (pc' := 2663) (rows' := kb_0_2660.drop 1) (loc' := [.inr (31, xs.1, 0, 0), .inr (11, 0, 0, 0), .inr (12, 0, 0, 72), .inr (22, 1, 0, 570), .inl (.int (x4 + 8)), .inl (.int v149), .inl (.int v152), ab_top]) (st' := []) (P1 := P151) rfl ⟨trivial, trivial⟩ ?_
              refine tr_goto ?_
              exact ih (x4 + 8) (.inl (.int v149)) (.inl (.int v152)) P151
            · refine tr_ifF (cd := .eq) h418 ?_
              refine tr_blk 1 (pc' := 1320) (rows' := kb_0_1304.drop 10) (loc' := [.inr (31, xs.1, 0, 0), .inr (11, 0, 0, 0), .inr (12, 0, 0, 72), .inr (22, 1, 0, 570), .inl (.int x4), .inl (.int v149), .inl (.int v152), ab_top]) (st' := [.inl (.int (0 : Int32))]) (P1 := P151) rfl ⟨trivial, trivial⟩ ?_
              exact tr_reI (z := km_0) rfl ⟨_, rfl, rfl⟩ rfl
          · refine tr_ifT (cd := .ne) h417 ?_
            refine tr_nil (rows2 := kb_0_1321) rfl (List.cons_ne_nil _ _) ?_
            refine tr_goto ?_
            refine tr_nil (rows2 := kb_0_2660) rfl (List.cons_ne_nil _ _) ?_
            refine tr_blk 1 (pc' := 2663) (rows' := kb_0_2660.drop 1) (loc' := [.inr (31, xs.1, 0, 0), .inr (11, 0, 0, 0), .inr (12, 0, 0, 72), .inr (22, 1, 0, 570), .inl (.int (x4 + 8)), .inl (.int v149), .inl (.int v152), ab_top]) (st' := []) (P1 := P151) rfl ⟨trivial, trivial⟩ ?_
            refine tr_goto ?_
            exact ih (x4 + 8) (.inl (.int v149)) (.inl (.int v152)) P151
        · refine tr_icF (cd := .eq) h416 ?_
          refine tr_blk 1 (pc' := 1303) (rows' := kb_0_1268.drop 22) (loc' := [.inr (31, xs.1, 0, 0), .inr (11, 0, 0, 0), .inr (12, 0, 0, 72), .inr (22, 1, 0, 570), .inl (.int x4), .inl (.int v149), .inl (.int v152), ab_top]) (st' := [.inl (.int (0 : Int32))]) (P1 := P151) rfl ⟨trivial, trivial⟩ ?_
          exact tr_reI (z := km_0) rfl ⟨_, rfl, rfl⟩ rfl
      refine tr_if (fun h419 => ?_) (fun h419 => ?_)
      · refine tr_sw (t := 1324) (by rw [h419]; rfl) ?_
        refine tr_nil (rows2 := kb_0_1324) rfl (List.cons_ne_nil _ _) ?_
        refine tr_gd (fun h154 => ?_)
        refine tr_blk 7 (pc' := 1332) (rows' := kb_0_1324.drop 7) (loc' := [.inr (31, xs.1, 0, 0), .inr (11, 0, 0, 0), .inr (12, 0, 0, 72), .inr (22, 1, 0, 570), .inl (.int x4), d5, d6, ab_top]) (st' := [.inr (22, 1, 0, 570), .inl (.int (xs.2 ((x4 + (1 : Int32))).toNatClampNeg)), .inr (11, 0, 0, 0)]) (P1 := P) rfl ⟨trivial, trivial, trivial, trivial, trivial, ⟨h154, rfl⟩, trivial, trivial⟩ ?_
        refine tr_cWI (z := km_42) (av := [.inr (11, 0, 0, 0), .inl (.int (xs.2 ((x4 + (1 : Int32))).toNatClampNeg)), .inr (22, 1, 0, 570)]) (st' := []) rfl rfl rfl (Nat.le_of_ble_eq_true rfl) trivial rfl (Nat.le_of_ble_eq_true rfl) (t_42_1 N (xs.2 ((x4 + (1 : Int32))).toNatClampNeg) P) (fun v156 P155 => ?_)
        refine tr_gd (fun h157 => ?_)
        refine tr_blk 7 (pc' := 1344) (rows' := kb_0_1324.drop 15) (loc' := [.inr (31, xs.1, 0, 0), .inr (11, 0, 0, 0), .inr (12, 0, 0, 72), .inr (22, 1, 0, 570), .inl (.int x4), .inl (.int v156), d6, ab_top]) (st' := [.inl (.int (xs.2 ((x4 + (1 : Int32))).toNatClampNeg)), .inr (12, 0, 0, 72)]) (P1 := P155) rfl ⟨trivial, trivial, trivial, trivial, trivial, trivial, ⟨h157, rfl⟩, trivial⟩ ?_
        refine tr_cWI (z := km_43) (av := [.inr (12, 0, 0, 72), .inl (.int (xs.2 ((x4 + (1 : Int32))).toNatClampNeg))]) (st' := []) rfl rfl rfl (Nat.le_of_ble_eq_true rfl) ⟨rfl, Or.inl (by decide)⟩ rfl (Nat.le_of_ble_eq_true rfl) (t_43 N (xs.2 ((x4 + (1 : Int32))).toNatClampNeg) P155) (fun v159 P158 => ?_)
        refine tr_blk 2 (pc' := 1350) (rows' := kb_0_1324.drop 18) (loc' := [.inr (31, xs.1, 0, 0), .inr (11, 0, 0, 0), .inr (12, 0, 0, 72), .inr (22, 1, 0, 570), .inl (.int x4), .inl (.int v156), .inl (.int v159), ab_top]) (st' := [.inr (12, 0, 0, 72)]) (P1 := P158) rfl ⟨trivial, trivial, trivial⟩ ?_
        refine tr_cRI (z := km_7) (av := [.inr (12, 0, 0, 72)]) (st' := []) rfl rfl rfl (Nat.le_of_ble_eq_true rfl) ⟨rfl, Or.inl (by decide)⟩ rfl (Nat.le_of_ble_eq_true rfl) (t_7 P158) (fun v160 => ?_)
        refine tr_blk 1 (pc' := 1355) (rows' := kb_0_1324.drop 20) (loc' := [.inr (31, xs.1, 0, 0), .inr (11, 0, 0, 0), .inr (12, 0, 0, 72), .inr (22, 1, 0, 570), .inl (.int x4), .inl (.int v156), .inl (.int v159), ab_top]) (st' := [.inl (.int v156), .inl (.int v160)]) (P1 := P158) rfl ⟨trivial, trivial⟩ ?_
        refine tr_if (fun h420 => ?_) (fun h420 => ?_)
        · refine tr_icT (cd := .eq) h420 ?_
          refine tr_nil (rows2 := kb_0_1360) rfl (List.cons_ne_nil _ _) ?_
          refine tr_blk 1 (pc' := 1362) (rows' := kb_0_1360.drop 1) (loc' := [.inr (31, xs.1, 0, 0), .inr (11, 0, 0, 0), .inr (12, 0, 0, 72), .inr (22, 1, 0, 570), .inl (.int x4), .inl (.int v156), .inl (.int v159), ab_top]) (st' := [.inl (.int v156)]) (P1 := P158) rfl ⟨trivial, trivial⟩ ?_
          refine tr_if (fun h421 => ?_) (fun h421 => ?_)
          · refine tr_ifF (cd := .ne) (fun q => q h421) ?_
            refine tr_blk 6 (pc' := 1372) (rows' := kb_0_1360.drop 8) (loc' := [.inr (31, xs.1, 0, 0), .inr (11, 0, 0, 0), .inr (12, 0, 0, 72), .inr (22, 1, 0, 570), .inl (.int x4), .inl (.int v156), .inl (.int v159), ab_top]) (st' := [.inl (.int (lg_cmp (P158.2.1 570 0) (v159).toInt64))]) (P1 := P158) rfl ⟨trivial, trivial, (ab_vi (by decide)), trivial, trivial, trivial, trivial⟩ ?_
            refine tr_if (fun h422 => ?_) (fun h422 => ?_)
            · refine tr_ifT (cd := .eq) h422 ?_
              refine tr_nil (rows2 := kb_0_1377) rfl (List.cons_ne_nil _ _) ?_
              refine tr_goto ?_
              refine tr_nil (rows2 := kb_0_2660) rfl (List.cons_ne_nil _ _) ?_
              refine tr_blk 1 (pc' := 2663) (rows' := kb_0_2660.drop 1) (loc' := [.inr (31, xs.1, 0, 0), .inr (11, 0, 0, 0), .inr (12, 0, 0, 72), .inr (22, 1, 0, 570), .inl (.int (x4 + 8)), .inl (.int v156), .inl (.int v159), ab_top]) (st' := []) (P1 := P158) rfl ⟨trivial, trivial⟩ ?_
              refine tr_goto ?_
              exact ih (x4 + 8) (.inl (.int v156)) (.inl (.int v159)) P158
            · refine tr_ifF (cd := .eq) h422 ?_
              refine tr_blk 1 (pc' := 1376) (rows' := kb_0_1360.drop 10) (loc' := [.inr (31, xs.1, 0, 0), .inr (11, 0, 0, 0), .inr (12, 0, 0, 72), .inr (22, 1, 0, 570), .inl (.int x4), .inl (.int v156), .inl (.int v159), ab_top]) (st' := [.inl (.int (0 : Int32))]) (P1 := P158) rfl ⟨trivial, trivial⟩ ?_
              exact tr_reI (z := km_0) rfl ⟨_, rfl, rfl⟩ rfl
          · refine tr_ifT (cd := .ne) h421 ?_
            refine tr_nil (rows2 := kb_0_1377) rfl (List.cons_ne_nil _ _) ?_
            refine tr_goto ?_
            refine tr_nil (rows2 := kb_0_2660) rfl (List.cons_ne_nil _ _) ?_
            refine tr_blk 1 (pc' := 2663) (rows' := kb_0_2660.drop 1) (loc' := [.inr (31, xs.1, 0, 0), .inr (11, 0, 0, 0), .inr (12, 0, 0, 72), .inr (22, 1, 0, 570), .inl (.int (x4 + 8)), .inl (.int v156), .inl (.int v159), ab_top]) (st' := []) (P1 := P158) rfl ⟨trivial, trivial⟩ ?_
            refine tr_goto ?_
            exact ih (x4 + 8) (.inl (.int v156)) (.inl (.int v159)) P158
        · refine tr_icF (cd := .eq) h420 ?_
          refine tr_blk 1 (pc' := 1359) (rows' := kb_0_1324.drop 22) (loc' := [.inr (31, xs.1, 0, 0), .inr (11, 0, 0, 0), .inr (12, 0, 0, 72), .inr (22, 1, 0, 570), .inl (.int x4), .inl (.int v156), .inl (.int v159), ab_top]) (st' := [.inl (.int (0 : Int32))]) (P1 := P158) rfl ⟨trivial, trivial⟩ ?_
          exact tr_reI (z := km_0) rfl ⟨_, rfl, rfl⟩ rfl
      refine tr_if (fun h423 => ?_) (fun h423 => ?_)
      · refine tr_sw (t := 1380) (by rw [h423]; rfl) ?_
        refine tr_nil (rows2 := kb_0_1380) rfl (List.cons_ne_nil _ _) ?_
        refine tr_gd (fun h161 => ?_)
        refine tr_blk 6 (pc' := 1387) (rows' := kb_0_1380.drop 6) (loc' := [.inr (31, xs.1, 0, 0), .inr (11, 0, 0, 0), .inr (12, 0, 0, 72), .inr (22, 1, 0, 570), .inl (.int x4), d5, d6, ab_top]) (st' := [.inl (.int (xs.2 ((x4 + (1 : Int32))).toNatClampNeg)), .inr (11, 0, 0, 0)]) (P1 := P) rfl ⟨trivial, trivial, trivial, trivial, trivial, ⟨h161, rfl⟩, trivial⟩ ?_
        refine tr_cWI (z := km_44) (av := [.inr (11, 0, 0, 0), .inl (.int (xs.2 ((x4 + (1 : Int32))).toNatClampNeg))]) (st' := []) rfl rfl rfl (Nat.le_of_ble_eq_true rfl) ⟨rfl, Or.inl (by decide)⟩ rfl (Nat.le_of_ble_eq_true rfl) (t_44 N (xs.2 ((x4 + (1 : Int32))).toNatClampNeg) P) (fun v163 P162 => ?_)
        refine tr_gd (fun h164 => ?_)
        refine tr_blk 6 (pc' := 1397) (rows' := kb_0_1380.drop 13) (loc' := [.inr (31, xs.1, 0, 0), .inr (11, 0, 0, 0), .inr (12, 0, 0, 72), .inr (22, 1, 0, 570), .inl (.int x4), d5, d6, ab_top]) (st' := [.inl (.int (xs.2 ((x4 + (1 : Int32))).toNatClampNeg)), .inr (12, 0, 0, 72), .inl (.int v163)]) (P1 := P162) rfl ⟨trivial, trivial, trivial, trivial, trivial, ⟨h164, rfl⟩, trivial⟩ ?_
        refine tr_cWI (z := km_45) (av := [.inr (12, 0, 0, 72), .inl (.int (xs.2 ((x4 + (1 : Int32))).toNatClampNeg))]) (st' := [.inl (.int v163)]) rfl rfl rfl (Nat.le_of_ble_eq_true rfl) ⟨rfl, Or.inl (by decide)⟩ rfl (Nat.le_of_ble_eq_true rfl) (t_45 N (xs.2 ((x4 + (1 : Int32))).toNatClampNeg) P162) (fun v166 P165 => ?_)
        refine tr_if (fun h424 => ?_) (fun h424 => ?_)
        · refine tr_icT (cd := .eq) h424 ?_
          refine tr_nil (rows2 := kb_0_2660) rfl (List.cons_ne_nil _ _) ?_
          refine tr_blk 1 (pc' := 2663) (rows' := kb_0_2660.drop 1) (loc' := [.inr (31, xs.1, 0, 0), .inr (11, 0, 0, 0), .inr (12, 0, 0, 72), .inr (22, 1, 0, 570), .inl (.int (x4 + 8)), d5, d6, ab_top]) (st' := []) (P1 := P165) rfl ⟨trivial, trivial⟩ ?_
          refine tr_goto ?_
          exact ih (x4 + 8) (d5) (d6) P165
        · refine tr_icF (cd := .eq) h424 ?_
          refine tr_blk 1 (pc' := 1404) (rows' := kb_0_1380.drop 16) (loc' := [.inr (31, xs.1, 0, 0), .inr (11, 0, 0, 0), .inr (12, 0, 0, 72), .inr (22, 1, 0, 570), .inl (.int x4), d5, d6, ab_top]) (st' := [.inl (.int (0 : Int32))]) (P1 := P165) rfl ⟨trivial, trivial⟩ ?_
          exact tr_reI (z := km_0) rfl ⟨_, rfl, rfl⟩ rfl
      refine tr_if (fun h425 => ?_) (fun h425 => ?_)
      · refine tr_sw (t := 1405) (by rw [h425]; rfl) ?_
        refine tr_nil (rows2 := kb_0_1405) rfl (List.cons_ne_nil _ _) ?_
        refine tr_blk 1 (pc' := 1406) (rows' := kb_0_1405.drop 1) (loc' := [.inr (31, xs.1, 0, 0), .inr (11, 0, 0, 0), .inr (12, 0, 0, 72), .inr (22, 1, 0, 570), .inl (.int x4), d5, d6, ab_top]) (st' := [.inr (11, 0, 0, 0)]) (P1 := P) rfl ⟨trivial, trivial⟩ ?_
        refine tr_cWI (z := km_46) (av := [.inr (11, 0, 0, 0)]) (st' := []) rfl rfl rfl (Nat.le_of_ble_eq_true rfl) ⟨rfl, Or.inl (by decide)⟩ rfl (Nat.le_of_ble_eq_true rfl) (t_46 N P) (fun v168 P167 => ?_)
        refine tr_blk 1 (pc' := 1410) (rows' := kb_0_1405.drop 3) (loc' := [.inr (31, xs.1, 0, 0), .inr (11, 0, 0, 0), .inr (12, 0, 0, 72), .inr (22, 1, 0, 570), .inl (.int x4), d5, d6, ab_top]) (st' := [.inr (12, 0, 0, 72), .inl (.int v168)]) (P1 := P167) rfl ⟨trivial, trivial⟩ ?_
        refine tr_cWI (z := km_47) (av := [.inr (12, 0, 0, 72)]) (st' := [.inl (.int v168)]) rfl rfl rfl (Nat.le_of_ble_eq_true rfl) ⟨rfl, Or.inl (by decide)⟩ rfl (Nat.le_of_ble_eq_true rfl) (t_47 N P167) (fun v170 P169 => ?_)
        refine tr_if (fun h426 => ?_) (fun h426 => ?_)
        · refine tr_icT (cd := .eq) h426 ?_
          refine tr_nil (rows2 := kb_0_2660) rfl (List.cons_ne_nil _ _) ?_
          refine tr_blk 1 (pc' := 2663) (rows' := kb_0_2660.drop 1) (loc' := [.inr (31, xs.1, 0, 0), .inr (11, 0, 0, 0), .inr (12, 0, 0, 72), .inr (22, 1, 0, 570), .inl (.int (x4 + 8)), d5, d6, ab_top]) (st' := []) (P1 := P169) rfl ⟨trivial, trivial⟩ ?_
          refine tr_goto ?_
          exact ih (x4 + 8) (d5) (d6) P169
        · refine tr_icF (cd := .eq) h426 ?_
          refine tr_blk 1 (pc' := 1417) (rows' := kb_0_1405.drop 6) (loc' := [.inr (31, xs.1, 0, 0), .inr (11, 0, 0, 0), .inr (12, 0, 0, 72), .inr (22, 1, 0, 570), .inl (.int x4), d5, d6, ab_top]) (st' := [.inl (.int (0 : Int32))]) (P1 := P169) rfl ⟨trivial, trivial⟩ ?_
          exact tr_reI (z := km_0) rfl ⟨_, rfl, rfl⟩ rfl
      refine tr_if (fun h427 => ?_) (fun h427 => ?_)
      · refine tr_sw (t := 1418) (by rw [h427]; rfl) ?_
        refine tr_nil (rows2 := kb_0_1418) rfl (List.cons_ne_nil _ _) ?_
        refine tr_gd (fun h171 => ?_)
        refine tr_blk 7 (pc' := 1426) (rows' := kb_0_1418.drop 7) (loc' := [.inr (31, xs.1, 0, 0), .inr (11, 0, 0, 0), .inr (12, 0, 0, 72), .inr (22, 1, 0, 570), .inl (.int x4), d5, d6, ab_top]) (st' := [.inr (22, 1, 0, 570), .inl (.int (xs.2 ((x4 + (1 : Int32))).toNatClampNeg)), .inr (11, 0, 0, 0)]) (P1 := P) rfl ⟨trivial, trivial, trivial, trivial, trivial, ⟨h171, rfl⟩, trivial, trivial⟩ ?_
        refine tr_cWI (z := km_48) (av := [.inr (11, 0, 0, 0), .inl (.int (xs.2 ((x4 + (1 : Int32))).toNatClampNeg)), .inr (22, 1, 0, 570)]) (st' := []) rfl rfl rfl (Nat.le_of_ble_eq_true rfl) trivial rfl (Nat.le_of_ble_eq_true rfl) (t_48_1 N (xs.2 ((x4 + (1 : Int32))).toNatClampNeg) P) (fun v173 P172 => ?_)
        refine tr_gd (fun h174 => ?_)
        refine tr_blk 7 (pc' := 1438) (rows' := kb_0_1418.drop 15) (loc' := [.inr (31, xs.1, 0, 0), .inr (11, 0, 0, 0), .inr (12, 0, 0, 72), .inr (22, 1, 0, 570), .inl (.int x4), .inl (.int v173), d6, ab_top]) (st' := [.inl (.int (xs.2 ((x4 + (1 : Int32))).toNatClampNeg)), .inr (12, 0, 0, 72)]) (P1 := P172) rfl ⟨trivial, trivial, trivial, trivial, trivial, trivial, ⟨h174, rfl⟩, trivial⟩ ?_
        refine tr_cWI (z := km_49) (av := [.inr (12, 0, 0, 72), .inl (.int (xs.2 ((x4 + (1 : Int32))).toNatClampNeg))]) (st' := []) rfl rfl rfl (Nat.le_of_ble_eq_true rfl) ⟨rfl, Or.inl (by decide)⟩ rfl (Nat.le_of_ble_eq_true rfl) (t_49 N (xs.2 ((x4 + (1 : Int32))).toNatClampNeg) P172) (fun v176 P175 => ?_)
        refine tr_blk 2 (pc' := 1444) (rows' := kb_0_1418.drop 18) (loc' := [.inr (31, xs.1, 0, 0), .inr (11, 0, 0, 0), .inr (12, 0, 0, 72), .inr (22, 1, 0, 570), .inl (.int x4), .inl (.int v173), .inl (.int v176), ab_top]) (st' := [.inr (12, 0, 0, 72)]) (P1 := P175) rfl ⟨trivial, trivial, trivial⟩ ?_
        refine tr_cRI (z := km_7) (av := [.inr (12, 0, 0, 72)]) (st' := []) rfl rfl rfl (Nat.le_of_ble_eq_true rfl) ⟨rfl, Or.inl (by decide)⟩ rfl (Nat.le_of_ble_eq_true rfl) (t_7 P175) (fun v177 => ?_)
        refine tr_blk 1 (pc' := 1449) (rows' := kb_0_1418.drop 20) (loc' := [.inr (31, xs.1, 0, 0), .inr (11, 0, 0, 0), .inr (12, 0, 0, 72), .inr (22, 1, 0, 570), .inl (.int x4), .inl (.int v173), .inl (.int v176), ab_top]) (st' := [.inl (.int v173), .inl (.int v177)]) (P1 := P175) rfl ⟨trivial, trivial⟩ ?_
        refine tr_if (fun h428 => ?_) (fun h428 => ?_)
        · refine tr_icT (cd := .eq) h428 ?_
          refine tr_nil (rows2 := kb_0_1454) rfl (List.cons_ne_nil _ _) ?_
          refine tr_blk 1 (pc' := 1456) (rows' := kb_0_1454.drop 1) (loc' := [.inr (31, xs.1, 0, 0), .inr (11, 0, 0, 0), .inr (12, 0, 0, 72), .inr (22, 1, 0, 570), .inl (.int x4), .inl (.int v173), .inl (.int v176), ab_top]) (st' := [.inl (.int v173)]) (P1 := P175) rfl ⟨trivial, trivial⟩ ?_
          refine tr_if (fun h429 => ?_) (fun h429 => ?_)
          · refine tr_ifF (cd := .ne) (fun q => q h429) ?_
            refine tr_blk 6 (pc' := 1466) (rows' := kb_0_1454.drop 8) (loc' := [.inr (31, xs.1, 0, 0), .inr (11, 0, 0, 0), .inr (12, 0, 0, 72), .inr (22, 1, 0, 570), .inl (.int x4), .inl (.int v173), .inl (.int v176), ab_top]) (st' := [.inl (.int (lg_cmp (P175.2.1 570 0) (v176).toInt64))]) (P1 := P175) rfl ⟨trivial, trivial, (ab_vi (by decide)), trivial, trivial, trivial, trivial⟩ ?_
            refine tr_if (fun h430 => ?_) (fun h430 => ?_)
            · refine tr_ifT (cd := .eq) h430 ?_
              refine tr_nil (rows2 := kb_0_1471) rfl (List.cons_ne_nil _ _) ?_
              refine tr_goto ?_
              refine tr_nil (rows2 := kb_0_2660) rfl (List.cons_ne_nil _ _) ?_
              refine tr_blk 1 (pc' := 2663) (rows' := kb_0_2660.drop 1) (loc' := [.inr (31, xs.1, 0, 0), .inr (11, 0, 0, 0), .inr (12, 0, 0, 72), .inr (22, 1, 0, 570), .inl (.int (x4 + 8)), .inl (.int v173), .inl (.int v176), ab_top]) (st' := []) (P1 := P175) rfl ⟨trivial, trivial⟩ ?_
              refine tr_goto ?_
              exact ih (x4 + 8) (.inl (.int v173)) (.inl (.int v176)) P175
            · refine tr_ifF (cd := .eq) h430 ?_
              refine tr_blk 1 (pc' := 1470) (rows' := kb_0_1454.drop 10) (loc' := [.inr (31, xs.1, 0, 0), .inr (11, 0, 0, 0), .inr (12, 0, 0, 72), .inr (22, 1, 0, 570), .inl (.int x4), .inl (.int v173), .inl (.int v176), ab_top]) (st' := [.inl (.int (0 : Int32))]) (P1 := P175) rfl ⟨trivial, trivial⟩ ?_
              exact tr_reI (z := km_0) rfl ⟨_, rfl, rfl⟩ rfl
          · refine tr_ifT (cd := .ne) h429 ?_
            refine tr_nil (rows2 := kb_0_1471) rfl (List.cons_ne_nil _ _) ?_
            refine tr_goto ?_
            refine tr_nil (rows2 := kb_0_2660) rfl (List.cons_ne_nil _ _) ?_
            refine tr_blk 1 (pc' := 2663) (rows' := kb_0_2660.drop 1) (loc' := [.inr (31, xs.1, 0, 0), .inr (11, 0, 0, 0), .inr (12, 0, 0, 72), .inr (22, 1, 0, 570), .inl (.int (x4 + 8)), .inl (.int v173), .inl (.int v176), ab_top]) (st' := []) (P1 := P175) rfl ⟨trivial, trivial⟩ ?_
            refine tr_goto ?_
            exact ih (x4 + 8) (.inl (.int v173)) (.inl (.int v176)) P175
        · refine tr_icF (cd := .eq) h428 ?_
          refine tr_blk 1 (pc' := 1453) (rows' := kb_0_1418.drop 22) (loc' := [.inr (31, xs.1, 0, 0), .inr (11, 0, 0, 0), .inr (12, 0, 0, 72), .inr (22, 1, 0, 570), .inl (.int x4), .inl (.int v173), .inl (.int v176), ab_top]) (st' := [.inl (.int (0 : Int32))]) (P1 := P175) rfl ⟨trivial, trivial⟩ ?_
          exact tr_reI (z := km_0) rfl ⟨_, rfl, rfl⟩ rfl
      refine tr_if (fun h431 => ?_) (fun h431 => ?_)
      · refine tr_sw (t := 1474) (by rw [h431]; rfl) ?_
        refine tr_nil (rows2 := kb_0_1474) rfl (List.cons_ne_nil _ _) ?_
        refine tr_gd (fun h178 => ?_)
        refine tr_blk 7 (pc' := 1482) (rows' := kb_0_1474.drop 7) (loc' := [.inr (31, xs.1, 0, 0), .inr (11, 0, 0, 0), .inr (12, 0, 0, 72), .inr (22, 1, 0, 570), .inl (.int x4), d5, d6, ab_top]) (st' := [.inr (22, 1, 0, 570), .inl (.int (xs.2 ((x4 + (1 : Int32))).toNatClampNeg)), .inr (11, 0, 0, 0)]) (P1 := P) rfl ⟨trivial, trivial, trivial, trivial, trivial, ⟨h178, rfl⟩, trivial, trivial⟩ ?_
        refine tr_cWI (z := km_50) (av := [.inr (11, 0, 0, 0), .inl (.int (xs.2 ((x4 + (1 : Int32))).toNatClampNeg)), .inr (22, 1, 0, 570)]) (st' := []) rfl rfl rfl (Nat.le_of_ble_eq_true rfl) trivial rfl (Nat.le_of_ble_eq_true rfl) (t_50_1 K N (by omega) (xs.2 ((x4 + (1 : Int32))).toNatClampNeg) P) (fun v180 P179 => ?_)
        refine tr_gd (fun h181 => ?_)
        refine tr_blk 7 (pc' := 1494) (rows' := kb_0_1474.drop 15) (loc' := [.inr (31, xs.1, 0, 0), .inr (11, 0, 0, 0), .inr (12, 0, 0, 72), .inr (22, 1, 0, 570), .inl (.int x4), .inl (.int v180), d6, ab_top]) (st' := [.inl (.int (xs.2 ((x4 + (1 : Int32))).toNatClampNeg)), .inr (12, 0, 0, 72)]) (P1 := P179) rfl ⟨trivial, trivial, trivial, trivial, trivial, trivial, ⟨h181, rfl⟩, trivial⟩ ?_
        refine tr_cWL (z := km_51) (av := [.inr (12, 0, 0, 72), .inl (.int (xs.2 ((x4 + (1 : Int32))).toNatClampNeg))]) (st' := []) rfl rfl rfl (Nat.le_of_ble_eq_true rfl) ⟨rfl, Or.inl (by decide)⟩ rfl (Nat.le_of_ble_eq_true rfl) (t_51 N (xs.2 ((x4 + (1 : Int32))).toNatClampNeg) P179) (fun v183 P182 => ?_)
        refine tr_blk 2 (pc' := 1500) (rows' := kb_0_1474.drop 18) (loc' := [.inr (31, xs.1, 0, 0), .inr (11, 0, 0, 0), .inr (12, 0, 0, 72), .inr (22, 1, 0, 570), .inl (.int x4), .inl (.int v180), .inl (.long v183), ab_top]) (st' := [.inr (12, 0, 0, 72)]) (P1 := P182) rfl ⟨trivial, trivial, trivial⟩ ?_
        refine tr_cRI (z := km_7) (av := [.inr (12, 0, 0, 72)]) (st' := []) rfl rfl rfl (Nat.le_of_ble_eq_true rfl) ⟨rfl, Or.inl (by decide)⟩ rfl (Nat.le_of_ble_eq_true rfl) (t_7 P182) (fun v184 => ?_)
        refine tr_blk 1 (pc' := 1505) (rows' := kb_0_1474.drop 20) (loc' := [.inr (31, xs.1, 0, 0), .inr (11, 0, 0, 0), .inr (12, 0, 0, 72), .inr (22, 1, 0, 570), .inl (.int x4), .inl (.int v180), .inl (.long v183), ab_top]) (st' := [.inl (.int v180), .inl (.int v184)]) (P1 := P182) rfl ⟨trivial, trivial⟩ ?_
        refine tr_if (fun h432 => ?_) (fun h432 => ?_)
        · refine tr_icT (cd := .eq) h432 ?_
          refine tr_nil (rows2 := kb_0_1510) rfl (List.cons_ne_nil _ _) ?_
          refine tr_blk 1 (pc' := 1512) (rows' := kb_0_1510.drop 1) (loc' := [.inr (31, xs.1, 0, 0), .inr (11, 0, 0, 0), .inr (12, 0, 0, 72), .inr (22, 1, 0, 570), .inl (.int x4), .inl (.int v180), .inl (.long v183), ab_top]) (st' := [.inl (.int v180)]) (P1 := P182) rfl ⟨trivial, trivial⟩ ?_
          refine tr_if (fun h433 => ?_) (fun h433 => ?_)
          · refine tr_ifF (cd := .ne) (fun q => q h433) ?_
            refine tr_blk 5 (pc' := 1521) (rows' := kb_0_1510.drop 7) (loc' := [.inr (31, xs.1, 0, 0), .inr (11, 0, 0, 0), .inr (12, 0, 0, 72), .inr (22, 1, 0, 570), .inl (.int x4), .inl (.int v180), .inl (.long v183), ab_top]) (st' := [.inl (.int (lg_cmp (P182.2.1 570 0) v183))]) (P1 := P182) rfl ⟨trivial, trivial, (ab_vi (by decide)), trivial, trivial, trivial⟩ ?_
            refine tr_if (fun h434 => ?_) (fun h434 => ?_)
            · refine tr_ifT (cd := .eq) h434 ?_
              refine tr_nil (rows2 := kb_0_1526) rfl (List.cons_ne_nil _ _) ?_
              refine tr_goto ?_
              refine tr_nil (rows2 := kb_0_2660) rfl (List.cons_ne_nil _ _) ?_
              refine tr_blk 1 (pc' := 2663) (rows' := kb_0_2660.drop 1) (loc' := [.inr (31, xs.1, 0, 0), .inr (11, 0, 0, 0), .inr (12, 0, 0, 72), .inr (22, 1, 0, 570), .inl (.int (x4 + 8)), .inl (.int v180), .inl (.long v183), ab_top]) (st' := []) (P1 := P182) rfl ⟨trivial, trivial⟩ ?_
              refine tr_goto ?_
              exact ih (x4 + 8) (.inl (.int v180)) (.inl (.long v183)) P182
            · refine tr_ifF (cd := .eq) h434 ?_
              refine tr_blk 1 (pc' := 1525) (rows' := kb_0_1510.drop 9) (loc' := [.inr (31, xs.1, 0, 0), .inr (11, 0, 0, 0), .inr (12, 0, 0, 72), .inr (22, 1, 0, 570), .inl (.int x4), .inl (.int v180), .inl (.long v183), ab_top]) (st' := [.inl (.int (0 : Int32))]) (P1 := P182) rfl ⟨trivial, trivial⟩ ?_
              exact tr_reI (z := km_0) rfl ⟨_, rfl, rfl⟩ rfl
          · refine tr_ifT (cd := .ne) h433 ?_
            refine tr_nil (rows2 := kb_0_1526) rfl (List.cons_ne_nil _ _) ?_
            refine tr_goto ?_
            refine tr_nil (rows2 := kb_0_2660) rfl (List.cons_ne_nil _ _) ?_
            refine tr_blk 1 (pc' := 2663) (rows' := kb_0_2660.drop 1) (loc' := [.inr (31, xs.1, 0, 0), .inr (11, 0, 0, 0), .inr (12, 0, 0, 72), .inr (22, 1, 0, 570), .inl (.int (x4 + 8)), .inl (.int v180), .inl (.long v183), ab_top]) (st' := []) (P1 := P182) rfl ⟨trivial, trivial⟩ ?_
            refine tr_goto ?_
            exact ih (x4 + 8) (.inl (.int v180)) (.inl (.long v183)) P182
        · refine tr_icF (cd := .eq) h432 ?_
          refine tr_blk 1 (pc' := 1509) (rows' := kb_0_1474.drop 22) (loc' := [.inr (31, xs.1, 0, 0), .inr (11, 0, 0, 0), .inr (12, 0, 0, 72), .inr (22, 1, 0, 570), .inl (.int x4), .inl (.int v180), .inl (.long v183), ab_top]) (st' := [.inl (.int (0 : Int32))]) (P1 := P182) rfl ⟨trivial, trivial⟩ ?_
          exact tr_reI (z := km_0) rfl ⟨_, rfl, rfl⟩ rfl
      refine tr_if (fun h435 => ?_) (fun h435 => ?_)
      · refine tr_sw (t := 1529) (by rw [h435]; rfl) ?_
        refine tr_nil (rows2 := kb_0_1529) rfl (List.cons_ne_nil _ _) ?_
        refine tr_blk 1 (pc' := 1530) (rows' := kb_0_1529.drop 1) (loc' := [.inr (31, xs.1, 0, 0), .inr (11, 0, 0, 0), .inr (12, 0, 0, 72), .inr (22, 1, 0, 570), .inl (.int x4), d5, d6, ab_top]) (st' := [.inr (11, 0, 0, 0)]) (P1 := P) rfl ⟨trivial, trivial⟩ ?_
        refine tr_cRI (z := km_52) (av := [.inr (11, 0, 0, 0)]) (st' := []) rfl rfl rfl (Nat.le_of_ble_eq_true rfl) ⟨rfl, Or.inl (by decide)⟩ rfl (Nat.le_of_ble_eq_true rfl) (t_52 N P) (fun v185 => ?_)
        refine tr_blk 1 (pc' := 1534) (rows' := kb_0_1529.drop 3) (loc' := [.inr (31, xs.1, 0, 0), .inr (11, 0, 0, 0), .inr (12, 0, 0, 72), .inr (22, 1, 0, 570), .inl (.int x4), d5, d6, ab_top]) (st' := [.inr (12, 0, 0, 72), .inl (.int v185)]) (P1 := P) rfl ⟨trivial, trivial⟩ ?_
        refine tr_cWI (z := km_53) (av := [.inr (12, 0, 0, 72)]) (st' := [.inl (.int v185)]) rfl rfl rfl (Nat.le_of_ble_eq_true rfl) ⟨rfl, Or.inl (by decide)⟩ rfl (Nat.le_of_ble_eq_true rfl) (t_53 N P) (fun v187 P186 => ?_)
        refine tr_if (fun h436 => ?_) (fun h436 => ?_)
        · refine tr_icT (cd := .eq) h436 ?_
          refine tr_nil (rows2 := kb_0_2660) rfl (List.cons_ne_nil _ _) ?_
          refine tr_blk 1 (pc' := 2663) (rows' := kb_0_2660.drop 1) (loc' := [.inr (31, xs.1, 0, 0), .inr (11, 0, 0, 0), .inr (12, 0, 0, 72), .inr (22, 1, 0, 570), .inl (.int (x4 + 8)), d5, d6, ab_top]) (st' := []) (P1 := P186) rfl ⟨trivial, trivial⟩ ?_
          refine tr_goto ?_
          exact ih (x4 + 8) (d5) (d6) P186
        · refine tr_icF (cd := .eq) h436 ?_
          refine tr_blk 1 (pc' := 1541) (rows' := kb_0_1529.drop 6) (loc' := [.inr (31, xs.1, 0, 0), .inr (11, 0, 0, 0), .inr (12, 0, 0, 72), .inr (22, 1, 0, 570), .inl (.int x4), d5, d6, ab_top]) (st' := [.inl (.int (0 : Int32))]) (P1 := P186) rfl ⟨trivial, trivial⟩ ?_
          exact tr_reI (z := km_0) rfl ⟨_, rfl, rfl⟩ rfl
      refine tr_if (fun h437 => ?_) (fun h437 => ?_)
      · refine tr_sw (t := 1542) (by rw [h437]; rfl) ?_
        refine tr_nil (rows2 := kb_0_1542) rfl (List.cons_ne_nil _ _) ?_
        refine tr_gd (fun h188 => ?_)
        refine tr_gd (fun h189 => ?_)
        refine tr_blk 12 (pc' := 1556) (rows' := kb_0_1542.drop 12) (loc' := [.inr (31, xs.1, 0, 0), .inr (11, 0, 0, 0), .inr (12, 0, 0, 72), .inr (22, 1, 0, 570), .inl (.int x4), d5, d6, ab_top]) (st' := [.inr (22, 1, 0, 570), .inl (.int (xs.2 ((x4 + (2 : Int32))).toNatClampNeg)), .inl (.int (xs.2 ((x4 + (1 : Int32))).toNatClampNeg)), .inr (11, 0, 0, 0)]) (P1 := P) rfl ⟨trivial, trivial, trivial, trivial, trivial, ⟨h188, rfl⟩, trivial, trivial, trivial, trivial, ⟨h189, rfl⟩, trivial, trivial⟩ ?_
        refine tr_cWI (z := km_54) (av := [.inr (11, 0, 0, 0), .inl (.int (xs.2 ((x4 + (1 : Int32))).toNatClampNeg)), .inl (.int (xs.2 ((x4 + (2 : Int32))).toNatClampNeg)), .inr (22, 1, 0, 570)]) (st' := []) rfl rfl rfl (Nat.le_of_ble_eq_true rfl) trivial rfl (Nat.le_of_ble_eq_true rfl) (t_54_1 N (xs.2 ((x4 + (1 : Int32))).toNatClampNeg) (xs.2 ((x4 + (2 : Int32))).toNatClampNeg) P) (fun v191 P190 => ?_)
        refine tr_gd (fun h192 => ?_)
        refine tr_gd (fun h193 => ?_)
        refine tr_blk 12 (pc' := 1574) (rows' := kb_0_1542.drop 25) (loc' := [.inr (31, xs.1, 0, 0), .inr (11, 0, 0, 0), .inr (12, 0, 0, 72), .inr (22, 1, 0, 570), .inl (.int x4), .inl (.int v191), d6, ab_top]) (st' := [.inl (.int (xs.2 ((x4 + (2 : Int32))).toNatClampNeg)), .inl (.int (xs.2 ((x4 + (1 : Int32))).toNatClampNeg)), .inr (12, 0, 0, 72)]) (P1 := P190) rfl ⟨trivial, trivial, trivial, trivial, trivial, trivial, ⟨h192, rfl⟩, trivial, trivial, trivial, trivial, ⟨h193, rfl⟩, trivial⟩ ?_
        refine tr_cWI (z := km_55) (av := [.inr (12, 0, 0, 72), .inl (.int (xs.2 ((x4 + (1 : Int32))).toNatClampNeg)), .inl (.int (xs.2 ((x4 + (2 : Int32))).toNatClampNeg))]) (st' := []) rfl rfl rfl (Nat.le_of_ble_eq_true rfl) ⟨rfl, Or.inl (by decide)⟩ rfl (Nat.le_of_ble_eq_true rfl) (t_55 N (xs.2 ((x4 + (1 : Int32))).toNatClampNeg) (xs.2 ((x4 + (2 : Int32))).toNatClampNeg) P190) (fun v195 P194 => ?_)
        refine tr_blk 2 (pc' := 1580) (rows' := kb_0_1542.drop 28) (loc' := [.inr (31, xs.1, 0, 0), .inr (11, 0, 0, 0), .inr (12, 0, 0, 72), .inr (22, 1, 0, 570), .inl (.int x4), .inl (.int v191), .inl (.int v195), ab_top]) (st' := [.inr (12, 0, 0, 72)]) (P1 := P194) rfl ⟨trivial, trivial, trivial⟩ ?_
        refine tr_cRI (z := km_7) (av := [.inr (12, 0, 0, 72)]) (st' := []) rfl rfl rfl (Nat.le_of_ble_eq_true rfl) ⟨rfl, Or.inl (by decide)⟩ rfl (Nat.le_of_ble_eq_true rfl) (t_7 P194) (fun v196 => ?_)
        refine tr_blk 1 (pc' := 1585) (rows' := kb_0_1542.drop 30) (loc' := [.inr (31, xs.1, 0, 0), .inr (11, 0, 0, 0), .inr (12, 0, 0, 72), .inr (22, 1, 0, 570), .inl (.int x4), .inl (.int v191), .inl (.int v195), ab_top]) (st' := [.inl (.int v191), .inl (.int v196)]) (P1 := P194) rfl ⟨trivial, trivial⟩ ?_
        refine tr_if (fun h438 => ?_) (fun h438 => ?_)
        · refine tr_icT (cd := .eq) h438 ?_
          refine tr_nil (rows2 := kb_0_1590) rfl (List.cons_ne_nil _ _) ?_
          refine tr_blk 1 (pc' := 1592) (rows' := kb_0_1590.drop 1) (loc' := [.inr (31, xs.1, 0, 0), .inr (11, 0, 0, 0), .inr (12, 0, 0, 72), .inr (22, 1, 0, 570), .inl (.int x4), .inl (.int v191), .inl (.int v195), ab_top]) (st' := [.inl (.int v191)]) (P1 := P194) rfl ⟨trivial, trivial⟩ ?_
          refine tr_if (fun h439 => ?_) (fun h439 => ?_)
          · refine tr_ifF (cd := .ne) (fun q => q h439) ?_
            refine tr_blk 6 (pc' := 1602) (rows' := kb_0_1590.drop 8) (loc' := [.inr (31, xs.1, 0, 0), .inr (11, 0, 0, 0), .inr (12, 0, 0, 72), .inr (22, 1, 0, 570), .inl (.int x4), .inl (.int v191), .inl (.int v195), ab_top]) (st' := [.inl (.int (lg_cmp (P194.2.1 570 0) (v195).toInt64))]) (P1 := P194) rfl ⟨trivial, trivial, (ab_vi (by decide)), trivial, trivial, trivial, trivial⟩ ?_
            refine tr_if (fun h440 => ?_) (fun h440 => ?_)
            · refine tr_ifT (cd := .eq) h440 ?_
              refine tr_nil (rows2 := kb_0_1607) rfl (List.cons_ne_nil _ _) ?_
              refine tr_goto ?_
              refine tr_nil (rows2 := kb_0_2660) rfl (List.cons_ne_nil _ _) ?_
              refine tr_blk 1 (pc' := 2663) (rows' := kb_0_2660.drop 1) (loc' := [.inr (31, xs.1, 0, 0), .inr (11, 0, 0, 0), .inr (12, 0, 0, 72), .inr (22, 1, 0, 570), .inl (.int (x4 + 8)), .inl (.int v191), .inl (.int v195), ab_top]) (st' := []) (P1 := P194) rfl ⟨trivial, trivial⟩ ?_
              refine tr_goto ?_
              exact ih (x4 + 8) (.inl (.int v191)) (.inl (.int v195)) P194
            · refine tr_ifF (cd := .eq) h440 ?_
              refine tr_blk 1 (pc' := 1606) (rows' := kb_0_1590.drop 10) (loc' := [.inr (31, xs.1, 0, 0), .inr (11, 0, 0, 0), .inr (12, 0, 0, 72), .inr (22, 1, 0, 570), .inl (.int x4), .inl (.int v191), .inl (.int v195), ab_top]) (st' := [.inl (.int (0 : Int32))]) (P1 := P194) rfl ⟨trivial, trivial⟩ ?_
              exact tr_reI (z := km_0) rfl ⟨_, rfl, rfl⟩ rfl
          · refine tr_ifT (cd := .ne) h439 ?_
            refine tr_nil (rows2 := kb_0_1607) rfl (List.cons_ne_nil _ _) ?_
            refine tr_goto ?_
            refine tr_nil (rows2 := kb_0_2660) rfl (List.cons_ne_nil _ _) ?_
            refine tr_blk 1 (pc' := 2663) (rows' := kb_0_2660.drop 1) (loc' := [.inr (31, xs.1, 0, 0), .inr (11, 0, 0, 0), .inr (12, 0, 0, 72), .inr (22, 1, 0, 570), .inl (.int (x4 + 8)), .inl (.int v191), .inl (.int v195), ab_top]) (st' := []) (P1 := P194) rfl ⟨trivial, trivial⟩ ?_
            refine tr_goto ?_
            exact ih (x4 + 8) (.inl (.int v191)) (.inl (.int v195)) P194
        · refine tr_icF (cd := .eq) h438 ?_
          refine tr_blk 1 (pc' := 1589) (rows' := kb_0_1542.drop 32) (loc' := [.inr (31, xs.1, 0, 0), .inr (11, 0, 0, 0), .inr (12, 0, 0, 72), .inr (22, 1, 0, 570), .inl (.int x4), .inl (.int v191), .inl (.int v195), ab_top]) (st' := [.inl (.int (0 : Int32))]) (P1 := P194) rfl ⟨trivial, trivial⟩ ?_
          exact tr_reI (z := km_0) rfl ⟨_, rfl, rfl⟩ rfl
      refine tr_if (fun h441 => ?_) (fun h441 => ?_)
      · refine tr_sw (t := 1610) (by rw [h441]; rfl) ?_
        refine tr_nil (rows2 := kb_0_1610) rfl (List.cons_ne_nil _ _) ?_
        refine tr_blk 1 (pc' := 1611) (rows' := kb_0_1610.drop 1) (loc' := [.inr (31, xs.1, 0, 0), .inr (11, 0, 0, 0), .inr (12, 0, 0, 72), .inr (22, 1, 0, 570), .inl (.int x4), d5, d6, ab_top]) (st' := [.inr (11, 0, 0, 0)]) (P1 := P) rfl ⟨trivial, trivial⟩ ?_
        refine tr_cWI (z := km_56) (av := [.inr (11, 0, 0, 0)]) (st' := []) rfl rfl rfl (Nat.le_of_ble_eq_true rfl) ⟨rfl, Or.inl (by decide)⟩ rfl (Nat.le_of_ble_eq_true rfl) (t_56 N P) (fun v198 P197 => ?_)
        refine tr_blk 1 (pc' := 1615) (rows' := kb_0_1610.drop 3) (loc' := [.inr (31, xs.1, 0, 0), .inr (11, 0, 0, 0), .inr (12, 0, 0, 72), .inr (22, 1, 0, 570), .inl (.int x4), d5, d6, ab_top]) (st' := [.inr (12, 0, 0, 72), .inl (.int v198)]) (P1 := P197) rfl ⟨trivial, trivial⟩ ?_
        refine tr_cWI (z := km_57) (av := [.inr (12, 0, 0, 72)]) (st' := [.inl (.int v198)]) rfl rfl rfl (Nat.le_of_ble_eq_true rfl) ⟨rfl, Or.inl (by decide)⟩ rfl (Nat.le_of_ble_eq_true rfl) (t_57 N P197) (fun v200 P199 => ?_)
        refine tr_if (fun h442 => ?_) (fun h442 => ?_)
        · refine tr_icT (cd := .eq) h442 ?_
          refine tr_nil (rows2 := kb_0_2660) rfl (List.cons_ne_nil _ _) ?_
          refine tr_blk 1 (pc' := 2663) (rows' := kb_0_2660.drop 1) (loc' := [.inr (31, xs.1, 0, 0), .inr (11, 0, 0, 0), .inr (12, 0, 0, 72), .inr (22, 1, 0, 570), .inl (.int (x4 + 8)), d5, d6, ab_top]) (st' := []) (P1 := P199) rfl ⟨trivial, trivial⟩ ?_
          refine tr_goto ?_
          exact ih (x4 + 8) (d5) (d6) P199
        · refine tr_icF (cd := .eq) h442 ?_
          refine tr_blk 1 (pc' := 1622) (rows' := kb_0_1610.drop 6) (loc' := [.inr (31, xs.1, 0, 0), .inr (11, 0, 0, 0), .inr (12, 0, 0, 72), .inr (22, 1, 0, 570), .inl (.int x4), d5, d6, ab_top]) (st' := [.inl (.int (0 : Int32))]) (P1 := P199) rfl ⟨trivial, trivial⟩ ?_
          exact tr_reI (z := km_0) rfl ⟨_, rfl, rfl⟩ rfl
      refine tr_if (fun h443 => ?_) (fun h443 => ?_)
      · refine tr_sw (t := 1623) (by rw [h443]; rfl) ?_
        refine tr_nil (rows2 := kb_0_1623) rfl (List.cons_ne_nil _ _) ?_
        refine tr_gd (fun h201 => ?_)
        refine tr_blk 7 (pc' := 1631) (rows' := kb_0_1623.drop 7) (loc' := [.inr (31, xs.1, 0, 0), .inr (11, 0, 0, 0), .inr (12, 0, 0, 72), .inr (22, 1, 0, 570), .inl (.int x4), d5, d6, ab_top]) (st' := [.inr (22, 1, 0, 570), .inl (.int (xs.2 ((x4 + (1 : Int32))).toNatClampNeg)), .inr (11, 0, 0, 0)]) (P1 := P) rfl ⟨trivial, trivial, trivial, trivial, trivial, ⟨h201, rfl⟩, trivial, trivial⟩ ?_
        refine tr_cWI (z := km_58) (av := [.inr (11, 0, 0, 0), .inl (.int (xs.2 ((x4 + (1 : Int32))).toNatClampNeg)), .inr (22, 1, 0, 570)]) (st' := []) rfl rfl rfl (Nat.le_of_ble_eq_true rfl) trivial rfl (Nat.le_of_ble_eq_true rfl) (t_58_1 (xs.2 ((x4 + (1 : Int32))).toNatClampNeg) P) (fun v203 P202 => ?_)
        refine tr_gd (fun h204 => ?_)
        refine tr_blk 7 (pc' := 1643) (rows' := kb_0_1623.drop 15) (loc' := [.inr (31, xs.1, 0, 0), .inr (11, 0, 0, 0), .inr (12, 0, 0, 72), .inr (22, 1, 0, 570), .inl (.int x4), .inl (.int v203), d6, ab_top]) (st' := [.inl (.int (xs.2 ((x4 + (1 : Int32))).toNatClampNeg)), .inr (12, 0, 0, 72)]) (P1 := P202) rfl ⟨trivial, trivial, trivial, trivial, trivial, trivial, ⟨h204, rfl⟩, trivial⟩ ?_
        refine tr_cWI (z := km_59) (av := [.inr (12, 0, 0, 72), .inl (.int (xs.2 ((x4 + (1 : Int32))).toNatClampNeg))]) (st' := []) rfl rfl rfl (Nat.le_of_ble_eq_true rfl) ⟨rfl, Or.inl (by decide)⟩ rfl (Nat.le_of_ble_eq_true rfl) (t_59 (xs.2 ((x4 + (1 : Int32))).toNatClampNeg) P202) (fun v206 P205 => ?_)
        refine tr_blk 2 (pc' := 1649) (rows' := kb_0_1623.drop 18) (loc' := [.inr (31, xs.1, 0, 0), .inr (11, 0, 0, 0), .inr (12, 0, 0, 72), .inr (22, 1, 0, 570), .inl (.int x4), .inl (.int v203), .inl (.int v206), ab_top]) (st' := [.inr (12, 0, 0, 72)]) (P1 := P205) rfl ⟨trivial, trivial, trivial⟩ ?_
        refine tr_cRI (z := km_7) (av := [.inr (12, 0, 0, 72)]) (st' := []) rfl rfl rfl (Nat.le_of_ble_eq_true rfl) ⟨rfl, Or.inl (by decide)⟩ rfl (Nat.le_of_ble_eq_true rfl) (t_7 P205) (fun v207 => ?_)
        refine tr_blk 1 (pc' := 1654) (rows' := kb_0_1623.drop 20) (loc' := [.inr (31, xs.1, 0, 0), .inr (11, 0, 0, 0), .inr (12, 0, 0, 72), .inr (22, 1, 0, 570), .inl (.int x4), .inl (.int v203), .inl (.int v206), ab_top]) (st' := [.inl (.int v203), .inl (.int v207)]) (P1 := P205) rfl ⟨trivial, trivial⟩ ?_
        refine tr_if (fun h444 => ?_) (fun h444 => ?_)
        · refine tr_icT (cd := .eq) h444 ?_
          refine tr_nil (rows2 := kb_0_1659) rfl (List.cons_ne_nil _ _) ?_
          refine tr_blk 1 (pc' := 1661) (rows' := kb_0_1659.drop 1) (loc' := [.inr (31, xs.1, 0, 0), .inr (11, 0, 0, 0), .inr (12, 0, 0, 72), .inr (22, 1, 0, 570), .inl (.int x4), .inl (.int v203), .inl (.int v206), ab_top]) (st' := [.inl (.int v203)]) (P1 := P205) rfl ⟨trivial, trivial⟩ ?_
          refine tr_if (fun h445 => ?_) (fun h445 => ?_)
          · refine tr_ifF (cd := .ne) (fun q => q h445) ?_
            refine tr_blk 6 (pc' := 1671) (rows' := kb_0_1659.drop 8) (loc' := [.inr (31, xs.1, 0, 0), .inr (11, 0, 0, 0), .inr (12, 0, 0, 72), .inr (22, 1, 0, 570), .inl (.int x4), .inl (.int v203), .inl (.int v206), ab_top]) (st' := [.inl (.int (lg_cmp (P205.2.1 570 0) (v206).toInt64))]) (P1 := P205) rfl ⟨trivial, trivial, (ab_vi (by decide)), trivial, trivial, trivial, trivial⟩ ?_
            refine tr_if (fun h446 => ?_) (fun h446 => ?_)
            · refine tr_ifT (cd := .eq) h446 ?_
              refine tr_nil (rows2 := kb_0_1676) rfl (List.cons_ne_nil _ _) ?_
              refine tr_goto ?_
              refine tr_nil (rows2 := kb_0_2660) rfl (List.cons_ne_nil _ _) ?_
              refine tr_blk 1 (pc' := 2663) (rows' := kb_0_2660.drop 1) (loc' := [.inr (31, xs.1, 0, 0), .inr (11, 0, 0, 0), .inr (12, 0, 0, 72), .inr (22, 1, 0, 570), .inl (.int (x4 + 8)), .inl (.int v203), .inl (.int v206), ab_top]) (st' := []) (P1 := P205) rfl ⟨trivial, trivial⟩ ?_
              refine tr_goto ?_
              exact ih (x4 + 8) (.inl (.int v203)) (.inl (.int v206)) P205
            · refine tr_ifF (cd := .eq) h446 ?_
              refine tr_blk 1 (pc' := 1675) (rows' := kb_0_1659.drop 10) (loc' := [.inr (31, xs.1, 0, 0), .inr (11, 0, 0, 0), .inr (12, 0, 0, 72), .inr (22, 1, 0, 570), .inl (.int x4), .inl (.int v203), .inl (.int v206), ab_top]) (st' := [.inl (.int (0 : Int32))]) (P1 := P205) rfl ⟨trivial, trivial⟩ ?_
              exact tr_reI (z := km_0) rfl ⟨_, rfl, rfl⟩ rfl
          · refine tr_ifT (cd := .ne) h445 ?_
            refine tr_nil (rows2 := kb_0_1676) rfl (List.cons_ne_nil _ _) ?_
            refine tr_goto ?_
            refine tr_nil (rows2 := kb_0_2660) rfl (List.cons_ne_nil _ _) ?_
            refine tr_blk 1 (pc' := 2663) (rows' := kb_0_2660.drop 1) (loc' := [.inr (31, xs.1, 0, 0), .inr (11, 0, 0, 0), .inr (12, 0, 0, 72), .inr (22, 1, 0, 570), .inl (.int (x4 + 8)), .inl (.int v203), .inl (.int v206), ab_top]) (st' := []) (P1 := P205) rfl ⟨trivial, trivial⟩ ?_
            refine tr_goto ?_
            exact ih (x4 + 8) (.inl (.int v203)) (.inl (.int v206)) P205
        · refine tr_icF (cd := .eq) h444 ?_
          refine tr_blk 1 (pc' := 1658) (rows' := kb_0_1623.drop 22) (loc' := [.inr (31, xs.1, 0, 0), .inr (11, 0, 0, 0), .inr (12, 0, 0, 72), .inr (22, 1, 0, 570), .inl (.int x4), .inl (.int v203), .inl (.int v206), ab_top]) (st' := [.inl (.int (0 : Int32))]) (P1 := P205) rfl ⟨trivial, trivial⟩ ?_
          exact tr_reI (z := km_0) rfl ⟨_, rfl, rfl⟩ rfl
      refine tr_if (fun h447 => ?_) (fun h447 => ?_)
      · refine tr_sw (t := 1679) (by rw [h447]; rfl) ?_
        refine tr_nil (rows2 := kb_0_1679) rfl (List.cons_ne_nil _ _) ?_
        refine tr_gd (fun h208 => ?_)
        refine tr_blk 7 (pc' := 1687) (rows' := kb_0_1679.drop 7) (loc' := [.inr (31, xs.1, 0, 0), .inr (11, 0, 0, 0), .inr (12, 0, 0, 72), .inr (22, 1, 0, 570), .inl (.int x4), d5, d6, ab_top]) (st' := [.inr (22, 1, 0, 570), .inl (.int (xs.2 ((x4 + (1 : Int32))).toNatClampNeg)), .inr (11, 0, 0, 0)]) (P1 := P) rfl ⟨trivial, trivial, trivial, trivial, trivial, ⟨h208, rfl⟩, trivial, trivial⟩ ?_
        refine tr_cWI (z := km_60) (av := [.inr (11, 0, 0, 0), .inl (.int (xs.2 ((x4 + (1 : Int32))).toNatClampNeg)), .inr (22, 1, 0, 570)]) (st' := []) rfl rfl rfl (Nat.le_of_ble_eq_true rfl) trivial rfl (Nat.le_of_ble_eq_true rfl) (t_60_1 N (xs.2 ((x4 + (1 : Int32))).toNatClampNeg) P) (fun v210 P209 => ?_)
        refine tr_gd (fun h211 => ?_)
        refine tr_blk 7 (pc' := 1699) (rows' := kb_0_1679.drop 15) (loc' := [.inr (31, xs.1, 0, 0), .inr (11, 0, 0, 0), .inr (12, 0, 0, 72), .inr (22, 1, 0, 570), .inl (.int x4), .inl (.int v210), d6, ab_top]) (st' := [.inl (.int (xs.2 ((x4 + (1 : Int32))).toNatClampNeg)), .inr (12, 0, 0, 72)]) (P1 := P209) rfl ⟨trivial, trivial, trivial, trivial, trivial, trivial, ⟨h211, rfl⟩, trivial⟩ ?_
        refine tr_cWI (z := km_61) (av := [.inr (12, 0, 0, 72), .inl (.int (xs.2 ((x4 + (1 : Int32))).toNatClampNeg))]) (st' := []) rfl rfl rfl (Nat.le_of_ble_eq_true rfl) ⟨rfl, Or.inl (by decide)⟩ rfl (Nat.le_of_ble_eq_true rfl) (t_61 N (xs.2 ((x4 + (1 : Int32))).toNatClampNeg) P209) (fun v213 P212 => ?_)
        refine tr_blk 2 (pc' := 1705) (rows' := kb_0_1679.drop 18) (loc' := [.inr (31, xs.1, 0, 0), .inr (11, 0, 0, 0), .inr (12, 0, 0, 72), .inr (22, 1, 0, 570), .inl (.int x4), .inl (.int v210), .inl (.int v213), ab_top]) (st' := [.inr (12, 0, 0, 72)]) (P1 := P212) rfl ⟨trivial, trivial, trivial⟩ ?_
        refine tr_cRI (z := km_7) (av := [.inr (12, 0, 0, 72)]) (st' := []) rfl rfl rfl (Nat.le_of_ble_eq_true rfl) ⟨rfl, Or.inl (by decide)⟩ rfl (Nat.le_of_ble_eq_true rfl) (t_7 P212) (fun v214 => ?_)
        refine tr_blk 1 (pc' := 1710) (rows' := kb_0_1679.drop 20) (loc' := [.inr (31, xs.1, 0, 0), .inr (11, 0, 0, 0), .inr (12, 0, 0, 72), .inr (22, 1, 0, 570), .inl (.int x4), .inl (.int v210), .inl (.int v213), ab_top]) (st' := [.inl (.int v210), .inl (.int v214)]) (P1 := P212) rfl ⟨trivial, trivial⟩ ?_
        refine tr_if (fun h448 => ?_) (fun h448 => ?_)
        · refine tr_icT (cd := .eq) h448 ?_
          refine tr_nil (rows2 := kb_0_1715) rfl (List.cons_ne_nil _ _) ?_
          refine tr_blk 1 (pc' := 1717) (rows' := kb_0_1715.drop 1) (loc' := [.inr (31, xs.1, 0, 0), .inr (11, 0, 0, 0), .inr (12, 0, 0, 72), .inr (22, 1, 0, 570), .inl (.int x4), .inl (.int v210), .inl (.int v213), ab_top]) (st' := [.inl (.int v210)]) (P1 := P212) rfl ⟨trivial, trivial⟩ ?_
          refine tr_if (fun h449 => ?_) (fun h449 => ?_)
          · refine tr_ifF (cd := .ne) (fun q => q h449) ?_
            refine tr_blk 6 (pc' := 1727) (rows' := kb_0_1715.drop 8) (loc' := [.inr (31, xs.1, 0, 0), .inr (11, 0, 0, 0), .inr (12, 0, 0, 72), .inr (22, 1, 0, 570), .inl (.int x4), .inl (.int v210), .inl (.int v213), ab_top]) (st' := [.inl (.int (lg_cmp (P212.2.1 570 0) (v213).toInt64))]) (P1 := P212) rfl ⟨trivial, trivial, (ab_vi (by decide)), trivial, trivial, trivial, trivial⟩ ?_
            refine tr_if (fun h450 => ?_) (fun h450 => ?_)
            · refine tr_ifT (cd := .eq) h450 ?_
              refine tr_nil (rows2 := kb_0_1732) rfl (List.cons_ne_nil _ _) ?_
              refine tr_goto ?_
              refine tr_nil (rows2 := kb_0_2660) rfl (List.cons_ne_nil _ _) ?_
              refine tr_blk 1 (pc' := 2663) (rows' := kb_0_2660.drop 1) (loc' := [.inr (31, xs.1, 0, 0), .inr (11, 0, 0, 0), .inr (12, 0, 0, 72), .inr (22, 1, 0, 570), .inl (.int (x4 + 8)), .inl (.int v210), .inl (.int v213), ab_top]) (st' := []) (P1 := P212) rfl ⟨trivial, trivial⟩ ?_
              refine tr_goto ?_
              exact ih (x4 + 8) (.inl (.int v210)) (.inl (.int v213)) P212
            · refine tr_ifF (cd := .eq) h450 ?_
              refine tr_blk 1 (pc' := 1731) (rows' := kb_0_1715.drop 10) (loc' := [.inr (31, xs.1, 0, 0), .inr (11, 0, 0, 0), .inr (12, 0, 0, 72), .inr (22, 1, 0, 570), .inl (.int x4), .inl (.int v210), .inl (.int v213), ab_top]) (st' := [.inl (.int (0 : Int32))]) (P1 := P212) rfl ⟨trivial, trivial⟩ ?_
              exact tr_reI (z := km_0) rfl ⟨_, rfl, rfl⟩ rfl
          · refine tr_ifT (cd := .ne) h449 ?_
            refine tr_nil (rows2 := kb_0_1732) rfl (List.cons_ne_nil _ _) ?_
            refine tr_goto ?_
            refine tr_nil (rows2 := kb_0_2660) rfl (List.cons_ne_nil _ _) ?_
            refine tr_blk 1 (pc' := 2663) (rows' := kb_0_2660.drop 1) (loc' := [.inr (31, xs.1, 0, 0), .inr (11, 0, 0, 0), .inr (12, 0, 0, 72), .inr (22, 1, 0, 570), .inl (.int (x4 + 8)), .inl (.int v210), .inl (.int v213), ab_top]) (st' := []) (P1 := P212) rfl ⟨trivial, trivial⟩ ?_
            refine tr_goto ?_
            exact ih (x4 + 8) (.inl (.int v210)) (.inl (.int v213)) P212
        · refine tr_icF (cd := .eq) h448 ?_
          refine tr_blk 1 (pc' := 1714) (rows' := kb_0_1679.drop 22) (loc' := [.inr (31, xs.1, 0, 0), .inr (11, 0, 0, 0), .inr (12, 0, 0, 72), .inr (22, 1, 0, 570), .inl (.int x4), .inl (.int v210), .inl (.int v213), ab_top]) (st' := [.inl (.int (0 : Int32))]) (P1 := P212) rfl ⟨trivial, trivial⟩ ?_
          exact tr_reI (z := km_0) rfl ⟨_, rfl, rfl⟩ rfl
      refine tr_if (fun h451 => ?_) (fun h451 => ?_)
      · refine tr_sw (t := 1735) (by rw [h451]; rfl) ?_
        refine tr_nil (rows2 := kb_0_1735) rfl (List.cons_ne_nil _ _) ?_
        refine tr_gd (fun h215 => ?_)
        refine tr_blk 6 (pc' := 1742) (rows' := kb_0_1735.drop 6) (loc' := [.inr (31, xs.1, 0, 0), .inr (11, 0, 0, 0), .inr (12, 0, 0, 72), .inr (22, 1, 0, 570), .inl (.int x4), d5, d6, ab_top]) (st' := [.inl (.int (xs.2 ((x4 + (1 : Int32))).toNatClampNeg)), .inr (11, 0, 0, 0)]) (P1 := P) rfl ⟨trivial, trivial, trivial, trivial, trivial, ⟨h215, rfl⟩, trivial⟩ ?_
        refine tr_cRI (z := km_62) (av := [.inr (11, 0, 0, 0), .inl (.int (xs.2 ((x4 + (1 : Int32))).toNatClampNeg))]) (st' := []) rfl rfl rfl (Nat.le_of_ble_eq_true rfl) ⟨rfl, Or.inl (by decide)⟩ rfl (Nat.le_of_ble_eq_true rfl) (t_62 N P (xs.2 ((x4 + (1 : Int32))).toNatClampNeg)) (fun v216 => ?_)
        refine tr_gd (fun h217 => ?_)
        refine tr_blk 6 (pc' := 1752) (rows' := kb_0_1735.drop 13) (loc' := [.inr (31, xs.1, 0, 0), .inr (11, 0, 0, 0), .inr (12, 0, 0, 72), .inr (22, 1, 0, 570), .inl (.int x4), d5, d6, ab_top]) (st' := [.inl (.int (xs.2 ((x4 + (1 : Int32))).toNatClampNeg)), .inr (12, 0, 0, 72), .inl (.int v216)]) (P1 := P) rfl ⟨trivial, trivial, trivial, trivial, trivial, ⟨h217, rfl⟩, trivial⟩ ?_
        refine tr_cWI (z := km_63) (av := [.inr (12, 0, 0, 72), .inl (.int (xs.2 ((x4 + (1 : Int32))).toNatClampNeg))]) (st' := [.inl (.int v216)]) rfl rfl rfl (Nat.le_of_ble_eq_true rfl) ⟨rfl, Or.inl (by decide)⟩ rfl (Nat.le_of_ble_eq_true rfl) (t_63 N (xs.2 ((x4 + (1 : Int32))).toNatClampNeg) P) (fun v219 P218 => ?_)
        refine tr_if (fun h452 => ?_) (fun h452 => ?_)
        · refine tr_icT (cd := .eq) h452 ?_
          refine tr_nil (rows2 := kb_0_2660) rfl (List.cons_ne_nil _ _) ?_
          refine tr_blk 1 (pc' := 2663) (rows' := kb_0_2660.drop 1) (loc' := [.inr (31, xs.1, 0, 0), .inr (11, 0, 0, 0), .inr (12, 0, 0, 72), .inr (22, 1, 0, 570), .inl (.int (x4 + 8)), d5, d6, ab_top]) (st' := []) (P1 := P218) rfl ⟨trivial, trivial⟩ ?_
          refine tr_goto ?_
          exact ih (x4 + 8) (d5) (d6) P218
        · refine tr_icF (cd := .eq) h452 ?_
          refine tr_blk 1 (pc' := 1759) (rows' := kb_0_1735.drop 16) (loc' := [.inr (31, xs.1, 0, 0), .inr (11, 0, 0, 0), .inr (12, 0, 0, 72), .inr (22, 1, 0, 570), .inl (.int x4), d5, d6, ab_top]) (st' := [.inl (.int (0 : Int32))]) (P1 := P218) rfl ⟨trivial, trivial⟩ ?_
          exact tr_reI (z := km_0) rfl ⟨_, rfl, rfl⟩ rfl
      refine tr_if (fun h453 => ?_) (fun h453 => ?_)
      · refine tr_sw (t := 1760) (by rw [h453]; rfl) ?_
        refine tr_nil (rows2 := kb_0_1760) rfl (List.cons_ne_nil _ _) ?_
        refine tr_gd (fun h220 => ?_)
        refine tr_gd (fun h221 => ?_)
        refine tr_gd (fun h222 => ?_)
        refine tr_gd (fun h223 => ?_)
        refine tr_blk 22 (pc' := 1786) (rows' := kb_0_1760.drop 22) (loc' := [.inr (31, xs.1, 0, 0), .inr (11, 0, 0, 0), .inr (12, 0, 0, 72), .inr (22, 1, 0, 570), .inl (.int x4), d5, d6, ab_top]) (st' := [.inr (22, 1, 0, 570), .inl (.int (xs.2 ((x4 + (4 : Int32))).toNatClampNeg)), .inl (.int (xs.2 ((x4 + (3 : Int32))).toNatClampNeg)), .inl (.int (xs.2 ((x4 + (2 : Int32))).toNatClampNeg)), .inl (.int (xs.2 ((x4 + (1 : Int32))).toNatClampNeg)), .inr (11, 0, 0, 0)]) (P1 := P) rfl ⟨trivial, trivial, trivial, trivial, trivial, ⟨h220, rfl⟩, trivial, trivial, trivial, trivial, ⟨h221, rfl⟩, trivial, trivial, trivial, trivial, ⟨h222, rfl⟩, trivial, trivial, trivial, trivial, ⟨h223, rfl⟩, trivial, trivial⟩ ?_
        refine tr_cWI (z := km_64) (av := [.inr (11, 0, 0, 0), .inl (.int (xs.2 ((x4 + (1 : Int32))).toNatClampNeg)), .inl (.int (xs.2 ((x4 + (2 : Int32))).toNatClampNeg)), .inl (.int (xs.2 ((x4 + (3 : Int32))).toNatClampNeg)), .inl (.int (xs.2 ((x4 + (4 : Int32))).toNatClampNeg)), .inr (22, 1, 0, 570)]) (st' := []) rfl rfl rfl (Nat.le_of_ble_eq_true rfl) trivial rfl (Nat.le_of_ble_eq_true rfl) (t_64_1 (xs.2 ((x4 + (1 : Int32))).toNatClampNeg) (xs.2 ((x4 + (2 : Int32))).toNatClampNeg) (xs.2 ((x4 + (3 : Int32))).toNatClampNeg) (xs.2 ((x4 + (4 : Int32))).toNatClampNeg) P) (fun v225 P224 => ?_)
        refine tr_gd (fun h226 => ?_)
        refine tr_gd (fun h227 => ?_)
        refine tr_gd (fun h228 => ?_)
        refine tr_gd (fun h229 => ?_)
        refine tr_blk 22 (pc' := 1816) (rows' := kb_0_1760.drop 45) (loc' := [.inr (31, xs.1, 0, 0), .inr (11, 0, 0, 0), .inr (12, 0, 0, 72), .inr (22, 1, 0, 570), .inl (.int x4), .inl (.int v225), d6, ab_top]) (st' := [.inl (.int (xs.2 ((x4 + (4 : Int32))).toNatClampNeg)), .inl (.int (xs.2 ((x4 + (3 : Int32))).toNatClampNeg)), .inl (.int (xs.2 ((x4 + (2 : Int32))).toNatClampNeg)), .inl (.int (xs.2 ((x4 + (1 : Int32))).toNatClampNeg)), .inr (12, 0, 0, 72)]) (P1 := P224) rfl ⟨trivial, trivial, trivial, trivial, trivial, trivial, ⟨h226, rfl⟩, trivial, trivial, trivial, trivial, ⟨h227, rfl⟩, trivial, trivial, trivial, trivial, ⟨h228, rfl⟩, trivial, trivial, trivial, trivial, ⟨h229, rfl⟩, trivial⟩ ?_
        refine tr_cWI (z := km_65) (av := [.inr (12, 0, 0, 72), .inl (.int (xs.2 ((x4 + (1 : Int32))).toNatClampNeg)), .inl (.int (xs.2 ((x4 + (2 : Int32))).toNatClampNeg)), .inl (.int (xs.2 ((x4 + (3 : Int32))).toNatClampNeg)), .inl (.int (xs.2 ((x4 + (4 : Int32))).toNatClampNeg))]) (st' := []) rfl rfl rfl (Nat.le_of_ble_eq_true rfl) ⟨rfl, Or.inl (by decide)⟩ rfl (Nat.le_of_ble_eq_true rfl) (t_65 N (xs.2 ((x4 + (1 : Int32))).toNatClampNeg) (xs.2 ((x4 + (2 : Int32))).toNatClampNeg) (xs.2 ((x4 + (3 : Int32))).toNatClampNeg) (xs.2 ((x4 + (4 : Int32))).toNatClampNeg) P224) (fun v231 P230 => ?_)
        refine tr_blk 2 (pc' := 1822) (rows' := kb_0_1760.drop 48) (loc' := [.inr (31, xs.1, 0, 0), .inr (11, 0, 0, 0), .inr (12, 0, 0, 72), .inr (22, 1, 0, 570), .inl (.int x4), .inl (.int v225), .inl (.int v231), ab_top]) (st' := [.inr (12, 0, 0, 72)]) (P1 := P230) rfl ⟨trivial, trivial, trivial⟩ ?_
        refine tr_cRI (z := km_7) (av := [.inr (12, 0, 0, 72)]) (st' := []) rfl rfl rfl (Nat.le_of_ble_eq_true rfl) ⟨rfl, Or.inl (by decide)⟩ rfl (Nat.le_of_ble_eq_true rfl) (t_7 P230) (fun v232 => ?_)
        refine tr_blk 1 (pc' := 1827) (rows' := kb_0_1760.drop 50) (loc' := [.inr (31, xs.1, 0, 0), .inr (11, 0, 0, 0), .inr (12, 0, 0, 72), .inr (22, 1, 0, 570), .inl (.int x4), .inl (.int v225), .inl (.int v231), ab_top]) (st' := [.inl (.int v225), .inl (.int v232)]) (P1 := P230) rfl ⟨trivial, trivial⟩ ?_
        refine tr_if (fun h454 => ?_) (fun h454 => ?_)
        · refine tr_icT (cd := .eq) h454 ?_
          refine tr_nil (rows2 := kb_0_1832) rfl (List.cons_ne_nil _ _) ?_
          refine tr_blk 1 (pc' := 1834) (rows' := kb_0_1832.drop 1) (loc' := [.inr (31, xs.1, 0, 0), .inr (11, 0, 0, 0), .inr (12, 0, 0, 72), .inr (22, 1, 0, 570), .inl (.int x4), .inl (.int v225), .inl (.int v231), ab_top]) (st' := [.inl (.int v225)]) (P1 := P230) rfl ⟨trivial, trivial⟩ ?_
          refine tr_if (fun h455 => ?_) (fun h455 => ?_)
          · refine tr_ifF (cd := .ne) (fun q => q h455) ?_
            refine tr_blk 6 (pc' := 1844) (rows' := kb_0_1832.drop 8) (loc' := [.inr (31, xs.1, 0, 0), .inr (11, 0, 0, 0), .inr (12, 0, 0, 72), .inr (22, 1, 0, 570), .inl (.int x4), .inl (.int v225), .inl (.int v231), ab_top]) (st' := [.inl (.int (lg_cmp (P230.2.1 570 0) (v231).toInt64))]) (P1 := P230) rfl ⟨trivial, trivial, (ab_vi (by decide)), trivial, trivial, trivial, trivial⟩ ?_
            refine tr_if (fun h456 => ?_) (fun h456 => ?_)
            · refine tr_ifT (cd := .eq) h456 ?_
              refine tr_nil (rows2 := kb_0_1849) rfl (List.cons_ne_nil _ _) ?_
              refine tr_goto ?_
              refine tr_nil (rows2 := kb_0_2660) rfl (List.cons_ne_nil _ _) ?_
              refine tr_blk 1 (pc' := 2663) (rows' := kb_0_2660.drop 1) (loc' := [.inr (31, xs.1, 0, 0), .inr (11, 0, 0, 0), .inr (12, 0, 0, 72), .inr (22, 1, 0, 570), .inl (.int (x4 + 8)), .inl (.int v225), .inl (.int v231), ab_top]) (st' := []) (P1 := P230) rfl ⟨trivial, trivial⟩ ?_
              refine tr_goto ?_
              exact ih (x4 + 8) (.inl (.int v225)) (.inl (.int v231)) P230
            · refine tr_ifF (cd := .eq) h456 ?_
              refine tr_blk 1 (pc' := 1848) (rows' := kb_0_1832.drop 10) (loc' := [.inr (31, xs.1, 0, 0), .inr (11, 0, 0, 0), .inr (12, 0, 0, 72), .inr (22, 1, 0, 570), .inl (.int x4), .inl (.int v225), .inl (.int v231), ab_top]) (st' := [.inl (.int (0 : Int32))]) (P1 := P230) rfl ⟨trivial, trivial⟩ ?_
              exact tr_reI (z := km_0) rfl ⟨_, rfl, rfl⟩ rfl
          · refine tr_ifT (cd := .ne) h455 ?_
            refine tr_nil (rows2 := kb_0_1849) rfl (List.cons_ne_nil _ _) ?_
            refine tr_goto ?_
            refine tr_nil (rows2 := kb_0_2660) rfl (List.cons_ne_nil _ _) ?_
            refine tr_blk 1 (pc' := 2663) (rows' := kb_0_2660.drop 1) (loc' := [.inr (31, xs.1, 0, 0), .inr (11, 0, 0, 0), .inr (12, 0, 0, 72), .inr (22, 1, 0, 570), .inl (.int (x4 + 8)), .inl (.int v225), .inl (.int v231), ab_top]) (st' := []) (P1 := P230) rfl ⟨trivial, trivial⟩ ?_
            refine tr_goto ?_
            exact ih (x4 + 8) (.inl (.int v225)) (.inl (.int v231)) P230
        · refine tr_icF (cd := .eq) h454 ?_
          refine tr_blk 1 (pc' := 1831) (rows' := kb_0_1760.drop 52) (loc' := [.inr (31, xs.1, 0, 0), .inr (11, 0, 0, 0), .inr (12, 0, 0, 72), .inr (22, 1, 0, 570), .inl (.int x4), .inl (.int v225), .inl (.int v231), ab_top]) (st' := [.inl (.int (0 : Int32))]) (P1 := P230) rfl ⟨trivial, trivial⟩ ?_
          exact tr_reI (z := km_0) rfl ⟨_, rfl, rfl⟩ rfl
      refine tr_if (fun h457 => ?_) (fun h457 => ?_)
      · refine tr_sw (t := 1852) (by rw [h457]; rfl) ?_
        refine tr_nil (rows2 := kb_0_1852) rfl (List.cons_ne_nil _ _) ?_
        refine tr_gd (fun h233 => ?_)
        refine tr_blk 7 (pc' := 1860) (rows' := kb_0_1852.drop 7) (loc' := [.inr (31, xs.1, 0, 0), .inr (11, 0, 0, 0), .inr (12, 0, 0, 72), .inr (22, 1, 0, 570), .inl (.int x4), d5, d6, ab_top]) (st' := [.inr (22, 1, 0, 570), .inl (.int (xs.2 ((x4 + (1 : Int32))).toNatClampNeg)), .inr (11, 0, 0, 0)]) (P1 := P) rfl ⟨trivial, trivial, trivial, trivial, trivial, ⟨h233, rfl⟩, trivial, trivial⟩ ?_
        refine tr_cWI (z := km_66) (av := [.inr (11, 0, 0, 0), .inl (.int (xs.2 ((x4 + (1 : Int32))).toNatClampNeg)), .inr (22, 1, 0, 570)]) (st' := []) rfl rfl rfl (Nat.le_of_ble_eq_true rfl) trivial rfl (Nat.le_of_ble_eq_true rfl) (t_66_1 N (xs.2 ((x4 + (1 : Int32))).toNatClampNeg) P) (fun v235 P234 => ?_)
        refine tr_gd (fun h236 => ?_)
        refine tr_blk 7 (pc' := 1872) (rows' := kb_0_1852.drop 15) (loc' := [.inr (31, xs.1, 0, 0), .inr (11, 0, 0, 0), .inr (12, 0, 0, 72), .inr (22, 1, 0, 570), .inl (.int x4), .inl (.int v235), d6, ab_top]) (st' := [.inl (.int (xs.2 ((x4 + (1 : Int32))).toNatClampNeg)), .inr (12, 0, 0, 72)]) (P1 := P234) rfl ⟨trivial, trivial, trivial, trivial, trivial, trivial, ⟨h236, rfl⟩, trivial⟩ ?_
        refine tr_cWI (z := km_67) (av := [.inr (12, 0, 0, 72), .inl (.int (xs.2 ((x4 + (1 : Int32))).toNatClampNeg))]) (st' := []) rfl rfl rfl (Nat.le_of_ble_eq_true rfl) ⟨rfl, Or.inl (by decide)⟩ rfl (Nat.le_of_ble_eq_true rfl) (t_67 N (xs.2 ((x4 + (1 : Int32))).toNatClampNeg) P234) (fun v238 P237 => ?_)
        refine tr_blk 2 (pc' := 1878) (rows' := kb_0_1852.drop 18) (loc' := [.inr (31, xs.1, 0, 0), .inr (11, 0, 0, 0), .inr (12, 0, 0, 72), .inr (22, 1, 0, 570), .inl (.int x4), .inl (.int v235), .inl (.int v238), ab_top]) (st' := [.inr (12, 0, 0, 72)]) (P1 := P237) rfl ⟨trivial, trivial, trivial⟩ ?_
        refine tr_cRI (z := km_7) (av := [.inr (12, 0, 0, 72)]) (st' := []) rfl rfl rfl (Nat.le_of_ble_eq_true rfl) ⟨rfl, Or.inl (by decide)⟩ rfl (Nat.le_of_ble_eq_true rfl) (t_7 P237) (fun v239 => ?_)
        refine tr_blk 1 (pc' := 1883) (rows' := kb_0_1852.drop 20) (loc' := [.inr (31, xs.1, 0, 0), .inr (11, 0, 0, 0), .inr (12, 0, 0, 72), .inr (22, 1, 0, 570), .inl (.int x4), .inl (.int v235), .inl (.int v238), ab_top]) (st' := [.inl (.int v235), .inl (.int v239)]) (P1 := P237) rfl ⟨trivial, trivial⟩ ?_
        refine tr_if (fun h458 => ?_) (fun h458 => ?_)
        · refine tr_icT (cd := .eq) h458 ?_
          refine tr_nil (rows2 := kb_0_1888) rfl (List.cons_ne_nil _ _) ?_
          refine tr_blk 1 (pc' := 1890) (rows' := kb_0_1888.drop 1) (loc' := [.inr (31, xs.1, 0, 0), .inr (11, 0, 0, 0), .inr (12, 0, 0, 72), .inr (22, 1, 0, 570), .inl (.int x4), .inl (.int v235), .inl (.int v238), ab_top]) (st' := [.inl (.int v235)]) (P1 := P237) rfl ⟨trivial, trivial⟩ ?_
          refine tr_if (fun h459 => ?_) (fun h459 => ?_)
          · refine tr_ifF (cd := .ne) (fun q => q h459) ?_
            refine tr_blk 6 (pc' := 1900) (rows' := kb_0_1888.drop 8) (loc' := [.inr (31, xs.1, 0, 0), .inr (11, 0, 0, 0), .inr (12, 0, 0, 72), .inr (22, 1, 0, 570), .inl (.int x4), .inl (.int v235), .inl (.int v238), ab_top]) (st' := [.inl (.int (lg_cmp (P237.2.1 570 0) (v238).toInt64))]) (P1 := P237) rfl ⟨trivial, trivial, (ab_vi (by decide)), trivial, trivial, trivial, trivial⟩ ?_
            refine tr_if (fun h460 => ?_) (fun h460 => ?_)
            · refine tr_ifT (cd := .eq) h460 ?_
              refine tr_nil (rows2 := kb_0_1905) rfl (List.cons_ne_nil _ _) ?_
              refine tr_goto ?_
              refine tr_nil (rows2 := kb_0_2660) rfl (List.cons_ne_nil _ _) ?_
              refine tr_blk 1 (pc' := 2663) (rows' := kb_0_2660.drop 1) (loc' := [.inr (31, xs.1, 0, 0), .inr (11, 0, 0, 0), .inr (12, 0, 0, 72), .inr (22, 1, 0, 570), .inl (.int (x4 + 8)), .inl (.int v235), .inl (.int v238), ab_top]) (st' := []) (P1 := P237) rfl ⟨trivial, trivial⟩ ?_
              refine tr_goto ?_
              exact ih (x4 + 8) (.inl (.int v235)) (.inl (.int v238)) P237
            · refine tr_ifF (cd := .eq) h460 ?_
              refine tr_blk 1 (pc' := 1904) (rows' := kb_0_1888.drop 10) (loc' := [.inr (31, xs.1, 0, 0), .inr (11, 0, 0, 0), .inr (12, 0, 0, 72), .inr (22, 1, 0, 570), .inl (.int x4), .inl (.int v235), .inl (.int v238), ab_top]) (st' := [.inl (.int (0 : Int32))]) (P1 := P237) rfl ⟨trivial, trivial⟩ ?_
              exact tr_reI (z := km_0) rfl ⟨_, rfl, rfl⟩ rfl
          · refine tr_ifT (cd := .ne) h459 ?_
            refine tr_nil (rows2 := kb_0_1905) rfl (List.cons_ne_nil _ _) ?_
            refine tr_goto ?_
            refine tr_nil (rows2 := kb_0_2660) rfl (List.cons_ne_nil _ _) ?_
            refine tr_blk 1 (pc' := 2663) (rows' := kb_0_2660.drop 1) (loc' := [.inr (31, xs.1, 0, 0), .inr (11, 0, 0, 0), .inr (12, 0, 0, 72), .inr (22, 1, 0, 570), .inl (.int (x4 + 8)), .inl (.int v235), .inl (.int v238), ab_top]) (st' := []) (P1 := P237) rfl ⟨trivial, trivial⟩ ?_
            refine tr_goto ?_
            exact ih (x4 + 8) (.inl (.int v235)) (.inl (.int v238)) P237
        · refine tr_icF (cd := .eq) h458 ?_
          refine tr_blk 1 (pc' := 1887) (rows' := kb_0_1852.drop 22) (loc' := [.inr (31, xs.1, 0, 0), .inr (11, 0, 0, 0), .inr (12, 0, 0, 72), .inr (22, 1, 0, 570), .inl (.int x4), .inl (.int v235), .inl (.int v238), ab_top]) (st' := [.inl (.int (0 : Int32))]) (P1 := P237) rfl ⟨trivial, trivial⟩ ?_
          exact tr_reI (z := km_0) rfl ⟨_, rfl, rfl⟩ rfl
      refine tr_if (fun h461 => ?_) (fun h461 => ?_)
      · refine tr_sw (t := 1908) (by rw [h461]; rfl) ?_
        refine tr_nil (rows2 := kb_0_1908) rfl (List.cons_ne_nil _ _) ?_
        refine tr_gd (fun h240 => ?_)
        refine tr_blk 7 (pc' := 1916) (rows' := kb_0_1908.drop 7) (loc' := [.inr (31, xs.1, 0, 0), .inr (11, 0, 0, 0), .inr (12, 0, 0, 72), .inr (22, 1, 0, 570), .inl (.int x4), d5, d6, ab_top]) (st' := [.inr (22, 1, 0, 570), .inl (.int (xs.2 ((x4 + (1 : Int32))).toNatClampNeg)), .inr (11, 0, 0, 0)]) (P1 := P) rfl ⟨trivial, trivial, trivial, trivial, trivial, ⟨h240, rfl⟩, trivial, trivial⟩ ?_
        refine tr_cWI (z := km_68) (av := [.inr (11, 0, 0, 0), .inl (.int (xs.2 ((x4 + (1 : Int32))).toNatClampNeg)), .inr (22, 1, 0, 570)]) (st' := []) rfl rfl rfl (Nat.le_of_ble_eq_true rfl) trivial rfl (Nat.le_of_ble_eq_true rfl) (t_68_1 N (xs.2 ((x4 + (1 : Int32))).toNatClampNeg) P) (fun v242 P241 => ?_)
        refine tr_gd (fun h243 => ?_)
        refine tr_blk 7 (pc' := 1928) (rows' := kb_0_1908.drop 15) (loc' := [.inr (31, xs.1, 0, 0), .inr (11, 0, 0, 0), .inr (12, 0, 0, 72), .inr (22, 1, 0, 570), .inl (.int x4), .inl (.int v242), d6, ab_top]) (st' := [.inl (.int (xs.2 ((x4 + (1 : Int32))).toNatClampNeg)), .inr (12, 0, 0, 72)]) (P1 := P241) rfl ⟨trivial, trivial, trivial, trivial, trivial, trivial, ⟨h243, rfl⟩, trivial⟩ ?_
        refine tr_cWI (z := km_69) (av := [.inr (12, 0, 0, 72), .inl (.int (xs.2 ((x4 + (1 : Int32))).toNatClampNeg))]) (st' := []) rfl rfl rfl (Nat.le_of_ble_eq_true rfl) ⟨rfl, Or.inl (by decide)⟩ rfl (Nat.le_of_ble_eq_true rfl) (t_69 N (xs.2 ((x4 + (1 : Int32))).toNatClampNeg) P241) (fun v245 P244 => ?_)
        refine tr_blk 2 (pc' := 1934) (rows' := kb_0_1908.drop 18) (loc' := [.inr (31, xs.1, 0, 0), .inr (11, 0, 0, 0), .inr (12, 0, 0, 72), .inr (22, 1, 0, 570), .inl (.int x4), .inl (.int v242), .inl (.int v245), ab_top]) (st' := [.inr (12, 0, 0, 72)]) (P1 := P244) rfl ⟨trivial, trivial, trivial⟩ ?_
        refine tr_cRI (z := km_7) (av := [.inr (12, 0, 0, 72)]) (st' := []) rfl rfl rfl (Nat.le_of_ble_eq_true rfl) ⟨rfl, Or.inl (by decide)⟩ rfl (Nat.le_of_ble_eq_true rfl) (t_7 P244) (fun v246 => ?_)
        refine tr_blk 1 (pc' := 1939) (rows' := kb_0_1908.drop 20) (loc' := [.inr (31, xs.1, 0, 0), .inr (11, 0, 0, 0), .inr (12, 0, 0, 72), .inr (22, 1, 0, 570), .inl (.int x4), .inl (.int v242), .inl (.int v245), ab_top]) (st' := [.inl (.int v242), .inl (.int v246)]) (P1 := P244) rfl ⟨trivial, trivial⟩ ?_
        refine tr_if (fun h462 => ?_) (fun h462 => ?_)
        · refine tr_icT (cd := .eq) h462 ?_
          refine tr_nil (rows2 := kb_0_1944) rfl (List.cons_ne_nil _ _) ?_
          refine tr_blk 1 (pc' := 1946) (rows' := kb_0_1944.drop 1) (loc' := [.inr (31, xs.1, 0, 0), .inr (11, 0, 0, 0), .inr (12, 0, 0, 72), .inr (22, 1, 0, 570), .inl (.int x4), .inl (.int v242), .inl (.int v245), ab_top]) (st' := [.inl (.int v242)]) (P1 := P244) rfl ⟨trivial, trivial⟩ ?_
          refine tr_if (fun h463 => ?_) (fun h463 => ?_)
          · refine tr_ifF (cd := .ne) (fun q => q h463) ?_
            refine tr_blk 6 (pc' := 1956) (rows' := kb_0_1944.drop 8) (loc' := [.inr (31, xs.1, 0, 0), .inr (11, 0, 0, 0), .inr (12, 0, 0, 72), .inr (22, 1, 0, 570), .inl (.int x4), .inl (.int v242), .inl (.int v245), ab_top]) (st' := [.inl (.int (lg_cmp (P244.2.1 570 0) (v245).toInt64))]) (P1 := P244) rfl ⟨trivial, trivial, (ab_vi (by decide)), trivial, trivial, trivial, trivial⟩ ?_
            refine tr_if (fun h464 => ?_) (fun h464 => ?_)
            · refine tr_ifT (cd := .eq) h464 ?_
              refine tr_nil (rows2 := kb_0_1961) rfl (List.cons_ne_nil _ _) ?_
              refine tr_goto ?_
              refine tr_nil (rows2 := kb_0_2660) rfl (List.cons_ne_nil _ _) ?_
              refine tr_blk 1 (pc' := 2663) (rows' := kb_0_2660.drop 1) (loc' := [.inr (31, xs.1, 0, 0), .inr (11, 0, 0, 0), .inr (12, 0, 0, 72), .inr (22, 1, 0, 570), .inl (.int (x4 + 8)), .inl (.int v242), .inl (.int v245), ab_top]) (st' := []) (P1 := P244) rfl ⟨trivial, trivial⟩ ?_
              refine tr_goto ?_
              exact ih (x4 + 8) (.inl (.int v242)) (.inl (.int v245)) P244
            · refine tr_ifF (cd := .eq) h464 ?_
              refine tr_blk 1 (pc' := 1960) (rows' := kb_0_1944.drop 10) (loc' := [.inr (31, xs.1, 0, 0), .inr (11, 0, 0, 0), .inr (12, 0, 0, 72), .inr (22, 1, 0, 570), .inl (.int x4), .inl (.int v242), .inl (.int v245), ab_top]) (st' := [.inl (.int (0 : Int32))]) (P1 := P244) rfl ⟨trivial, trivial⟩ ?_
              exact tr_reI (z := km_0) rfl ⟨_, rfl, rfl⟩ rfl
          · refine tr_ifT (cd := .ne) h463 ?_
            refine tr_nil (rows2 := kb_0_1961) rfl (List.cons_ne_nil _ _) ?_
            refine tr_goto ?_
            refine tr_nil (rows2 := kb_0_2660) rfl (List.cons_ne_nil _ _) ?_
            refine tr_blk 1 (pc' := 2663) (rows' := kb_0_2660.drop 1) (loc' := [.inr (31, xs.1, 0, 0), .inr (11, 0, 0, 0), .inr (12, 0, 0, 72), .inr (22, 1, 0, 570), .inl (.int (x4 + 8)), .inl (.int v242), .inl (.int v245), ab_top]) (st' := []) (P1 := P244) rfl ⟨trivial, trivial⟩ ?_
            refine tr_goto ?_
            exact ih (x4 + 8) (.inl (.int v242)) (.inl (.int v245)) P244
        · refine tr_icF (cd := .eq) h462 ?_
          refine tr_blk 1 (pc' := 1943) (rows' := kb_0_1908.drop 22) (loc' := [.inr (31, xs.1, 0, 0), .inr (11, 0, 0, 0), .inr (12, 0, 0, 72), .inr (22, 1, 0, 570), .inl (.int x4), .inl (.int v242), .inl (.int v245), ab_top]) (st' := [.inl (.int (0 : Int32))]) (P1 := P244) rfl ⟨trivial, trivial⟩ ?_
          exact tr_reI (z := km_0) rfl ⟨_, rfl, rfl⟩ rfl
      refine tr_if (fun h465 => ?_) (fun h465 => ?_)
      · refine tr_sw (t := 1964) (by rw [h465]; rfl) ?_
        refine tr_nil (rows2 := kb_0_1964) rfl (List.cons_ne_nil _ _) ?_
        refine tr_gd (fun h247 => ?_)
        refine tr_blk 7 (pc' := 1972) (rows' := kb_0_1964.drop 7) (loc' := [.inr (31, xs.1, 0, 0), .inr (11, 0, 0, 0), .inr (12, 0, 0, 72), .inr (22, 1, 0, 570), .inl (.int x4), d5, d6, ab_top]) (st' := [.inr (22, 1, 0, 570), .inl (.int (xs.2 ((x4 + (1 : Int32))).toNatClampNeg)), .inr (11, 0, 0, 0)]) (P1 := P) rfl ⟨trivial, trivial, trivial, trivial, trivial, ⟨h247, rfl⟩, trivial, trivial⟩ ?_
        refine tr_cWI (z := km_70) (av := [.inr (11, 0, 0, 0), .inl (.int (xs.2 ((x4 + (1 : Int32))).toNatClampNeg)), .inr (22, 1, 0, 570)]) (st' := []) rfl rfl rfl (Nat.le_of_ble_eq_true rfl) trivial rfl (Nat.le_of_ble_eq_true rfl) (t_70_1 N (xs.2 ((x4 + (1 : Int32))).toNatClampNeg) P) (fun v249 P248 => ?_)
        refine tr_gd (fun h250 => ?_)
        refine tr_blk 7 (pc' := 1984) (rows' := kb_0_1964.drop 15) (loc' := [.inr (31, xs.1, 0, 0), .inr (11, 0, 0, 0), .inr (12, 0, 0, 72), .inr (22, 1, 0, 570), .inl (.int x4), .inl (.int v249), d6, ab_top]) (st' := [.inl (.int (xs.2 ((x4 + (1 : Int32))).toNatClampNeg)), .inr (12, 0, 0, 72)]) (P1 := P248) rfl ⟨trivial, trivial, trivial, trivial, trivial, trivial, ⟨h250, rfl⟩, trivial⟩ ?_
        refine tr_cWI (z := km_71) (av := [.inr (12, 0, 0, 72), .inl (.int (xs.2 ((x4 + (1 : Int32))).toNatClampNeg))]) (st' := []) rfl rfl rfl (Nat.le_of_ble_eq_true rfl) ⟨rfl, Or.inl (by decide)⟩ rfl (Nat.le_of_ble_eq_true rfl) (t_71 N (xs.2 ((x4 + (1 : Int32))).toNatClampNeg) P248) (fun v252 P251 => ?_)
        refine tr_blk 2 (pc' := 1990) (rows' := kb_0_1964.drop 18) (loc' := [.inr (31, xs.1, 0, 0), .inr (11, 0, 0, 0), .inr (12, 0, 0, 72), .inr (22, 1, 0, 570), .inl (.int x4), .inl (.int v249), .inl (.int v252), ab_top]) (st' := [.inr (12, 0, 0, 72)]) (P1 := P251) rfl ⟨trivial, trivial, trivial⟩ ?_
        refine tr_cRI (z := km_7) (av := [.inr (12, 0, 0, 72)]) (st' := []) rfl rfl rfl (Nat.le_of_ble_eq_true rfl) ⟨rfl, Or.inl (by decide)⟩ rfl (Nat.le_of_ble_eq_true rfl) (t_7 P251) (fun v253 => ?_)
        refine tr_blk 1 (pc' := 1995) (rows' := kb_0_1964.drop 20) (loc' := [.inr (31, xs.1, 0, 0), .inr (11, 0, 0, 0), .inr (12, 0, 0, 72), .inr (22, 1, 0, 570), .inl (.int x4), .inl (.int v249), .inl (.int v252), ab_top]) (st' := [.inl (.int v249), .inl (.int v253)]) (P1 := P251) rfl ⟨trivial, trivial⟩ ?_
        refine tr_if (fun h466 => ?_) (fun h466 => ?_)
        · refine tr_icT (cd := .eq) h466 ?_
          refine tr_nil (rows2 := kb_0_2000) rfl (List.cons_ne_nil _ _) ?_
          refine tr_blk 1 (pc' := 2002) (rows' := kb_0_2000.drop 1) (loc' := [.inr (31, xs.1, 0, 0), .inr (11, 0, 0, 0), .inr (12, 0, 0, 72), .inr (22, 1, 0, 570), .inl (.int x4), .inl (.int v249), .inl (.int v252), ab_top]) (st' := [.inl (.int v249)]) (P1 := P251) rfl ⟨trivial, trivial⟩ ?_
          refine tr_if (fun h467 => ?_) (fun h467 => ?_)
          · refine tr_ifF (cd := .ne) (fun q => q h467) ?_
            refine tr_blk 6 (pc' := 2012) (rows' := kb_0_2000.drop 8) (loc' := [.inr (31, xs.1, 0, 0), .inr (11, 0, 0, 0), .inr (12, 0, 0, 72), .inr (22, 1, 0, 570), .inl (.int x4), .inl (.int v249), .inl (.int v252), ab_top]) (st' := [.inl (.int (lg_cmp (P251.2.1 570 0) (v252).toInt64))]) (P1 := P251) rfl ⟨trivial, trivial, (ab_vi (by decide)), trivial, trivial, trivial, trivial⟩ ?_
            refine tr_if (fun h468 => ?_) (fun h468 => ?_)
            · refine tr_ifT (cd := .eq) h468 ?_
              refine tr_nil (rows2 := kb_0_2017) rfl (List.cons_ne_nil _ _) ?_
              refine tr_goto ?_
              refine tr_nil (rows2 := kb_0_2660) rfl (List.cons_ne_nil _ _) ?_
              refine tr_blk 1 (pc' := 2663) (rows' := kb_0_2660.drop 1) (loc' := [.inr (31, xs.1, 0, 0), .inr (11, 0, 0, 0), .inr (12, 0, 0, 72), .inr (22, 1, 0, 570), .inl (.int (x4 + 8)), .inl (.int v249), .inl (.int v252), ab_top]) (st' := []) (P1 := P251) rfl ⟨trivial, trivial⟩ ?_
              refine tr_goto ?_
              exact ih (x4 + 8) (.inl (.int v249)) (.inl (.int v252)) P251
            · refine tr_ifF (cd := .eq) h468 ?_
              refine tr_blk 1 (pc' := 2016) (rows' := kb_0_2000.drop 10) (loc' := [.inr (31, xs.1, 0, 0), .inr (11, 0, 0, 0), .inr (12, 0, 0, 72), .inr (22, 1, 0, 570), .inl (.int x4), .inl (.int v249), .inl (.int v252), ab_top]) (st' := [.inl (.int (0 : Int32))]) (P1 := P251) rfl ⟨trivial, trivial⟩ ?_
              exact tr_reI (z := km_0) rfl ⟨_, rfl, rfl⟩ rfl
          · refine tr_ifT (cd := .ne) h467 ?_
            refine tr_nil (rows2 := kb_0_2017) rfl (List.cons_ne_nil _ _) ?_
            refine tr_goto ?_
            refine tr_nil (rows2 := kb_0_2660) rfl (List.cons_ne_nil _ _) ?_
            refine tr_blk 1 (pc' := 2663) (rows' := kb_0_2660.drop 1) (loc' := [.inr (31, xs.1, 0, 0), .inr (11, 0, 0, 0), .inr (12, 0, 0, 72), .inr (22, 1, 0, 570), .inl (.int (x4 + 8)), .inl (.int v249), .inl (.int v252), ab_top]) (st' := []) (P1 := P251) rfl ⟨trivial, trivial⟩ ?_
            refine tr_goto ?_
            exact ih (x4 + 8) (.inl (.int v249)) (.inl (.int v252)) P251
        · refine tr_icF (cd := .eq) h466 ?_
          refine tr_blk 1 (pc' := 1999) (rows' := kb_0_1964.drop 22) (loc' := [.inr (31, xs.1, 0, 0), .inr (11, 0, 0, 0), .inr (12, 0, 0, 72), .inr (22, 1, 0, 570), .inl (.int x4), .inl (.int v249), .inl (.int v252), ab_top]) (st' := [.inl (.int (0 : Int32))]) (P1 := P251) rfl ⟨trivial, trivial⟩ ?_
          exact tr_reI (z := km_0) rfl ⟨_, rfl, rfl⟩ rfl
      refine tr_if (fun h469 => ?_) (fun h469 => ?_)
      · refine tr_sw (t := 2020) (by rw [h469]; rfl) ?_
        refine tr_nil (rows2 := kb_0_2020) rfl (List.cons_ne_nil _ _) ?_
        refine tr_gd (fun h254 => ?_)
        refine tr_gd (fun h255 => ?_)
        refine tr_blk 12 (pc' := 2034) (rows' := kb_0_2020.drop 12) (loc' := [.inr (31, xs.1, 0, 0), .inr (11, 0, 0, 0), .inr (12, 0, 0, 72), .inr (22, 1, 0, 570), .inl (.int x4), d5, d6, ab_top]) (st' := [.inr (22, 1, 0, 570), .inl (.int (xs.2 ((x4 + (2 : Int32))).toNatClampNeg)), .inl (.int (xs.2 ((x4 + (1 : Int32))).toNatClampNeg)), .inr (11, 0, 0, 0)]) (P1 := P) rfl ⟨trivial, trivial, trivial, trivial, trivial, ⟨h254, rfl⟩, trivial, trivial, trivial, trivial, ⟨h255, rfl⟩, trivial, trivial⟩ ?_
        refine tr_cWI (z := km_72) (av := [.inr (11, 0, 0, 0), .inl (.int (xs.2 ((x4 + (1 : Int32))).toNatClampNeg)), .inl (.int (xs.2 ((x4 + (2 : Int32))).toNatClampNeg)), .inr (22, 1, 0, 570)]) (st' := []) rfl rfl rfl (Nat.le_of_ble_eq_true rfl) trivial rfl (Nat.le_of_ble_eq_true rfl) (t_72_1 N (xs.2 ((x4 + (1 : Int32))).toNatClampNeg) (xs.2 ((x4 + (2 : Int32))).toNatClampNeg) P) (fun v257 P256 => ?_)
        refine tr_gd (fun h258 => ?_)
        refine tr_gd (fun h259 => ?_)
        refine tr_blk 12 (pc' := 2052) (rows' := kb_0_2020.drop 25) (loc' := [.inr (31, xs.1, 0, 0), .inr (11, 0, 0, 0), .inr (12, 0, 0, 72), .inr (22, 1, 0, 570), .inl (.int x4), .inl (.int v257), d6, ab_top]) (st' := [.inl (.int (xs.2 ((x4 + (2 : Int32))).toNatClampNeg)), .inl (.int (xs.2 ((x4 + (1 : Int32))).toNatClampNeg)), .inr (12, 0, 0, 72)]) (P1 := P256) rfl ⟨trivial, trivial, trivial, trivial, trivial, trivial, ⟨h258, rfl⟩, trivial, trivial, trivial, trivial, ⟨h259, rfl⟩, trivial⟩ ?_
        refine tr_cWI (z := km_73) (av := [.inr (12, 0, 0, 72), .inl (.int (xs.2 ((x4 + (1 : Int32))).toNatClampNeg)), .inl (.int (xs.2 ((x4 + (2 : Int32))).toNatClampNeg))]) (st' := []) rfl rfl rfl (Nat.le_of_ble_eq_true rfl) ⟨rfl, Or.inl (by decide)⟩ rfl (Nat.le_of_ble_eq_true rfl) (t_73 N (xs.2 ((x4 + (1 : Int32))).toNatClampNeg) (xs.2 ((x4 + (2 : Int32))).toNatClampNeg) P256) (fun v261 P260 => ?_)
        refine tr_blk 2 (pc' := 2058) (rows' := kb_0_2020.drop 28) (loc' := [.inr (31, xs.1, 0, 0), .inr (11, 0, 0, 0), .inr (12, 0, 0, 72), .inr (22, 1, 0, 570), .inl (.int x4), .inl (.int v257), .inl (.int v261), ab_top]) (st' := [.inr (12, 0, 0, 72)]) (P1 := P260) rfl ⟨trivial, trivial, trivial⟩ ?_
        refine tr_cRI (z := km_7) (av := [.inr (12, 0, 0, 72)]) (st' := []) rfl rfl rfl (Nat.le_of_ble_eq_true rfl) ⟨rfl, Or.inl (by decide)⟩ rfl (Nat.le_of_ble_eq_true rfl) (t_7 P260) (fun v262 => ?_)
        refine tr_blk 1 (pc' := 2063) (rows' := kb_0_2020.drop 30) (loc' := [.inr (31, xs.1, 0, 0), .inr (11, 0, 0, 0), .inr (12, 0, 0, 72), .inr (22, 1, 0, 570), .inl (.int x4), .inl (.int v257), .inl (.int v261), ab_top]) (st' := [.inl (.int v257), .inl (.int v262)]) (P1 := P260) rfl ⟨trivial, trivial⟩ ?_
        refine tr_if (fun h470 => ?_) (fun h470 => ?_)
        · refine tr_icT (cd := .eq) h470 ?_
          refine tr_nil (rows2 := kb_0_2068) rfl (List.cons_ne_nil _ _) ?_
          refine tr_blk 1 (pc' := 2070) (rows' := kb_0_2068.drop 1) (loc' := [.inr (31, xs.1, 0, 0), .inr (11, 0, 0, 0), .inr (12, 0, 0, 72), .inr (22, 1, 0, 570), .inl (.int x4), .inl (.int v257), .inl (.int v261), ab_top]) (st' := [.inl (.int v257)]) (P1 := P260) rfl ⟨trivial, trivial⟩ ?_
          refine tr_if (fun h471 => ?_) (fun h471 => ?_)
          · refine tr_ifF (cd := .ne) (fun q => q h471) ?_
            refine tr_blk 6 (pc' := 2080) (rows' := kb_0_2068.drop 8) (loc' := [.inr (31, xs.1, 0, 0), .inr (11, 0, 0, 0), .inr (12, 0, 0, 72), .inr (22, 1, 0, 570), .inl (.int x4), .inl (.int v257), .inl (.int v261), ab_top]) (st' := [.inl (.int (lg_cmp (P260.2.1 570 0) (v261).toInt64))]) (P1 := P260) rfl ⟨trivial, trivial, (ab_vi (by decide)), trivial, trivial, trivial, trivial⟩ ?_
            refine tr_if (fun h472 => ?_) (fun h472 => ?_)
            · refine tr_ifT (cd := .eq) h472 ?_
              refine tr_nil (rows2 := kb_0_2085) rfl (List.cons_ne_nil _ _) ?_
              refine tr_goto ?_
              refine tr_nil (rows2 := kb_0_2660) rfl (List.cons_ne_nil _ _) ?_
              refine tr_blk 1 (pc' := 2663) (rows' := kb_0_2660.drop 1) (loc' := [.inr (31, xs.1, 0, 0), .inr (11, 0, 0, 0), .inr (12, 0, 0, 72), .inr (22, 1, 0, 570), .inl (.int (x4 + 8)), .inl (.int v257), .inl (.int v261), ab_top]) (st' := []) (P1 := P260) rfl ⟨trivial, trivial⟩ ?_
              refine tr_goto ?_
              exact ih (x4 + 8) (.inl (.int v257)) (.inl (.int v261)) P260
            · refine tr_ifF (cd := .eq) h472 ?_
              refine tr_blk 1 (pc' := 2084) (rows' := kb_0_2068.drop 10) (loc' := [.inr (31, xs.1, 0, 0), .inr (11, 0, 0, 0), .inr (12, 0, 0, 72), .inr (22, 1, 0, 570), .inl (.int x4), .inl (.int v257), .inl (.int v261), ab_top]) (st' := [.inl (.int (0 : Int32))]) (P1 := P260) rfl ⟨trivial, trivial⟩ ?_
              exact tr_reI (z := km_0) rfl ⟨_, rfl, rfl⟩ rfl
          · refine tr_ifT (cd := .ne) h471 ?_
            refine tr_nil (rows2 := kb_0_2085) rfl (List.cons_ne_nil _ _) ?_
            refine tr_goto ?_
            refine tr_nil (rows2 := kb_0_2660) rfl (List.cons_ne_nil _ _) ?_
            refine tr_blk 1 (pc' := 2663) (rows' := kb_0_2660.drop 1) (loc' := [.inr (31, xs.1, 0, 0), .inr (11, 0, 0, 0), .inr (12, 0, 0, 72), .inr (22, 1, 0, 570), .inl (.int (x4 + 8)), .inl (.int v257), .inl (.int v261), ab_top]) (st' := []) (P1 := P260) rfl ⟨trivial, trivial⟩ ?_
            refine tr_goto ?_
            exact ih (x4 + 8) (.inl (.int v257)) (.inl (.int v261)) P260
        · refine tr_icF (cd := .eq) h470 ?_
          refine tr_blk 1 (pc' := 2067) (rows' := kb_0_2020.drop 32) (loc' := [.inr (31, xs.1, 0, 0), .inr (11, 0, 0, 0), .inr (12, 0, 0, 72), .inr (22, 1, 0, 570), .inl (.int x4), .inl (.int v257), .inl (.int v261), ab_top]) (st' := [.inl (.int (0 : Int32))]) (P1 := P260) rfl ⟨trivial, trivial⟩ ?_
          exact tr_reI (z := km_0) rfl ⟨_, rfl, rfl⟩ rfl
      refine tr_if (fun h473 => ?_) (fun h473 => ?_)
      · refine tr_sw (t := 2088) (by rw [h473]; rfl) ?_
        refine tr_nil (rows2 := kb_0_2088) rfl (List.cons_ne_nil _ _) ?_
        refine tr_gd (fun h263 => ?_)
        refine tr_gd (fun h264 => ?_)
        refine tr_blk 12 (pc' := 2102) (rows' := kb_0_2088.drop 12) (loc' := [.inr (31, xs.1, 0, 0), .inr (11, 0, 0, 0), .inr (12, 0, 0, 72), .inr (22, 1, 0, 570), .inl (.int x4), d5, d6, ab_top]) (st' := [.inr (22, 1, 0, 570), .inl (.int (xs.2 ((x4 + (2 : Int32))).toNatClampNeg)), .inl (.int (xs.2 ((x4 + (1 : Int32))).toNatClampNeg)), .inr (11, 0, 0, 0)]) (P1 := P) rfl ⟨trivial, trivial, trivial, trivial, trivial, ⟨h263, rfl⟩, trivial, trivial, trivial, trivial, ⟨h264, rfl⟩, trivial, trivial⟩ ?_
        refine tr_cWI (z := km_74) (av := [.inr (11, 0, 0, 0), .inl (.int (xs.2 ((x4 + (1 : Int32))).toNatClampNeg)), .inl (.int (xs.2 ((x4 + (2 : Int32))).toNatClampNeg)), .inr (22, 1, 0, 570)]) (st' := []) rfl rfl rfl (Nat.le_of_ble_eq_true rfl) trivial rfl (Nat.le_of_ble_eq_true rfl) (t_74_1 N (xs.2 ((x4 + (1 : Int32))).toNatClampNeg) (xs.2 ((x4 + (2 : Int32))).toNatClampNeg) P) (fun v266 P265 => ?_)
        refine tr_gd (fun h267 => ?_)
        refine tr_gd (fun h268 => ?_)
        refine tr_blk 12 (pc' := 2120) (rows' := kb_0_2088.drop 25) (loc' := [.inr (31, xs.1, 0, 0), .inr (11, 0, 0, 0), .inr (12, 0, 0, 72), .inr (22, 1, 0, 570), .inl (.int x4), .inl (.int v266), d6, ab_top]) (st' := [.inl (.int (xs.2 ((x4 + (2 : Int32))).toNatClampNeg)), .inl (.int (xs.2 ((x4 + (1 : Int32))).toNatClampNeg)), .inr (12, 0, 0, 72)]) (P1 := P265) rfl ⟨trivial, trivial, trivial, trivial, trivial, trivial, ⟨h267, rfl⟩, trivial, trivial, trivial, trivial, ⟨h268, rfl⟩, trivial⟩ ?_
        refine tr_cWI (z := km_75) (av := [.inr (12, 0, 0, 72), .inl (.int (xs.2 ((x4 + (1 : Int32))).toNatClampNeg)), .inl (.int (xs.2 ((x4 + (2 : Int32))).toNatClampNeg))]) (st' := []) rfl rfl rfl (Nat.le_of_ble_eq_true rfl) ⟨rfl, Or.inl (by decide)⟩ rfl (Nat.le_of_ble_eq_true rfl) (t_75 N (xs.2 ((x4 + (1 : Int32))).toNatClampNeg) (xs.2 ((x4 + (2 : Int32))).toNatClampNeg) P265) (fun v270 P269 => ?_)
        refine tr_blk 2 (pc' := 2126) (rows' := kb_0_2088.drop 28) (loc' := [.inr (31, xs.1, 0, 0), .inr (11, 0, 0, 0), .inr (12, 0, 0, 72), .inr (22, 1, 0, 570), .inl (.int x4), .inl (.int v266), .inl (.int v270), ab_top]) (st' := [.inr (12, 0, 0, 72)]) (P1 := P269) rfl ⟨trivial, trivial, trivial⟩ ?_
        refine tr_cRI (z := km_7) (av := [.inr (12, 0, 0, 72)]) (st' := []) rfl rfl rfl (Nat.le_of_ble_eq_true rfl) ⟨rfl, Or.inl (by decide)⟩ rfl (Nat.le_of_ble_eq_true rfl) (t_7 P269) (fun v271 => ?_)
        refine tr_blk 1 (pc' := 2131) (rows' := kb_0_2088.drop 30) (loc' := [.inr (31, xs.1, 0, 0), .inr (11, 0, 0, 0), .inr (12, 0, 0, 72), .inr (22, 1, 0, 570), .inl (.int x4), .inl (.int v266), .inl (.int v270), ab_top]) (st' := [.inl (.int v266), .inl (.int v271)]) (P1 := P269) rfl ⟨trivial, trivial⟩ ?_
        refine tr_if (fun h474 => ?_) (fun h474 => ?_)
        · refine tr_icT (cd := .eq) h474 ?_
          refine tr_nil (rows2 := kb_0_2136) rfl (List.cons_ne_nil _ _) ?_
          refine tr_blk 1 (pc' := 2138) (rows' := kb_0_2136.drop 1) (loc' := [.inr (31, xs.1, 0, 0), .inr (11, 0, 0, 0), .inr (12, 0, 0, 72), .inr (22, 1, 0, 570), .inl (.int x4), .inl (.int v266), .inl (.int v270), ab_top]) (st' := [.inl (.int v266)]) (P1 := P269) rfl ⟨trivial, trivial⟩ ?_
          refine tr_if (fun h475 => ?_) (fun h475 => ?_)
          · refine tr_ifF (cd := .ne) (fun q => q h475) ?_
            refine tr_blk 6 (pc' := 2148) (rows' := kb_0_2136.drop 8) (loc' := [.inr (31, xs.1, 0, 0), .inr (11, 0, 0, 0), .inr (12, 0, 0, 72), .inr (22, 1, 0, 570), .inl (.int x4), .inl (.int v266), .inl (.int v270), ab_top]) (st' := [.inl (.int (lg_cmp (P269.2.1 570 0) (v270).toInt64))]) (P1 := P269) rfl ⟨trivial, trivial, (ab_vi (by decide)), trivial, trivial, trivial, trivial⟩ ?_
            refine tr_if (fun h476 => ?_) (fun h476 => ?_)
            · refine tr_ifT (cd := .eq) h476 ?_
              refine tr_nil (rows2 := kb_0_2153) rfl (List.cons_ne_nil _ _) ?_
              refine tr_goto ?_
              refine tr_nil (rows2 := kb_0_2660) rfl (List.cons_ne_nil _ _) ?_
              refine tr_blk 1 (pc' := 2663) (rows' := kb_0_2660.drop 1) (loc' := [.inr (31, xs.1, 0, 0), .inr (11, 0, 0, 0), .inr (12, 0, 0, 72), .inr (22, 1, 0, 570), .inl (.int (x4 + 8)), .inl (.int v266), .inl (.int v270), ab_top]) (st' := []) (P1 := P269) rfl ⟨trivial, trivial⟩ ?_
              refine tr_goto ?_
              exact ih (x4 + 8) (.inl (.int v266)) (.inl (.int v270)) P269
            · refine tr_ifF (cd := .eq) h476 ?_
              refine tr_blk 1 (pc' := 2152) (rows' := kb_0_2136.drop 10) (loc' := [.inr (31, xs.1, 0, 0), .inr (11, 0, 0, 0), .inr (12, 0, 0, 72), .inr (22, 1, 0, 570), .inl (.int x4), .inl (.int v266), .inl (.int v270), ab_top]) (st' := [.inl (.int (0 : Int32))]) (P1 := P269) rfl ⟨trivial, trivial⟩ ?_
              exact tr_reI (z := km_0) rfl ⟨_, rfl, rfl⟩ rfl
          · refine tr_ifT (cd := .ne) h475 ?_
            refine tr_nil (rows2 := kb_0_2153) rfl (List.cons_ne_nil _ _) ?_
            refine tr_goto ?_
            refine tr_nil (rows2 := kb_0_2660) rfl (List.cons_ne_nil _ _) ?_
            refine tr_blk 1 (pc' := 2663) (rows' := kb_0_2660.drop 1) (loc' := [.inr (31, xs.1, 0, 0), .inr (11, 0, 0, 0), .inr (12, 0, 0, 72), .inr (22, 1, 0, 570), .inl (.int (x4 + 8)), .inl (.int v266), .inl (.int v270), ab_top]) (st' := []) (P1 := P269) rfl ⟨trivial, trivial⟩ ?_
            refine tr_goto ?_
            exact ih (x4 + 8) (.inl (.int v266)) (.inl (.int v270)) P269
        · refine tr_icF (cd := .eq) h474 ?_
          refine tr_blk 1 (pc' := 2135) (rows' := kb_0_2088.drop 32) (loc' := [.inr (31, xs.1, 0, 0), .inr (11, 0, 0, 0), .inr (12, 0, 0, 72), .inr (22, 1, 0, 570), .inl (.int x4), .inl (.int v266), .inl (.int v270), ab_top]) (st' := [.inl (.int (0 : Int32))]) (P1 := P269) rfl ⟨trivial, trivial⟩ ?_
          exact tr_reI (z := km_0) rfl ⟨_, rfl, rfl⟩ rfl
      refine tr_if (fun h477 => ?_) (fun h477 => ?_)
      · refine tr_sw (t := 2156) (by rw [h477]; rfl) ?_
        refine tr_nil (rows2 := kb_0_2156) rfl (List.cons_ne_nil _ _) ?_
        refine tr_gd (fun h272 => ?_)
        refine tr_gd (fun h273 => ?_)
        refine tr_blk 12 (pc' := 2170) (rows' := kb_0_2156.drop 12) (loc' := [.inr (31, xs.1, 0, 0), .inr (11, 0, 0, 0), .inr (12, 0, 0, 72), .inr (22, 1, 0, 570), .inl (.int x4), d5, d6, ab_top]) (st' := [.inr (22, 1, 0, 570), .inl (.int (xs.2 ((x4 + (2 : Int32))).toNatClampNeg)), .inl (.int (xs.2 ((x4 + (1 : Int32))).toNatClampNeg)), .inr (11, 0, 0, 0)]) (P1 := P) rfl ⟨trivial, trivial, trivial, trivial, trivial, ⟨h272, rfl⟩, trivial, trivial, trivial, trivial, ⟨h273, rfl⟩, trivial, trivial⟩ ?_
        refine tr_cWI (z := km_76) (av := [.inr (11, 0, 0, 0), .inl (.int (xs.2 ((x4 + (1 : Int32))).toNatClampNeg)), .inl (.int (xs.2 ((x4 + (2 : Int32))).toNatClampNeg)), .inr (22, 1, 0, 570)]) (st' := []) rfl rfl rfl (Nat.le_of_ble_eq_true rfl) trivial rfl (Nat.le_of_ble_eq_true rfl) (t_76_1 N (xs.2 ((x4 + (1 : Int32))).toNatClampNeg) (xs.2 ((x4 + (2 : Int32))).toNatClampNeg) P) (fun v275 P274 => ?_)
        refine tr_gd (fun h276 => ?_)
        refine tr_gd (fun h277 => ?_)
        refine tr_blk 12 (pc' := 2188) (rows' := kb_0_2156.drop 25) (loc' := [.inr (31, xs.1, 0, 0), .inr (11, 0, 0, 0), .inr (12, 0, 0, 72), .inr (22, 1, 0, 570), .inl (.int x4), .inl (.int v275), d6, ab_top]) (st' := [.inl (.int (xs.2 ((x4 + (2 : Int32))).toNatClampNeg)), .inl (.int (xs.2 ((x4 + (1 : Int32))).toNatClampNeg)), .inr (12, 0, 0, 72)]) (P1 := P274) rfl ⟨trivial, trivial, trivial, trivial, trivial, trivial, ⟨h276, rfl⟩, trivial, trivial, trivial, trivial, ⟨h277, rfl⟩, trivial⟩ ?_
        refine tr_cWI (z := km_77) (av := [.inr (12, 0, 0, 72), .inl (.int (xs.2 ((x4 + (1 : Int32))).toNatClampNeg)), .inl (.int (xs.2 ((x4 + (2 : Int32))).toNatClampNeg))]) (st' := []) rfl rfl rfl (Nat.le_of_ble_eq_true rfl) ⟨rfl, Or.inl (by decide)⟩ rfl (Nat.le_of_ble_eq_true rfl) (t_77 N (xs.2 ((x4 + (1 : Int32))).toNatClampNeg) (xs.2 ((x4 + (2 : Int32))).toNatClampNeg) P274) (fun v279 P278 => ?_)
        refine tr_blk 2 (pc' := 2194) (rows' := kb_0_2156.drop 28) (loc' := [.inr (31, xs.1, 0, 0), .inr (11, 0, 0, 0), .inr (12, 0, 0, 72), .inr (22, 1, 0, 570), .inl (.int x4), .inl (.int v275), .inl (.int v279), ab_top]) (st' := [.inr (12, 0, 0, 72)]) (P1 := P278) rfl ⟨trivial, trivial, trivial⟩ ?_
        refine tr_cRI (z := km_7) (av := [.inr (12, 0, 0, 72)]) (st' := []) rfl rfl rfl (Nat.le_of_ble_eq_true rfl) ⟨rfl, Or.inl (by decide)⟩ rfl (Nat.le_of_ble_eq_true rfl) (t_7 P278) (fun v280 => ?_)
        refine tr_blk 1 (pc' := 2199) (rows' := kb_0_2156.drop 30) (loc' := [.inr (31, xs.1, 0, 0), .inr (11, 0, 0, 0), .inr (12, 0, 0, 72), .inr (22, 1, 0, 570), .inl (.int x4), .inl (.int v275), .inl (.int v279), ab_top]) (st' := [.inl (.int v275), .inl (.int v280)]) (P1 := P278) rfl ⟨trivial, trivial⟩ ?_
        refine tr_if (fun h478 => ?_) (fun h478 => ?_)
        · refine tr_icT (cd := .eq) h478 ?_
          refine tr_nil (rows2 := kb_0_2204) rfl (List.cons_ne_nil _ _) ?_
          refine tr_blk 1 (pc' := 2206) (rows' := kb_0_2204.drop 1) (loc' := [.inr (31, xs.1, 0, 0), .inr (11, 0, 0, 0), .inr (12, 0, 0, 72), .inr (22, 1, 0, 570), .inl (.int x4), .inl (.int v275), .inl (.int v279), ab_top]) (st' := [.inl (.int v275)]) (P1 := P278) rfl ⟨trivial, trivial⟩ ?_
          refine tr_if (fun h479 => ?_) (fun h479 => ?_)
          · refine tr_ifF (cd := .ne) (fun q => q h479) ?_
            refine tr_blk 6 (pc' := 2216) (rows' := kb_0_2204.drop 8) (loc' := [.inr (31, xs.1, 0, 0), .inr (11, 0, 0, 0), .inr (12, 0, 0, 72), .inr (22, 1, 0, 570), .inl (.int x4), .inl (.int v275), .inl (.int v279), ab_top]) (st' := [.inl (.int (lg_cmp (P278.2.1 570 0) (v279).toInt64))]) (P1 := P278) rfl ⟨trivial, trivial, (ab_vi (by decide)), trivial, trivial, trivial, trivial⟩ ?_
            refine tr_if (fun h480 => ?_) (fun h480 => ?_)
            · refine tr_ifT (cd := .eq) h480 ?_
              refine tr_nil (rows2 := kb_0_2221) rfl (List.cons_ne_nil _ _) ?_
              refine tr_goto ?_
              refine tr_nil (rows2 := kb_0_2660) rfl (List.cons_ne_nil _ _) ?_
              refine tr_blk 1 (pc' := 2663) (rows' := kb_0_2660.drop 1) (loc' := [.inr (31, xs.1, 0, 0), .inr (11, 0, 0, 0), .inr (12, 0, 0, 72), .inr (22, 1, 0, 570), .inl (.int (x4 + 8)), .inl (.int v275), .inl (.int v279), ab_top]) (st' := []) (P1 := P278) rfl ⟨trivial, trivial⟩ ?_
              refine tr_goto ?_
              exact ih (x4 + 8) (.inl (.int v275)) (.inl (.int v279)) P278
            · refine tr_ifF (cd := .eq) h480 ?_
              refine tr_blk 1 (pc' := 2220) (rows' := kb_0_2204.drop 10) (loc' := [.inr (31, xs.1, 0, 0), .inr (11, 0, 0, 0), .inr (12, 0, 0, 72), .inr (22, 1, 0, 570), .inl (.int x4), .inl (.int v275), .inl (.int v279), ab_top]) (st' := [.inl (.int (0 : Int32))]) (P1 := P278) rfl ⟨trivial, trivial⟩ ?_
              exact tr_reI (z := km_0) rfl ⟨_, rfl, rfl⟩ rfl
          · refine tr_ifT (cd := .ne) h479 ?_
            refine tr_nil (rows2 := kb_0_2221) rfl (List.cons_ne_nil _ _) ?_
            refine tr_goto ?_
            refine tr_nil (rows2 := kb_0_2660) rfl (List.cons_ne_nil _ _) ?_
            refine tr_blk 1 (pc' := 2663) (rows' := kb_0_2660.drop 1) (loc' := [.inr (31, xs.1, 0, 0), .inr (11, 0, 0, 0), .inr (12, 0, 0, 72), .inr (22, 1, 0, 570), .inl (.int (x4 + 8)), .inl (.int v275), .inl (.int v279), ab_top]) (st' := []) (P1 := P278) rfl ⟨trivial, trivial⟩ ?_
            refine tr_goto ?_
            exact ih (x4 + 8) (.inl (.int v275)) (.inl (.int v279)) P278
        · refine tr_icF (cd := .eq) h478 ?_
          refine tr_blk 1 (pc' := 2203) (rows' := kb_0_2156.drop 32) (loc' := [.inr (31, xs.1, 0, 0), .inr (11, 0, 0, 0), .inr (12, 0, 0, 72), .inr (22, 1, 0, 570), .inl (.int x4), .inl (.int v275), .inl (.int v279), ab_top]) (st' := [.inl (.int (0 : Int32))]) (P1 := P278) rfl ⟨trivial, trivial⟩ ?_
          exact tr_reI (z := km_0) rfl ⟨_, rfl, rfl⟩ rfl
      refine tr_if (fun h481 => ?_) (fun h481 => ?_)
      · refine tr_sw (t := 2224) (by rw [h481]; rfl) ?_
        refine tr_nil (rows2 := kb_0_2224) rfl (List.cons_ne_nil _ _) ?_
        refine tr_blk 1 (pc' := 2225) (rows' := kb_0_2224.drop 1) (loc' := [.inr (31, xs.1, 0, 0), .inr (11, 0, 0, 0), .inr (12, 0, 0, 72), .inr (22, 1, 0, 570), .inl (.int x4), d5, d6, ab_top]) (st' := [.inr (11, 0, 0, 0)]) (P1 := P) rfl ⟨trivial, trivial⟩ ?_
        refine tr_cRI (z := km_78) (av := [.inr (11, 0, 0, 0)]) (st' := []) rfl rfl rfl (Nat.le_of_ble_eq_true rfl) ⟨rfl, Or.inl (by decide)⟩ rfl (Nat.le_of_ble_eq_true rfl) (t_78 N P) (fun v281 => ?_)
        refine tr_blk 1 (pc' := 2229) (rows' := kb_0_2224.drop 3) (loc' := [.inr (31, xs.1, 0, 0), .inr (11, 0, 0, 0), .inr (12, 0, 0, 72), .inr (22, 1, 0, 570), .inl (.int x4), d5, d6, ab_top]) (st' := [.inr (12, 0, 0, 72), .inl (.int v281)]) (P1 := P) rfl ⟨trivial, trivial⟩ ?_
        refine tr_cWI (z := km_79) (av := [.inr (12, 0, 0, 72)]) (st' := [.inl (.int v281)]) rfl rfl rfl (Nat.le_of_ble_eq_true rfl) ⟨rfl, Or.inl (by decide)⟩ rfl (Nat.le_of_ble_eq_true rfl) (t_79 N P) (fun v283 P282 => ?_)
        refine tr_if (fun h482 => ?_) (fun h482 => ?_)
        · refine tr_icT (cd := .eq) h482 ?_
          refine tr_nil (rows2 := kb_0_2660) rfl (List.cons_ne_nil _ _) ?_
          refine tr_blk 1 (pc' := 2663) (rows' := kb_0_2660.drop 1) (loc' := [.inr (31, xs.1, 0, 0), .inr (11, 0, 0, 0), .inr (12, 0, 0, 72), .inr (22, 1, 0, 570), .inl (.int (x4 + 8)), d5, d6, ab_top]) (st' := []) (P1 := P282) rfl ⟨trivial, trivial⟩ ?_
          refine tr_goto ?_
          exact ih (x4 + 8) (d5) (d6) P282
        · refine tr_icF (cd := .eq) h482 ?_
          refine tr_blk 1 (pc' := 2236) (rows' := kb_0_2224.drop 6) (loc' := [.inr (31, xs.1, 0, 0), .inr (11, 0, 0, 0), .inr (12, 0, 0, 72), .inr (22, 1, 0, 570), .inl (.int x4), d5, d6, ab_top]) (st' := [.inl (.int (0 : Int32))]) (P1 := P282) rfl ⟨trivial, trivial⟩ ?_
          exact tr_reI (z := km_0) rfl ⟨_, rfl, rfl⟩ rfl
      refine tr_if (fun h483 => ?_) (fun h483 => ?_)
      · refine tr_sw (t := 2237) (by rw [h483]; rfl) ?_
        refine tr_nil (rows2 := kb_0_2237) rfl (List.cons_ne_nil _ _) ?_
        refine tr_gd (fun h284 => ?_)
        refine tr_blk 7 (pc' := 2245) (rows' := kb_0_2237.drop 7) (loc' := [.inr (31, xs.1, 0, 0), .inr (11, 0, 0, 0), .inr (12, 0, 0, 72), .inr (22, 1, 0, 570), .inl (.int x4), d5, d6, ab_top]) (st' := [.inr (22, 1, 0, 570), .inl (.int (xs.2 ((x4 + (1 : Int32))).toNatClampNeg)), .inr (11, 0, 0, 0)]) (P1 := P) rfl ⟨trivial, trivial, trivial, trivial, trivial, ⟨h284, rfl⟩, trivial, trivial⟩ ?_
        refine tr_cWI (z := km_80) (av := [.inr (11, 0, 0, 0), .inl (.int (xs.2 ((x4 + (1 : Int32))).toNatClampNeg)), .inr (22, 1, 0, 570)]) (st' := []) rfl rfl rfl (Nat.le_of_ble_eq_true rfl) trivial rfl (Nat.le_of_ble_eq_true rfl) (t_80_1 N (xs.2 ((x4 + (1 : Int32))).toNatClampNeg) P) (fun v286 P285 => ?_)
        refine tr_gd (fun h287 => ?_)
        refine tr_blk 7 (pc' := 2257) (rows' := kb_0_2237.drop 15) (loc' := [.inr (31, xs.1, 0, 0), .inr (11, 0, 0, 0), .inr (12, 0, 0, 72), .inr (22, 1, 0, 570), .inl (.int x4), .inl (.int v286), d6, ab_top]) (st' := [.inl (.int (xs.2 ((x4 + (1 : Int32))).toNatClampNeg)), .inr (12, 0, 0, 72)]) (P1 := P285) rfl ⟨trivial, trivial, trivial, trivial, trivial, trivial, ⟨h287, rfl⟩, trivial⟩ ?_
        refine tr_cWL (z := km_81) (av := [.inr (12, 0, 0, 72), .inl (.int (xs.2 ((x4 + (1 : Int32))).toNatClampNeg))]) (st' := []) rfl rfl rfl (Nat.le_of_ble_eq_true rfl) ⟨rfl, Or.inl (by decide)⟩ rfl (Nat.le_of_ble_eq_true rfl) (t_81 N (xs.2 ((x4 + (1 : Int32))).toNatClampNeg) P285) (fun v289 P288 => ?_)
        refine tr_blk 2 (pc' := 2263) (rows' := kb_0_2237.drop 18) (loc' := [.inr (31, xs.1, 0, 0), .inr (11, 0, 0, 0), .inr (12, 0, 0, 72), .inr (22, 1, 0, 570), .inl (.int x4), .inl (.int v286), .inl (.long v289), ab_top]) (st' := [.inr (12, 0, 0, 72)]) (P1 := P288) rfl ⟨trivial, trivial, trivial⟩ ?_
        refine tr_cRI (z := km_7) (av := [.inr (12, 0, 0, 72)]) (st' := []) rfl rfl rfl (Nat.le_of_ble_eq_true rfl) ⟨rfl, Or.inl (by decide)⟩ rfl (Nat.le_of_ble_eq_true rfl) (t_7 P288) (fun v290 => ?_)
        refine tr_blk 1 (pc' := 2268) (rows' := kb_0_2237.drop 20) (loc' := [.inr (31, xs.1, 0, 0), .inr (11, 0, 0, 0), .inr (12, 0, 0, 72), .inr (22, 1, 0, 570), .inl (.int x4), .inl (.int v286), .inl (.long v289), ab_top]) (st' := [.inl (.int v286), .inl (.int v290)]) (P1 := P288) rfl ⟨trivial, trivial⟩ ?_
        refine tr_if (fun h484 => ?_) (fun h484 => ?_)
        · refine tr_icT (cd := .eq) h484 ?_
          refine tr_nil (rows2 := kb_0_2273) rfl (List.cons_ne_nil _ _) ?_
          refine tr_blk 1 (pc' := 2275) (rows' := kb_0_2273.drop 1) (loc' := [.inr (31, xs.1, 0, 0), .inr (11, 0, 0, 0), .inr (12, 0, 0, 72), .inr (22, 1, 0, 570), .inl (.int x4), .inl (.int v286), .inl (.long v289), ab_top]) (st' := [.inl (.int v286)]) (P1 := P288) rfl ⟨trivial, trivial⟩ ?_
          refine tr_if (fun h485 => ?_) (fun h485 => ?_)
          · refine tr_ifF (cd := .ne) (fun q => q h485) ?_
            refine tr_blk 5 (pc' := 2284) (rows' := kb_0_2273.drop 7) (loc' := [.inr (31, xs.1, 0, 0), .inr (11, 0, 0, 0), .inr (12, 0, 0, 72), .inr (22, 1, 0, 570), .inl (.int x4), .inl (.int v286), .inl (.long v289), ab_top]) (st' := [.inl (.int (lg_cmp (P288.2.1 570 0) v289))]) (P1 := P288) rfl ⟨trivial, trivial, (ab_vi (by decide)), trivial, trivial, trivial⟩ ?_
            refine tr_if (fun h486 => ?_) (fun h486 => ?_)
            · refine tr_ifT (cd := .eq) h486 ?_
              refine tr_nil (rows2 := kb_0_2289) rfl (List.cons_ne_nil _ _) ?_
              refine tr_goto ?_
              refine tr_nil (rows2 := kb_0_2660) rfl (List.cons_ne_nil _ _) ?_
              refine tr_blk 1 (pc' := 2663) (rows' := kb_0_2660.drop 1) (loc' := [.inr (31, xs.1, 0, 0), .inr (11, 0, 0, 0), .inr (12, 0, 0, 72), .inr (22, 1, 0, 570), .inl (.int (x4 + 8)), .inl (.int v286), .inl (.long v289), ab_top]) (st' := []) (P1 := P288) rfl ⟨trivial, trivial⟩ ?_
              refine tr_goto ?_
              exact ih (x4 + 8) (.inl (.int v286)) (.inl (.long v289)) P288
            · refine tr_ifF (cd := .eq) h486 ?_
              refine tr_blk 1 (pc' := 2288) (rows' := kb_0_2273.drop 9) (loc' := [.inr (31, xs.1, 0, 0), .inr (11, 0, 0, 0), .inr (12, 0, 0, 72), .inr (22, 1, 0, 570), .inl (.int x4), .inl (.int v286), .inl (.long v289), ab_top]) (st' := [.inl (.int (0 : Int32))]) (P1 := P288) rfl ⟨trivial, trivial⟩ ?_
              exact tr_reI (z := km_0) rfl ⟨_, rfl, rfl⟩ rfl
          · refine tr_ifT (cd := .ne) h485 ?_
            refine tr_nil (rows2 := kb_0_2289) rfl (List.cons_ne_nil _ _) ?_
            refine tr_goto ?_
            refine tr_nil (rows2 := kb_0_2660) rfl (List.cons_ne_nil _ _) ?_
            refine tr_blk 1 (pc' := 2663) (rows' := kb_0_2660.drop 1) (loc' := [.inr (31, xs.1, 0, 0), .inr (11, 0, 0, 0), .inr (12, 0, 0, 72), .inr (22, 1, 0, 570), .inl (.int (x4 + 8)), .inl (.int v286), .inl (.long v289), ab_top]) (st' := []) (P1 := P288) rfl ⟨trivial, trivial⟩ ?_
            refine tr_goto ?_
            exact ih (x4 + 8) (.inl (.int v286)) (.inl (.long v289)) P288
        · refine tr_icF (cd := .eq) h484 ?_
          refine tr_blk 1 (pc' := 2272) (rows' := kb_0_2237.drop 22) (loc' := [.inr (31, xs.1, 0, 0), .inr (11, 0, 0, 0), .inr (12, 0, 0, 72), .inr (22, 1, 0, 570), .inl (.int x4), .inl (.int v286), .inl (.long v289), ab_top]) (st' := [.inl (.int (0 : Int32))]) (P1 := P288) rfl ⟨trivial, trivial⟩ ?_
          exact tr_reI (z := km_0) rfl ⟨_, rfl, rfl⟩ rfl
      refine tr_if (fun h487 => ?_) (fun h487 => ?_)
      · refine tr_sw (t := 2292) (by rw [h487]; rfl) ?_
        refine tr_nil (rows2 := kb_0_2292) rfl (List.cons_ne_nil _ _) ?_
        refine tr_gd (fun h291 => ?_)
        refine tr_blk 7 (pc' := 2300) (rows' := kb_0_2292.drop 7) (loc' := [.inr (31, xs.1, 0, 0), .inr (11, 0, 0, 0), .inr (12, 0, 0, 72), .inr (22, 1, 0, 570), .inl (.int x4), d5, d6, ab_top]) (st' := [.inr (22, 1, 0, 570), .inl (.int (xs.2 ((x4 + (1 : Int32))).toNatClampNeg)), .inr (11, 0, 0, 0)]) (P1 := P) rfl ⟨trivial, trivial, trivial, trivial, trivial, ⟨h291, rfl⟩, trivial, trivial⟩ ?_
        refine tr_cWI (z := km_82) (av := [.inr (11, 0, 0, 0), .inl (.int (xs.2 ((x4 + (1 : Int32))).toNatClampNeg)), .inr (22, 1, 0, 570)]) (st' := []) rfl rfl rfl (Nat.le_of_ble_eq_true rfl) trivial rfl (Nat.le_of_ble_eq_true rfl) (t_82_1 N (xs.2 ((x4 + (1 : Int32))).toNatClampNeg) P) (fun v293 P292 => ?_)
        refine tr_gd (fun h294 => ?_)
        refine tr_blk 7 (pc' := 2312) (rows' := kb_0_2292.drop 15) (loc' := [.inr (31, xs.1, 0, 0), .inr (11, 0, 0, 0), .inr (12, 0, 0, 72), .inr (22, 1, 0, 570), .inl (.int x4), .inl (.int v293), d6, ab_top]) (st' := [.inl (.int (xs.2 ((x4 + (1 : Int32))).toNatClampNeg)), .inr (12, 0, 0, 72)]) (P1 := P292) rfl ⟨trivial, trivial, trivial, trivial, trivial, trivial, ⟨h294, rfl⟩, trivial⟩ ?_
        refine tr_cWI (z := km_83) (av := [.inr (12, 0, 0, 72), .inl (.int (xs.2 ((x4 + (1 : Int32))).toNatClampNeg))]) (st' := []) rfl rfl rfl (Nat.le_of_ble_eq_true rfl) ⟨rfl, Or.inl (by decide)⟩ rfl (Nat.le_of_ble_eq_true rfl) (t_83 N (xs.2 ((x4 + (1 : Int32))).toNatClampNeg) P292) (fun v296 P295 => ?_)
        refine tr_blk 2 (pc' := 2318) (rows' := kb_0_2292.drop 18) (loc' := [.inr (31, xs.1, 0, 0), .inr (11, 0, 0, 0), .inr (12, 0, 0, 72), .inr (22, 1, 0, 570), .inl (.int x4), .inl (.int v293), .inl (.int v296), ab_top]) (st' := [.inr (12, 0, 0, 72)]) (P1 := P295) rfl ⟨trivial, trivial, trivial⟩ ?_
        refine tr_cRI (z := km_7) (av := [.inr (12, 0, 0, 72)]) (st' := []) rfl rfl rfl (Nat.le_of_ble_eq_true rfl) ⟨rfl, Or.inl (by decide)⟩ rfl (Nat.le_of_ble_eq_true rfl) (t_7 P295) (fun v297 => ?_)
        refine tr_blk 1 (pc' := 2323) (rows' := kb_0_2292.drop 20) (loc' := [.inr (31, xs.1, 0, 0), .inr (11, 0, 0, 0), .inr (12, 0, 0, 72), .inr (22, 1, 0, 570), .inl (.int x4), .inl (.int v293), .inl (.int v296), ab_top]) (st' := [.inl (.int v293), .inl (.int v297)]) (P1 := P295) rfl ⟨trivial, trivial⟩ ?_
        refine tr_if (fun h488 => ?_) (fun h488 => ?_)
        · refine tr_icT (cd := .eq) h488 ?_
          refine tr_nil (rows2 := kb_0_2328) rfl (List.cons_ne_nil _ _) ?_
          refine tr_blk 1 (pc' := 2330) (rows' := kb_0_2328.drop 1) (loc' := [.inr (31, xs.1, 0, 0), .inr (11, 0, 0, 0), .inr (12, 0, 0, 72), .inr (22, 1, 0, 570), .inl (.int x4), .inl (.int v293), .inl (.int v296), ab_top]) (st' := [.inl (.int v293)]) (P1 := P295) rfl ⟨trivial, trivial⟩ ?_
          refine tr_if (fun h489 => ?_) (fun h489 => ?_)
          · refine tr_ifF (cd := .ne) (fun q => q h489) ?_
            refine tr_blk 6 (pc' := 2340) (rows' := kb_0_2328.drop 8) (loc' := [.inr (31, xs.1, 0, 0), .inr (11, 0, 0, 0), .inr (12, 0, 0, 72), .inr (22, 1, 0, 570), .inl (.int x4), .inl (.int v293), .inl (.int v296), ab_top]) (st' := [.inl (.int (lg_cmp (P295.2.1 570 0) (v296).toInt64))]) (P1 := P295) rfl ⟨trivial, trivial, (ab_vi (by decide)), trivial, trivial, trivial, trivial⟩ ?_
            refine tr_if (fun h490 => ?_) (fun h490 => ?_)
            · refine tr_ifT (cd := .eq) h490 ?_
              refine tr_nil (rows2 := kb_0_2345) rfl (List.cons_ne_nil _ _) ?_
              refine tr_goto ?_
              refine tr_nil (rows2 := kb_0_2660) rfl (List.cons_ne_nil _ _) ?_
              refine tr_blk 1 (pc' := 2663) (rows' := kb_0_2660.drop 1) (loc' := [.inr (31, xs.1, 0, 0), .inr (11, 0, 0, 0), .inr (12, 0, 0, 72), .inr (22, 1, 0, 570), .inl (.int (x4 + 8)), .inl (.int v293), .inl (.int v296), ab_top]) (st' := []) (P1 := P295) rfl ⟨trivial, trivial⟩ ?_
              refine tr_goto ?_
              exact ih (x4 + 8) (.inl (.int v293)) (.inl (.int v296)) P295
            · refine tr_ifF (cd := .eq) h490 ?_
              refine tr_blk 1 (pc' := 2344) (rows' := kb_0_2328.drop 10) (loc' := [.inr (31, xs.1, 0, 0), .inr (11, 0, 0, 0), .inr (12, 0, 0, 72), .inr (22, 1, 0, 570), .inl (.int x4), .inl (.int v293), .inl (.int v296), ab_top]) (st' := [.inl (.int (0 : Int32))]) (P1 := P295) rfl ⟨trivial, trivial⟩ ?_
              exact tr_reI (z := km_0) rfl ⟨_, rfl, rfl⟩ rfl
          · refine tr_ifT (cd := .ne) h489 ?_
            refine tr_nil (rows2 := kb_0_2345) rfl (List.cons_ne_nil _ _) ?_
            refine tr_goto ?_
            refine tr_nil (rows2 := kb_0_2660) rfl (List.cons_ne_nil _ _) ?_
            refine tr_blk 1 (pc' := 2663) (rows' := kb_0_2660.drop 1) (loc' := [.inr (31, xs.1, 0, 0), .inr (11, 0, 0, 0), .inr (12, 0, 0, 72), .inr (22, 1, 0, 570), .inl (.int (x4 + 8)), .inl (.int v293), .inl (.int v296), ab_top]) (st' := []) (P1 := P295) rfl ⟨trivial, trivial⟩ ?_
            refine tr_goto ?_
            exact ih (x4 + 8) (.inl (.int v293)) (.inl (.int v296)) P295
        · refine tr_icF (cd := .eq) h488 ?_
          refine tr_blk 1 (pc' := 2327) (rows' := kb_0_2292.drop 22) (loc' := [.inr (31, xs.1, 0, 0), .inr (11, 0, 0, 0), .inr (12, 0, 0, 72), .inr (22, 1, 0, 570), .inl (.int x4), .inl (.int v293), .inl (.int v296), ab_top]) (st' := [.inl (.int (0 : Int32))]) (P1 := P295) rfl ⟨trivial, trivial⟩ ?_
          exact tr_reI (z := km_0) rfl ⟨_, rfl, rfl⟩ rfl
      refine tr_if (fun h491 => ?_) (fun h491 => ?_)
      · refine tr_sw (t := 2348) (by rw [h491]; rfl) ?_
        refine tr_nil (rows2 := kb_0_2348) rfl (List.cons_ne_nil _ _) ?_
        refine tr_gd (fun h298 => ?_)
        refine tr_gd (fun h299 => ?_)
        refine tr_gd (fun h300 => ?_)
        refine tr_gd (fun h301 => ?_)
        refine tr_gd (fun h302 => ?_)
        refine tr_blk 27 (pc' := 2380) (rows' := kb_0_2348.drop 27) (loc' := [.inr (31, xs.1, 0, 0), .inr (11, 0, 0, 0), .inr (12, 0, 0, 72), .inr (22, 1, 0, 570), .inl (.int x4), d5, d6, ab_top]) (st' := [.inr (22, 1, 0, 570), .inl (.int (xs.2 ((x4 + (5 : Int32))).toNatClampNeg)), .inl (.int (xs.2 ((x4 + (4 : Int32))).toNatClampNeg)), .inl (.int (xs.2 ((x4 + (3 : Int32))).toNatClampNeg)), .inl (.int (xs.2 ((x4 + (2 : Int32))).toNatClampNeg)), .inl (.int (xs.2 ((x4 + (1 : Int32))).toNatClampNeg)), .inr (11, 0, 0, 0)]) (P1 := P) rfl ⟨trivial, trivial, trivial, trivial, trivial, ⟨h298, rfl⟩, trivial, trivial, trivial, trivial, ⟨h299, rfl⟩, trivial, trivial, trivial, trivial, ⟨h300, rfl⟩, trivial, trivial, trivial, trivial, ⟨h301, rfl⟩, trivial, trivial, trivial, trivial, ⟨h302, rfl⟩, trivial, trivial⟩ ?_
        refine tr_cWI (z := km_84) (av := [.inr (11, 0, 0, 0), .inl (.int (xs.2 ((x4 + (1 : Int32))).toNatClampNeg)), .inl (.int (xs.2 ((x4 + (2 : Int32))).toNatClampNeg)), .inl (.int (xs.2 ((x4 + (3 : Int32))).toNatClampNeg)), .inl (.int (xs.2 ((x4 + (4 : Int32))).toNatClampNeg)), .inl (.int (xs.2 ((x4 + (5 : Int32))).toNatClampNeg)), .inr (22, 1, 0, 570)]) (st' := []) rfl rfl rfl (Nat.le_of_ble_eq_true rfl) trivial rfl (Nat.le_of_ble_eq_true rfl) (t_84_1 N (xs.2 ((x4 + (1 : Int32))).toNatClampNeg) (xs.2 ((x4 + (2 : Int32))).toNatClampNeg) (xs.2 ((x4 + (3 : Int32))).toNatClampNeg) (xs.2 ((x4 + (4 : Int32))).toNatClampNeg) (xs.2 ((x4 + (5 : Int32))).toNatClampNeg) P) (fun v304 P303 => ?_)
        refine tr_gd (fun h305 => ?_)
        refine tr_gd (fun h306 => ?_)
        refine tr_gd (fun h307 => ?_)
        refine tr_gd (fun h308 => ?_)
        refine tr_gd (fun h309 => ?_)
        refine tr_blk 27 (pc' := 2416) (rows' := kb_0_2348.drop 55) (loc' := [.inr (31, xs.1, 0, 0), .inr (11, 0, 0, 0), .inr (12, 0, 0, 72), .inr (22, 1, 0, 570), .inl (.int x4), .inl (.int v304), d6, ab_top]) (st' := [.inl (.int (xs.2 ((x4 + (5 : Int32))).toNatClampNeg)), .inl (.int (xs.2 ((x4 + (4 : Int32))).toNatClampNeg)), .inl (.int (xs.2 ((x4 + (3 : Int32))).toNatClampNeg)), .inl (.int (xs.2 ((x4 + (2 : Int32))).toNatClampNeg)), .inl (.int (xs.2 ((x4 + (1 : Int32))).toNatClampNeg)), .inr (12, 0, 0, 72)]) (P1 := P303) rfl ⟨trivial, trivial, trivial, trivial, trivial, trivial, ⟨h305, rfl⟩, trivial, trivial, trivial, trivial, ⟨h306, rfl⟩, trivial, trivial, trivial, trivial, ⟨h307, rfl⟩, trivial, trivial, trivial, trivial, ⟨h308, rfl⟩, trivial, trivial, trivial, trivial, ⟨h309, rfl⟩, trivial⟩ ?_
        refine tr_cWI (z := km_85) (av := [.inr (12, 0, 0, 72), .inl (.int (xs.2 ((x4 + (1 : Int32))).toNatClampNeg)), .inl (.int (xs.2 ((x4 + (2 : Int32))).toNatClampNeg)), .inl (.int (xs.2 ((x4 + (3 : Int32))).toNatClampNeg)), .inl (.int (xs.2 ((x4 + (4 : Int32))).toNatClampNeg)), .inl (.int (xs.2 ((x4 + (5 : Int32))).toNatClampNeg))]) (st' := []) rfl rfl rfl (Nat.le_of_ble_eq_true rfl) ⟨rfl, Or.inl (by decide)⟩ rfl (Nat.le_of_ble_eq_true rfl) (t_85 N (xs.2 ((x4 + (1 : Int32))).toNatClampNeg) (xs.2 ((x4 + (2 : Int32))).toNatClampNeg) (xs.2 ((x4 + (3 : Int32))).toNatClampNeg) (xs.2 ((x4 + (4 : Int32))).toNatClampNeg) (xs.2 ((x4 + (5 : Int32))).toNatClampNeg) P303) (fun v311 P310 => ?_)
        refine tr_blk 2 (pc' := 2422) (rows' := kb_0_2348.drop 58) (loc' := [.inr (31, xs.1, 0, 0), .inr (11, 0, 0, 0), .inr (12, 0, 0, 72), .inr (22, 1, 0, 570), .inl (.int x4), .inl (.int v304), .inl (.int v311), ab_top]) (st' := [.inr (12, 0, 0, 72)]) (P1 := P310) rfl ⟨trivial, trivial, trivial⟩ ?_
        refine tr_cRI (z := km_7) (av := [.inr (12, 0, 0, 72)]) (st' := []) rfl rfl rfl (Nat.le_of_ble_eq_true rfl) ⟨rfl, Or.inl (by decide)⟩ rfl (Nat.le_of_ble_eq_true rfl) (t_7 P310) (fun v312 => ?_)
        refine tr_blk 1 (pc' := 2427) (rows' := kb_0_2348.drop 60) (loc' := [.inr (31, xs.1, 0, 0), .inr (11, 0, 0, 0), .inr (12, 0, 0, 72), .inr (22, 1, 0, 570), .inl (.int x4), .inl (.int v304), .inl (.int v311), ab_top]) (st' := [.inl (.int v304), .inl (.int v312)]) (P1 := P310) rfl ⟨trivial, trivial⟩ ?_
        refine tr_if (fun h492 => ?_) (fun h492 => ?_)
        · refine tr_icT (cd := .eq) h492 ?_
          refine tr_nil (rows2 := kb_0_2432) rfl (List.cons_ne_nil _ _) ?_
          refine tr_blk 1 (pc' := 2434) (rows' := kb_0_2432.drop 1) (loc' := [.inr (31, xs.1, 0, 0), .inr (11, 0, 0, 0), .inr (12, 0, 0, 72), .inr (22, 1, 0, 570), .inl (.int x4), .inl (.int v304), .inl (.int v311), ab_top]) (st' := [.inl (.int v304)]) (P1 := P310) rfl ⟨trivial, trivial⟩ ?_
          refine tr_if (fun h493 => ?_) (fun h493 => ?_)
          · refine tr_ifF (cd := .ne) (fun q => q h493) ?_
            refine tr_blk 6 (pc' := 2444) (rows' := kb_0_2432.drop 8) (loc' := [.inr (31, xs.1, 0, 0), .inr (11, 0, 0, 0), .inr (12, 0, 0, 72), .inr (22, 1, 0, 570), .inl (.int x4), .inl (.int v304), .inl (.int v311), ab_top]) (st' := [.inl (.int (lg_cmp (P310.2.1 570 0) (v311).toInt64))]) (P1 := P310) rfl ⟨trivial, trivial, (ab_vi (by decide)), trivial, trivial, trivial, trivial⟩ ?_
            refine tr_if (fun h494 => ?_) (fun h494 => ?_)
            · refine tr_ifT (cd := .eq) h494 ?_
              refine tr_nil (rows2 := kb_0_2449) rfl (List.cons_ne_nil _ _) ?_
              refine tr_goto ?_
              refine tr_nil (rows2 := kb_0_2660) rfl (List.cons_ne_nil _ _) ?_
              refine tr_blk 1 (pc' := 2663) (rows' := kb_0_2660.drop 1) (loc' := [.inr (31, xs.1, 0, 0), .inr (11, 0, 0, 0), .inr (12, 0, 0, 72), .inr (22, 1, 0, 570), .inl (.int (x4 + 8)), .inl (.int v304), .inl (.int v311), ab_top]) (st' := []) (P1 := P310) rfl ⟨trivial, trivial⟩ ?_
              refine tr_goto ?_
              exact ih (x4 + 8) (.inl (.int v304)) (.inl (.int v311)) P310
            · refine tr_ifF (cd := .eq) h494 ?_
              refine tr_blk 1 (pc' := 2448) (rows' := kb_0_2432.drop 10) (loc' := [.inr (31, xs.1, 0, 0), .inr (11, 0, 0, 0), .inr (12, 0, 0, 72), .inr (22, 1, 0, 570), .inl (.int x4), .inl (.int v304), .inl (.int v311), ab_top]) (st' := [.inl (.int (0 : Int32))]) (P1 := P310) rfl ⟨trivial, trivial⟩ ?_
              exact tr_reI (z := km_0) rfl ⟨_, rfl, rfl⟩ rfl
          · refine tr_ifT (cd := .ne) h493 ?_
            refine tr_nil (rows2 := kb_0_2449) rfl (List.cons_ne_nil _ _) ?_
            refine tr_goto ?_
            refine tr_nil (rows2 := kb_0_2660) rfl (List.cons_ne_nil _ _) ?_
            refine tr_blk 1 (pc' := 2663) (rows' := kb_0_2660.drop 1) (loc' := [.inr (31, xs.1, 0, 0), .inr (11, 0, 0, 0), .inr (12, 0, 0, 72), .inr (22, 1, 0, 570), .inl (.int (x4 + 8)), .inl (.int v304), .inl (.int v311), ab_top]) (st' := []) (P1 := P310) rfl ⟨trivial, trivial⟩ ?_
            refine tr_goto ?_
            exact ih (x4 + 8) (.inl (.int v304)) (.inl (.int v311)) P310
        · refine tr_icF (cd := .eq) h492 ?_
          refine tr_blk 1 (pc' := 2431) (rows' := kb_0_2348.drop 62) (loc' := [.inr (31, xs.1, 0, 0), .inr (11, 0, 0, 0), .inr (12, 0, 0, 72), .inr (22, 1, 0, 570), .inl (.int x4), .inl (.int v304), .inl (.int v311), ab_top]) (st' := [.inl (.int (0 : Int32))]) (P1 := P310) rfl ⟨trivial, trivial⟩ ?_
          exact tr_reI (z := km_0) rfl ⟨_, rfl, rfl⟩ rfl
      refine tr_if (fun h495 => ?_) (fun h495 => ?_)
      · refine tr_sw (t := 2452) (by rw [h495]; rfl) ?_
        refine tr_nil (rows2 := kb_0_2452) rfl (List.cons_ne_nil _ _) ?_
        refine tr_gd (fun h313 => ?_)
        refine tr_gd (fun h314 => ?_)
        refine tr_gd (fun h315 => ?_)
        refine tr_gd (fun h316 => ?_)
        refine tr_gd (fun h317 => ?_)
        refine tr_gd (fun h318 => ?_)
        refine tr_gd (fun h319 => ?_)
        refine tr_blk 37 (pc' := 2498) (rows' := kb_0_2452.drop 37) (loc' := [.inr (31, xs.1, 0, 0), .inr (11, 0, 0, 0), .inr (12, 0, 0, 72), .inr (22, 1, 0, 570), .inl (.int x4), d5, d6, ab_top]) (st' := [.inr (22, 1, 0, 570), .inl (.int (xs.2 ((x4 + (7 : Int32))).toNatClampNeg)), .inl (.int (xs.2 ((x4 + (6 : Int32))).toNatClampNeg)), .inl (.int (xs.2 ((x4 + (5 : Int32))).toNatClampNeg)), .inl (.int (xs.2 ((x4 + (4 : Int32))).toNatClampNeg)), .inl (.int (xs.2 ((x4 + (3 : Int32))).toNatClampNeg)), .inl (.int (xs.2 ((x4 + (2 : Int32))).toNatClampNeg)), .inl (.int (xs.2 ((x4 + (1 : Int32))).toNatClampNeg)), .inr (11, 0, 0, 0)]) (P1 := P) rfl ⟨trivial, trivial, trivial, trivial, trivial, ⟨h313, rfl⟩, trivial, trivial, trivial, trivial, ⟨h314, rfl⟩, trivial, trivial, trivial, trivial, ⟨h315, rfl⟩, trivial, trivial, trivial, trivial, ⟨h316, rfl⟩, trivial, trivial, trivial, trivial, ⟨h317, rfl⟩, trivial, trivial, trivial, trivial, ⟨h318, rfl⟩, trivial, trivial, trivial, trivial, ⟨h319, rfl⟩, trivial, trivial⟩ ?_
        refine tr_cWI (z := km_86) (av := [.inr (11, 0, 0, 0), .inl (.int (xs.2 ((x4 + (1 : Int32))).toNatClampNeg)), .inl (.int (xs.2 ((x4 + (2 : Int32))).toNatClampNeg)), .inl (.int (xs.2 ((x4 + (3 : Int32))).toNatClampNeg)), .inl (.int (xs.2 ((x4 + (4 : Int32))).toNatClampNeg)), .inl (.int (xs.2 ((x4 + (5 : Int32))).toNatClampNeg)), .inl (.int (xs.2 ((x4 + (6 : Int32))).toNatClampNeg)), .inl (.int (xs.2 ((x4 + (7 : Int32))).toNatClampNeg)), .inr (22, 1, 0, 570)]) (st' := []) rfl rfl rfl (Nat.le_of_ble_eq_true rfl) trivial rfl (Nat.le_of_ble_eq_true rfl) (t_86_1 N (xs.2 ((x4 + (1 : Int32))).toNatClampNeg) (xs.2 ((x4 + (2 : Int32))).toNatClampNeg) (xs.2 ((x4 + (3 : Int32))).toNatClampNeg) (xs.2 ((x4 + (4 : Int32))).toNatClampNeg) (xs.2 ((x4 + (5 : Int32))).toNatClampNeg) (xs.2 ((x4 + (6 : Int32))).toNatClampNeg) (xs.2 ((x4 + (7 : Int32))).toNatClampNeg) P) (fun v321 P320 => ?_)
        refine tr_gd (fun h322 => ?_)
        refine tr_gd (fun h323 => ?_)
        refine tr_gd (fun h324 => ?_)
        refine tr_gd (fun h325 => ?_)
        refine tr_gd (fun h326 => ?_)
        refine tr_gd (fun h327 => ?_)
        refine tr_gd (fun h328 => ?_)
        refine tr_blk 37 (pc' := 2548) (rows' := kb_0_2452.drop 75) (loc' := [.inr (31, xs.1, 0, 0), .inr (11, 0, 0, 0), .inr (12, 0, 0, 72), .inr (22, 1, 0, 570), .inl (.int x4), .inl (.int v321), d6, ab_top]) (st' := [.inl (.int (xs.2 ((x4 + (7 : Int32))).toNatClampNeg)), .inl (.int (xs.2 ((x4 + (6 : Int32))).toNatClampNeg)), .inl (.int (xs.2 ((x4 + (5 : Int32))).toNatClampNeg)), .inl (.int (xs.2 ((x4 + (4 : Int32))).toNatClampNeg)), .inl (.int (xs.2 ((x4 + (3 : Int32))).toNatClampNeg)), .inl (.int (xs.2 ((x4 + (2 : Int32))).toNatClampNeg)), .inl (.int (xs.2 ((x4 + (1 : Int32))).toNatClampNeg)), .inr (12, 0, 0, 72)]) (P1 := P320) rfl ⟨trivial, trivial, trivial, trivial, trivial, trivial, ⟨h322, rfl⟩, trivial, trivial, trivial, trivial, ⟨h323, rfl⟩, trivial, trivial, trivial, trivial, ⟨h324, rfl⟩, trivial, trivial, trivial, trivial, ⟨h325, rfl⟩, trivial, trivial, trivial, trivial, ⟨h326, rfl⟩, trivial, trivial, trivial, trivial, ⟨h327, rfl⟩, trivial, trivial, trivial, trivial, ⟨h328, rfl⟩, trivial⟩ ?_
        refine tr_cWI (z := km_87) (av := [.inr (12, 0, 0, 72), .inl (.int (xs.2 ((x4 + (1 : Int32))).toNatClampNeg)), .inl (.int (xs.2 ((x4 + (2 : Int32))).toNatClampNeg)), .inl (.int (xs.2 ((x4 + (3 : Int32))).toNatClampNeg)), .inl (.int (xs.2 ((x4 + (4 : Int32))).toNatClampNeg)), .inl (.int (xs.2 ((x4 + (5 : Int32))).toNatClampNeg)), .inl (.int (xs.2 ((x4 + (6 : Int32))).toNatClampNeg)), .inl (.int (xs.2 ((x4 + (7 : Int32))).toNatClampNeg))]) (st' := []) rfl rfl rfl (Nat.le_of_ble_eq_true rfl) ⟨rfl, Or.inl (by decide)⟩ rfl (Nat.le_of_ble_eq_true rfl) (t_87 N (xs.2 ((x4 + (1 : Int32))).toNatClampNeg) (xs.2 ((x4 + (2 : Int32))).toNatClampNeg) (xs.2 ((x4 + (3 : Int32))).toNatClampNeg) (xs.2 ((x4 + (4 : Int32))).toNatClampNeg) (xs.2 ((x4 + (5 : Int32))).toNatClampNeg) (xs.2 ((x4 + (6 : Int32))).toNatClampNeg) (xs.2 ((x4 + (7 : Int32))).toNatClampNeg) P320) (fun v330 P329 => ?_)
        refine tr_blk 2 (pc' := 2554) (rows' := kb_0_2452.drop 78) (loc' := [.inr (31, xs.1, 0, 0), .inr (11, 0, 0, 0), .inr (12, 0, 0, 72), .inr (22, 1, 0, 570), .inl (.int x4), .inl (.int v321), .inl (.int v330), ab_top]) (st' := [.inr (12, 0, 0, 72)]) (P1 := P329) rfl ⟨trivial, trivial, trivial⟩ ?_
        refine tr_cRI (z := km_7) (av := [.inr (12, 0, 0, 72)]) (st' := []) rfl rfl rfl (Nat.le_of_ble_eq_true rfl) ⟨rfl, Or.inl (by decide)⟩ rfl (Nat.le_of_ble_eq_true rfl) (t_7 P329) (fun v331 => ?_)
        refine tr_blk 1 (pc' := 2559) (rows' := kb_0_2452.drop 80) (loc' := [.inr (31, xs.1, 0, 0), .inr (11, 0, 0, 0), .inr (12, 0, 0, 72), .inr (22, 1, 0, 570), .inl (.int x4), .inl (.int v321), .inl (.int v330), ab_top]) (st' := [.inl (.int v321), .inl (.int v331)]) (P1 := P329) rfl ⟨trivial, trivial⟩ ?_
        refine tr_if (fun h496 => ?_) (fun h496 => ?_)
        · refine tr_icT (cd := .eq) h496 ?_
          refine tr_nil (rows2 := kb_0_2564) rfl (List.cons_ne_nil _ _) ?_
          refine tr_blk 1 (pc' := 2566) (rows' := kb_0_2564.drop 1) (loc' := [.inr (31, xs.1, 0, 0), .inr (11, 0, 0, 0), .inr (12, 0, 0, 72), .inr (22, 1, 0, 570), .inl (.int x4), .inl (.int v321), .inl (.int v330), ab_top]) (st' := [.inl (.int v321)]) (P1 := P329) rfl ⟨trivial, trivial⟩ ?_
          refine tr_if (fun h497 => ?_) (fun h497 => ?_)
          · refine tr_ifF (cd := .ne) (fun q => q h497) ?_
            refine tr_blk 6 (pc' := 2576) (rows' := kb_0_2564.drop 8) (loc' := [.inr (31, xs.1, 0, 0), .inr (11, 0, 0, 0), .inr (12, 0, 0, 72), .inr (22, 1, 0, 570), .inl (.int x4), .inl (.int v321), .inl (.int v330), ab_top]) (st' := [.inl (.int (lg_cmp (P329.2.1 570 0) (v330).toInt64))]) (P1 := P329) rfl ⟨trivial, trivial, (ab_vi (by decide)), trivial, trivial, trivial, trivial⟩ ?_
            refine tr_if (fun h498 => ?_) (fun h498 => ?_)
            · refine tr_ifT (cd := .eq) h498 ?_
              refine tr_nil (rows2 := kb_0_2581) rfl (List.cons_ne_nil _ _) ?_
              refine tr_goto ?_
              refine tr_nil (rows2 := kb_0_2660) rfl (List.cons_ne_nil _ _) ?_
              refine tr_blk 1 (pc' := 2663) (rows' := kb_0_2660.drop 1) (loc' := [.inr (31, xs.1, 0, 0), .inr (11, 0, 0, 0), .inr (12, 0, 0, 72), .inr (22, 1, 0, 570), .inl (.int (x4 + 8)), .inl (.int v321), .inl (.int v330), ab_top]) (st' := []) (P1 := P329) rfl ⟨trivial, trivial⟩ ?_
              refine tr_goto ?_
              exact ih (x4 + 8) (.inl (.int v321)) (.inl (.int v330)) P329
            · refine tr_ifF (cd := .eq) h498 ?_
              refine tr_blk 1 (pc' := 2580) (rows' := kb_0_2564.drop 10) (loc' := [.inr (31, xs.1, 0, 0), .inr (11, 0, 0, 0), .inr (12, 0, 0, 72), .inr (22, 1, 0, 570), .inl (.int x4), .inl (.int v321), .inl (.int v330), ab_top]) (st' := [.inl (.int (0 : Int32))]) (P1 := P329) rfl ⟨trivial, trivial⟩ ?_
              exact tr_reI (z := km_0) rfl ⟨_, rfl, rfl⟩ rfl
          · refine tr_ifT (cd := .ne) h497 ?_
            refine tr_nil (rows2 := kb_0_2581) rfl (List.cons_ne_nil _ _) ?_
            refine tr_goto ?_
            refine tr_nil (rows2 := kb_0_2660) rfl (List.cons_ne_nil _ _) ?_
            refine tr_blk 1 (pc' := 2663) (rows' := kb_0_2660.drop 1) (loc' := [.inr (31, xs.1, 0, 0), .inr (11, 0, 0, 0), .inr (12, 0, 0, 72), .inr (22, 1, 0, 570), .inl (.int (x4 + 8)), .inl (.int v321), .inl (.int v330), ab_top]) (st' := []) (P1 := P329) rfl ⟨trivial, trivial⟩ ?_
            refine tr_goto ?_
            exact ih (x4 + 8) (.inl (.int v321)) (.inl (.int v330)) P329
        · refine tr_icF (cd := .eq) h496 ?_
          refine tr_blk 1 (pc' := 2563) (rows' := kb_0_2452.drop 82) (loc' := [.inr (31, xs.1, 0, 0), .inr (11, 0, 0, 0), .inr (12, 0, 0, 72), .inr (22, 1, 0, 570), .inl (.int x4), .inl (.int v321), .inl (.int v330), ab_top]) (st' := [.inl (.int (0 : Int32))]) (P1 := P329) rfl ⟨trivial, trivial⟩ ?_
          exact tr_reI (z := km_0) rfl ⟨_, rfl, rfl⟩ rfl
      refine tr_if (fun h499 => ?_) (fun h499 => ?_)
      · refine tr_sw (t := 2584) (by rw [h499]; rfl) ?_
        refine tr_nil (rows2 := kb_0_2584) rfl (List.cons_ne_nil _ _) ?_
        refine tr_blk 1 (pc' := 2585) (rows' := kb_0_2584.drop 1) (loc' := [.inr (31, xs.1, 0, 0), .inr (11, 0, 0, 0), .inr (12, 0, 0, 72), .inr (22, 1, 0, 570), .inl (.int x4), d5, d6, ab_top]) (st' := [.inr (11, 0, 0, 0)]) (P1 := P) rfl ⟨trivial, trivial⟩ ?_
        refine tr_cWI (z := km_88) (av := [.inr (11, 0, 0, 0)]) (st' := []) rfl rfl rfl (Nat.le_of_ble_eq_true rfl) ⟨rfl, Or.inl (by decide)⟩ rfl (Nat.le_of_ble_eq_true rfl) (t_88 N P) (fun v333 P332 => ?_)
        refine tr_blk 1 (pc' := 2589) (rows' := kb_0_2584.drop 3) (loc' := [.inr (31, xs.1, 0, 0), .inr (11, 0, 0, 0), .inr (12, 0, 0, 72), .inr (22, 1, 0, 570), .inl (.int x4), d5, d6, ab_top]) (st' := [.inr (12, 0, 0, 72), .inl (.int v333)]) (P1 := P332) rfl ⟨trivial, trivial⟩ ?_
        refine tr_cWI (z := km_89) (av := [.inr (12, 0, 0, 72)]) (st' := [.inl (.int v333)]) rfl rfl rfl (Nat.le_of_ble_eq_true rfl) ⟨rfl, Or.inl (by decide)⟩ rfl (Nat.le_of_ble_eq_true rfl) (t_89 N P332) (fun v335 P334 => ?_)
        refine tr_if (fun h500 => ?_) (fun h500 => ?_)
        · refine tr_icT (cd := .eq) h500 ?_
          refine tr_nil (rows2 := kb_0_2660) rfl (List.cons_ne_nil _ _) ?_
          refine tr_blk 1 (pc' := 2663) (rows' := kb_0_2660.drop 1) (loc' := [.inr (31, xs.1, 0, 0), .inr (11, 0, 0, 0), .inr (12, 0, 0, 72), .inr (22, 1, 0, 570), .inl (.int (x4 + 8)), d5, d6, ab_top]) (st' := []) (P1 := P334) rfl ⟨trivial, trivial⟩ ?_
          refine tr_goto ?_
          exact ih (x4 + 8) (d5) (d6) P334
        · refine tr_icF (cd := .eq) h500 ?_
          refine tr_blk 1 (pc' := 2596) (rows' := kb_0_2584.drop 6) (loc' := [.inr (31, xs.1, 0, 0), .inr (11, 0, 0, 0), .inr (12, 0, 0, 72), .inr (22, 1, 0, 570), .inl (.int x4), d5, d6, ab_top]) (st' := [.inl (.int (0 : Int32))]) (P1 := P334) rfl ⟨trivial, trivial⟩ ?_
          exact tr_reI (z := km_0) rfl ⟨_, rfl, rfl⟩ rfl
      refine tr_if (fun h501 => ?_) (fun h501 => ?_)
      · refine tr_sw (t := 2597) (by rw [h501]; rfl) ?_
        refine tr_nil (rows2 := kb_0_2597) rfl (List.cons_ne_nil _ _) ?_
        refine tr_blk 1 (pc' := 2598) (rows' := kb_0_2597.drop 1) (loc' := [.inr (31, xs.1, 0, 0), .inr (11, 0, 0, 0), .inr (12, 0, 0, 72), .inr (22, 1, 0, 570), .inl (.int x4), d5, d6, ab_top]) (st' := [.inr (11, 0, 0, 0)]) (P1 := P) rfl ⟨trivial, trivial⟩ ?_
        refine tr_cWI (z := km_90) (av := [.inr (11, 0, 0, 0)]) (st' := []) rfl rfl rfl (Nat.le_of_ble_eq_true rfl) ⟨rfl, Or.inl (by decide)⟩ rfl (Nat.le_of_ble_eq_true rfl) (t_90 N P) (fun v337 P336 => ?_)
        refine tr_blk 1 (pc' := 2602) (rows' := kb_0_2597.drop 3) (loc' := [.inr (31, xs.1, 0, 0), .inr (11, 0, 0, 0), .inr (12, 0, 0, 72), .inr (22, 1, 0, 570), .inl (.int x4), d5, d6, ab_top]) (st' := [.inr (12, 0, 0, 72), .inl (.int v337)]) (P1 := P336) rfl ⟨trivial, trivial⟩ ?_
        refine tr_cWI (z := km_91) (av := [.inr (12, 0, 0, 72)]) (st' := [.inl (.int v337)]) rfl rfl rfl (Nat.le_of_ble_eq_true rfl) ⟨rfl, Or.inl (by decide)⟩ rfl (Nat.le_of_ble_eq_true rfl) (t_91 N P336) (fun v339 P338 => ?_)
        refine tr_if (fun h502 => ?_) (fun h502 => ?_)
        · refine tr_icT (cd := .eq) h502 ?_
          refine tr_nil (rows2 := kb_0_2660) rfl (List.cons_ne_nil _ _) ?_
          refine tr_blk 1 (pc' := 2663) (rows' := kb_0_2660.drop 1) (loc' := [.inr (31, xs.1, 0, 0), .inr (11, 0, 0, 0), .inr (12, 0, 0, 72), .inr (22, 1, 0, 570), .inl (.int (x4 + 8)), d5, d6, ab_top]) (st' := []) (P1 := P338) rfl ⟨trivial, trivial⟩ ?_
          refine tr_goto ?_
          exact ih (x4 + 8) (d5) (d6) P338
        · refine tr_icF (cd := .eq) h502 ?_
          refine tr_blk 1 (pc' := 2609) (rows' := kb_0_2597.drop 6) (loc' := [.inr (31, xs.1, 0, 0), .inr (11, 0, 0, 0), .inr (12, 0, 0, 72), .inr (22, 1, 0, 570), .inl (.int x4), d5, d6, ab_top]) (st' := [.inl (.int (0 : Int32))]) (P1 := P338) rfl ⟨trivial, trivial⟩ ?_
          exact tr_reI (z := km_0) rfl ⟨_, rfl, rfl⟩ rfl
      refine tr_if (fun h503 => ?_) (fun h503 => ?_)
      · refine tr_sw (t := 2610) (by rw [h503]; rfl) ?_
        refine tr_nil (rows2 := kb_0_2610) rfl (List.cons_ne_nil _ _) ?_
        refine tr_gd (fun h340 => ?_)
        refine tr_blk 6 (pc' := 2617) (rows' := kb_0_2610.drop 6) (loc' := [.inr (31, xs.1, 0, 0), .inr (11, 0, 0, 0), .inr (12, 0, 0, 72), .inr (22, 1, 0, 570), .inl (.int x4), d5, d6, ab_top]) (st' := [.inl (.int (xs.2 ((x4 + (1 : Int32))).toNatClampNeg)), .inr (11, 0, 0, 0)]) (P1 := P) rfl ⟨trivial, trivial, trivial, trivial, trivial, ⟨h340, rfl⟩, trivial⟩ ?_
        refine tr_cRI (z := km_92) (av := [.inr (11, 0, 0, 0), .inl (.int (xs.2 ((x4 + (1 : Int32))).toNatClampNeg))]) (st' := []) rfl rfl rfl (Nat.le_of_ble_eq_true rfl) ⟨rfl, Or.inl (by decide)⟩ rfl (Nat.le_of_ble_eq_true rfl) (t_92 P (xs.2 ((x4 + (1 : Int32))).toNatClampNeg)) (fun v341 => ?_)
        refine tr_gd (fun h342 => ?_)
        refine tr_blk 6 (pc' := 2627) (rows' := kb_0_2610.drop 13) (loc' := [.inr (31, xs.1, 0, 0), .inr (11, 0, 0, 0), .inr (12, 0, 0, 72), .inr (22, 1, 0, 570), .inl (.int x4), d5, d6, ab_top]) (st' := [.inl (.int (xs.2 ((x4 + (1 : Int32))).toNatClampNeg)), .inr (12, 0, 0, 72), .inl (.int v341)]) (P1 := P) rfl ⟨trivial, trivial, trivial, trivial, trivial, ⟨h342, rfl⟩, trivial⟩ ?_
        refine tr_cWI (z := km_93) (av := [.inr (12, 0, 0, 72), .inl (.int (xs.2 ((x4 + (1 : Int32))).toNatClampNeg))]) (st' := [.inl (.int v341)]) rfl rfl rfl (Nat.le_of_ble_eq_true rfl) ⟨rfl, Or.inl (by decide)⟩ rfl (Nat.le_of_ble_eq_true rfl) (t_93 (xs.2 ((x4 + (1 : Int32))).toNatClampNeg) P) (fun v344 P343 => ?_)
        refine tr_if (fun h504 => ?_) (fun h504 => ?_)
        · refine tr_icT (cd := .eq) h504 ?_
          refine tr_nil (rows2 := kb_0_2660) rfl (List.cons_ne_nil _ _) ?_
          refine tr_blk 1 (pc' := 2663) (rows' := kb_0_2660.drop 1) (loc' := [.inr (31, xs.1, 0, 0), .inr (11, 0, 0, 0), .inr (12, 0, 0, 72), .inr (22, 1, 0, 570), .inl (.int (x4 + 8)), d5, d6, ab_top]) (st' := []) (P1 := P343) rfl ⟨trivial, trivial⟩ ?_
          refine tr_goto ?_
          exact ih (x4 + 8) (d5) (d6) P343
        · refine tr_icF (cd := .eq) h504 ?_
          refine tr_blk 1 (pc' := 2634) (rows' := kb_0_2610.drop 16) (loc' := [.inr (31, xs.1, 0, 0), .inr (11, 0, 0, 0), .inr (12, 0, 0, 72), .inr (22, 1, 0, 570), .inl (.int x4), d5, d6, ab_top]) (st' := [.inl (.int (0 : Int32))]) (P1 := P343) rfl ⟨trivial, trivial⟩ ?_
          exact tr_reI (z := km_0) rfl ⟨_, rfl, rfl⟩ rfl
      refine tr_if (fun h505 => ?_) (fun h505 => ?_)
      · refine tr_sw (t := 2635) (by rw [h505]; rfl) ?_
        refine tr_nil (rows2 := kb_0_2635) rfl (List.cons_ne_nil _ _) ?_
        refine tr_gd (fun h345 => ?_)
        refine tr_blk 6 (pc' := 2642) (rows' := kb_0_2635.drop 6) (loc' := [.inr (31, xs.1, 0, 0), .inr (11, 0, 0, 0), .inr (12, 0, 0, 72), .inr (22, 1, 0, 570), .inl (.int x4), d5, d6, ab_top]) (st' := [.inl (.int (xs.2 ((x4 + (1 : Int32))).toNatClampNeg)), .inr (11, 0, 0, 0)]) (P1 := P) rfl ⟨trivial, trivial, trivial, trivial, trivial, ⟨h345, rfl⟩, trivial⟩ ?_
        refine tr_cRI (z := km_94) (av := [.inr (11, 0, 0, 0), .inl (.int (xs.2 ((x4 + (1 : Int32))).toNatClampNeg))]) (st' := []) rfl rfl rfl (Nat.le_of_ble_eq_true rfl) ⟨rfl, Or.inl (by decide)⟩ rfl (Nat.le_of_ble_eq_true rfl) (t_94 P (xs.2 ((x4 + (1 : Int32))).toNatClampNeg)) (fun v346 => ?_)
        refine tr_gd (fun h347 => ?_)
        refine tr_blk 6 (pc' := 2652) (rows' := kb_0_2635.drop 13) (loc' := [.inr (31, xs.1, 0, 0), .inr (11, 0, 0, 0), .inr (12, 0, 0, 72), .inr (22, 1, 0, 570), .inl (.int x4), d5, d6, ab_top]) (st' := [.inl (.int (xs.2 ((x4 + (1 : Int32))).toNatClampNeg)), .inr (12, 0, 0, 72), .inl (.int v346)]) (P1 := P) rfl ⟨trivial, trivial, trivial, trivial, trivial, ⟨h347, rfl⟩, trivial⟩ ?_
        refine tr_cWI (z := km_95) (av := [.inr (12, 0, 0, 72), .inl (.int (xs.2 ((x4 + (1 : Int32))).toNatClampNeg))]) (st' := [.inl (.int v346)]) rfl rfl rfl (Nat.le_of_ble_eq_true rfl) ⟨rfl, Or.inl (by decide)⟩ rfl (Nat.le_of_ble_eq_true rfl) (t_95 (xs.2 ((x4 + (1 : Int32))).toNatClampNeg) P) (fun v349 P348 => ?_)
        refine tr_if (fun h506 => ?_) (fun h506 => ?_)
        · refine tr_icT (cd := .eq) h506 ?_
          refine tr_nil (rows2 := kb_0_2660) rfl (List.cons_ne_nil _ _) ?_
          refine tr_blk 1 (pc' := 2663) (rows' := kb_0_2660.drop 1) (loc' := [.inr (31, xs.1, 0, 0), .inr (11, 0, 0, 0), .inr (12, 0, 0, 72), .inr (22, 1, 0, 570), .inl (.int (x4 + 8)), d5, d6, ab_top]) (st' := []) (P1 := P348) rfl ⟨trivial, trivial⟩ ?_
          refine tr_goto ?_
          exact ih (x4 + 8) (d5) (d6) P348
        · refine tr_icF (cd := .eq) h506 ?_
          refine tr_blk 1 (pc' := 2659) (rows' := kb_0_2635.drop 16) (loc' := [.inr (31, xs.1, 0, 0), .inr (11, 0, 0, 0), .inr (12, 0, 0, 72), .inr (22, 1, 0, 570), .inl (.int x4), d5, d6, ab_top]) (st' := [.inl (.int (0 : Int32))]) (P1 := P348) rfl ⟨trivial, trivial⟩ ?_
          exact tr_reI (z := km_0) rfl ⟨_, rfl, rfl⟩ rfl
      refine tr_sw (t := 2660) (ab_swd (k := 46) (by decide) rfl ⟨ab_nei h351 (by decide), ab_nei h353 (by decide), ab_nei h357 (by decide), ab_nei h361 (by decide), ab_nei h365 (by decide), ab_nei h369 (by decide), ab_nei h371 (by decide), ab_nei h373 (by decide), ab_nei h377 (by decide), ab_nei h381 (by decide), ab_nei h385 (by decide), ab_nei h389 (by decide), ab_nei h393 (by decide), ab_nei h397 (by decide), ab_nei h401 (by decide), ab_nei h405 (by decide), ab_nei h407 (by decide), ab_nei h411 (by decide), ab_nei h415 (by decide), ab_nei h419 (by decide), ab_nei h423 (by decide), ab_nei h425 (by decide), ab_nei h427 (by decide), ab_nei h431 (by decide), ab_nei h435 (by decide), ab_nei h437 (by decide), ab_nei h441 (by decide), ab_nei h443 (by decide), ab_nei h447 (by decide), ab_nei h451 (by decide), ab_nei h453 (by decide), ab_nei h457 (by decide), ab_nei h461 (by decide), ab_nei h465 (by decide), ab_nei h469 (by decide), ab_nei h473 (by decide), ab_nei h477 (by decide), ab_nei h481 (by decide), ab_nei h483 (by decide), ab_nei h487 (by decide), ab_nei h491 (by decide), ab_nei h495 (by decide), ab_nei h499 (by decide), ab_nei h501 (by decide), ab_nei h503 (by decide), ab_nei h505 (by decide), trivial⟩) ?_
      refine tr_nil (rows2 := kb_0_2660) rfl (List.cons_ne_nil _ _) ?_
      refine tr_blk 1 (pc' := 2663) (rows' := kb_0_2660.drop 1) (loc' := [.inr (31, xs.1, 0, 0), .inr (11, 0, 0, 0), .inr (12, 0, 0, 72), .inr (22, 1, 0, 570), .inl (.int (x4 + 8)), d5, d6, ab_top]) (st' := []) (P1 := P) rfl ⟨trivial, trivial⟩ ?_
      refine tr_goto ?_
      exact ih (x4 + 8) (d5) (d6) P
