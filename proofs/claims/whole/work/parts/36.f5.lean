def f_177_366_5 (i1 : Nat) (N : Nat) (P : ab_P) : Nat → Int32 → Int32 → Int32 → Option Int32
  | 0, _, _, _ => none
  | n + 1, x2, x3, x4 =>
    if x4 < (P.1 76 0) then
      if x3 = (-1 : Int32) then
        f_177_366_5 i1 N P n x2 x4 (x4 + 1)
      else
      Option.bind (f_140_366 i1 N P x4 (0 : Int32)) fun v1 =>
      Option.bind (f_140_366 i1 N P x3 (0 : Int32)) fun v2 =>
      if (x2 * v2) < (x2 * v1) then
        f_177_366_5 i1 N P n x2 x4 (x4 + 1)
      else
      f_177_366_5 i1 N P n x2 x3 (x4 + 1)
    else
    some x3
theorem t_177_366_5 {xs : Nat × (Nat → Int32)} {d : Nat} (i1 : Nat) (N : Nat) (P : ab_P) : ∀ n : Nat, ∀ (x2 : Int32) (x3 : Int32) (x4 : Int32), ab_tr xs (rI P) (d + 3) 177 5 [] [.inr (12, 0, 0, 72), .inr (20, 366, 0, i1), .inl (.int x2), .inl (.int x3), .inl (.int x4)] [] P (f_177_366_5 i1 N P n x2 x3 x4) := by
  intro n
  induction n with
  | zero => intro x2 x3 x4; exact tr_no
  | succ n ih =>
    intro x2 x3 x4
    refine tr_nil (rows2 := kb_177_5) rfl (List.cons_ne_nil _ _) ?_
    refine tr_blk 5 (pc' := 13) (rows' := kb_177_5.drop 5) (loc' := [.inr (12, 0, 0, 72), .inr (20, 366, 0, i1), .inl (.int x2), .inl (.int x3), .inl (.int x4)]) (st' := [.inl (.int (P.1 76 0)), .inl (.int x4)]) (P1 := P) rfl ⟨trivial, trivial, trivial, trivial, (ab_vi (by decide)), trivial⟩ ?_
    refine tr_if (fun h3 => ?_) (fun h3 => ?_)
    · refine tr_icF (cd := .ge) (Int32.not_le.mpr h3) ?_
      refine tr_blk 2 (pc' := 18) (rows' := kb_177_5.drop 8) (loc' := [.inr (12, 0, 0, 72), .inr (20, 366, 0, i1), .inl (.int x2), .inl (.int x3), .inl (.int x4)]) (st' := [.inl (.int (-1 : Int32)), .inl (.int x3)]) (P1 := P) rfl ⟨trivial, trivial, trivial⟩ ?_
      refine tr_if (fun h4 => ?_) (fun h4 => ?_)
      · refine tr_icT (cd := .eq) h4 ?_
        refine tr_nil (rows2 := kb_177_41) rfl (List.cons_ne_nil _ _) ?_
        refine tr_blk 2 (pc' := 44) (rows' := kb_177_41.drop 2) (loc' := [.inr (12, 0, 0, 72), .inr (20, 366, 0, i1), .inl (.int x2), .inl (.int x4), .inl (.int x4)]) (st' := []) (P1 := P) rfl ⟨trivial, trivial, trivial⟩ ?_
        refine tr_nil (rows2 := kb_177_44) rfl (List.cons_ne_nil _ _) ?_
        refine tr_blk 1 (pc' := 47) (rows' := kb_177_44.drop 1) (loc' := [.inr (12, 0, 0, 72), .inr (20, 366, 0, i1), .inl (.int x2), .inl (.int x4), .inl (.int (x4 + 1))]) (st' := []) (P1 := P) rfl ⟨trivial, trivial⟩ ?_
        refine tr_goto ?_
        exact ih x2 x4 (x4 + 1)
      · refine tr_icF (cd := .eq) h4 ?_
        refine tr_blk 4 (pc' := 26) (rows' := kb_177_5.drop 13) (loc' := [.inr (12, 0, 0, 72), .inr (20, 366, 0, i1), .inl (.int x2), .inl (.int x3), .inl (.int x4)]) (st' := [.inl (.int (0 : Int32)), .inl (.int x4), .inr (20, 366, 0, i1), .inl (.int x2)]) (P1 := P) rfl ⟨trivial, trivial, trivial, trivial, trivial⟩ ?_
        refine tr_cRI (z := km_140) (av := [.inr (20, 366, 0, i1), .inl (.int x4), .inl (.int (0 : Int32))]) (st' := [.inl (.int x2)]) rfl rfl rfl (Nat.le_of_ble_eq_true rfl) trivial rfl (Nat.le_of_ble_eq_true rfl) (t_140_366 i1 N P x4 (0 : Int32)) (fun v1 => ?_)
        refine tr_blk 5 (pc' := 34) (rows' := kb_177_5.drop 19) (loc' := [.inr (12, 0, 0, 72), .inr (20, 366, 0, i1), .inl (.int x2), .inl (.int x3), .inl (.int x4)]) (st' := [.inl (.int (0 : Int32)), .inl (.int x3), .inr (20, 366, 0, i1), .inl (.int x2), .inl (.int (x2 * v1))]) (P1 := P) rfl ⟨trivial, trivial, trivial, trivial, trivial, trivial⟩ ?_
        refine tr_cRI (z := km_140) (av := [.inr (20, 366, 0, i1), .inl (.int x3), .inl (.int (0 : Int32))]) (st' := [.inl (.int x2), .inl (.int (x2 * v1))]) rfl rfl rfl (Nat.le_of_ble_eq_true rfl) trivial rfl (Nat.le_of_ble_eq_true rfl) (t_140_366 i1 N P x3 (0 : Int32)) (fun v2 => ?_)
        refine tr_blk 1 (pc' := 38) (rows' := kb_177_5.drop 21) (loc' := [.inr (12, 0, 0, 72), .inr (20, 366, 0, i1), .inl (.int x2), .inl (.int x3), .inl (.int x4)]) (st' := [.inl (.int (x2 * v2)), .inl (.int (x2 * v1))]) (P1 := P) rfl ⟨trivial, trivial⟩ ?_
        refine tr_if (fun h5 => ?_) (fun h5 => ?_)
        · refine tr_icF (cd := .le) (Int32.not_le.mpr h5) ?_
          refine tr_nil (rows2 := kb_177_41) rfl (List.cons_ne_nil _ _) ?_
          refine tr_blk 2 (pc' := 44) (rows' := kb_177_41.drop 2) (loc' := [.inr (12, 0, 0, 72), .inr (20, 366, 0, i1), .inl (.int x2), .inl (.int x4), .inl (.int x4)]) (st' := []) (P1 := P) rfl ⟨trivial, trivial, trivial⟩ ?_
          refine tr_nil (rows2 := kb_177_44) rfl (List.cons_ne_nil _ _) ?_
          refine tr_blk 1 (pc' := 47) (rows' := kb_177_44.drop 1) (loc' := [.inr (12, 0, 0, 72), .inr (20, 366, 0, i1), .inl (.int x2), .inl (.int x4), .inl (.int (x4 + 1))]) (st' := []) (P1 := P) rfl ⟨trivial, trivial⟩ ?_
          refine tr_goto ?_
          exact ih x2 x4 (x4 + 1)
        · refine tr_icT (cd := .le) (Int32.not_lt.mp h5) ?_
          refine tr_nil (rows2 := kb_177_44) rfl (List.cons_ne_nil _ _) ?_
          refine tr_blk 1 (pc' := 47) (rows' := kb_177_44.drop 1) (loc' := [.inr (12, 0, 0, 72), .inr (20, 366, 0, i1), .inl (.int x2), .inl (.int x3), .inl (.int (x4 + 1))]) (st' := []) (P1 := P) rfl ⟨trivial, trivial⟩ ?_
          refine tr_goto ?_
          exact ih x2 x3 (x4 + 1)
    · refine tr_icT (cd := .ge) (Int32.not_lt.mp h3) ?_
      refine tr_nil (rows2 := kb_177_50) rfl (List.cons_ne_nil _ _) ?_
      refine tr_blk 1 (pc' := 51) (rows' := kb_177_50.drop 1) (loc' := [.inr (12, 0, 0, 72), .inr (20, 366, 0, i1), .inl (.int x2), .inl (.int x3), .inl (.int x4)]) (st' := [.inl (.int x3)]) (P1 := P) rfl ⟨trivial, trivial⟩ ?_
      exact tr_reI (z := km_177) rfl ⟨_, rfl, rfl⟩ rfl
def f_177_366 (i1 : Nat) (N : Nat) (P : ab_P) (a2 : Int32) : Option Int32 :=
    f_177_366_5 i1 N P N a2 (-1 : Int32) (0 : Int32)
theorem t_177_366 {xs : Nat × (Nat → Int32)} {d : Nat} (i1 : Nat) (N : Nat) (P : ab_P) : ∀ (a2 : Int32), ab_tr xs (rI P) (d + 3) 177 0 [] [.inr (12, 0, 0, 72), .inr (20, 366, 0, i1), .inl (.int a2), ab_top, ab_top] [] P (f_177_366 i1 N P a2) := by
  intro a2
  unfold f_177_366
  refine tr_nil (rows2 := kb_177_0) rfl (List.cons_ne_nil _ _) ?_
  refine tr_blk 4 (pc' := 5) (rows' := kb_177_0.drop 4) (loc' := [.inr (12, 0, 0, 72), .inr (20, 366, 0, i1), .inl (.int a2), .inl (.int (-1 : Int32)), .inl (.int (0 : Int32))]) (st' := []) (P1 := P) rfl ⟨trivial, trivial, trivial, trivial, trivial⟩ ?_
  exact t_177_366_5 i1 N P N a2 (-1 : Int32) (0 : Int32)
def f_67_20 (N : Nat) (x1 : Int32) (s0 : Int32) (P : ab_P) : Option (Int32 × ab_P) :=
    ab_b2 (f_113 s0 (1 : Int32) (1 : Int32) P) fun v4 P3 =>
    if v4 = (0 : Int32) then
      Option.bind (f_177_366 477 N P3 ((1 : Int32) - ((2 : Int32) * x1))) fun v5 =>
      some (v5, P3)
    else
    some ((0 : Int32), P3)
theorem t_67_20 {xs : Nat × (Nat → Int32)} {d : Nat} (N : Nat) : ∀ (x1 : Int32) (s0 : Int32) (P : ab_P), ab_tr xs wI (d + 4) 67 20 [] [.inr (12, 0, 0, 72), .inl (.int x1)] [.inl (.int s0), .inr (12, 0, 0, 72)] P (f_67_20 N x1 s0 P) := by
  intro x1 s0 P
  unfold f_67_20
  refine tr_nil (rows2 := kb_67_20) rfl (List.cons_ne_nil _ _) ?_
  refine tr_blk 2 (pc' := 22) (rows' := kb_67_20.drop 2) (loc' := [.inr (12, 0, 0, 72), .inl (.int x1)]) (st' := [.inl (.int (1 : Int32)), .inl (.int (1 : Int32)), .inl (.int s0), .inr (12, 0, 0, 72)]) (P1 := P) rfl ⟨trivial, trivial, trivial⟩ ?_
  refine tr_cWI (z := km_113) (av := [.inr (12, 0, 0, 72), .inl (.int s0), .inl (.int (1 : Int32)), .inl (.int (1 : Int32))]) (st' := []) rfl rfl rfl (Nat.le_of_ble_eq_true rfl) ⟨rfl, Or.inl (by decide)⟩ rfl (Nat.le_of_ble_eq_true rfl) (t_113 s0 (1 : Int32) (1 : Int32) P) (fun v4 P3 => ?_)
  refine tr_if (fun h6 => ?_) (fun h6 => ?_)
  · refine tr_ifT (cd := .eq) h6 ?_
    refine tr_nil (rows2 := kb_67_30) rfl (List.cons_ne_nil _ _) ?_
    refine tr_blk 8 (pc' := 40) (rows' := kb_67_30.drop 8) (loc' := [.inr (12, 0, 0, 72), .inl (.int x1)]) (st' := [.inl (.int ((1 : Int32) - ((2 : Int32) * x1))), .inr (20, 366, 0, 477), .inr (12, 0, 0, 72)]) (P1 := P3) rfl ⟨trivial, trivial, trivial, trivial, trivial, trivial, trivial, trivial, trivial⟩ ?_
    refine tr_cRI (z := km_177) (av := [.inr (12, 0, 0, 72), .inr (20, 366, 0, 477), .inl (.int ((1 : Int32) - ((2 : Int32) * x1)))]) (st' := []) rfl rfl rfl (Nat.le_of_ble_eq_true rfl) ⟨rfl, Or.inl (by decide)⟩ rfl (Nat.le_of_ble_eq_true rfl) (t_177_366 477 N P3 ((1 : Int32) - ((2 : Int32) * x1))) (fun v5 => ?_)
    exact tr_reI (z := km_67) rfl ⟨_, rfl, rfl⟩ rfl
  · refine tr_ifF (cd := .eq) h6 ?_
    refine tr_blk 1 (pc' := 29) (rows' := kb_67_20.drop 5) (loc' := [.inr (12, 0, 0, 72), .inl (.int x1)]) (st' := [.inl (.int (0 : Int32))]) (P1 := P3) rfl ⟨trivial, trivial⟩ ?_
    exact tr_reI (z := km_67) rfl ⟨_, rfl, rfl⟩ rfl
def f_67 (N : Nat) (a1 : Int32) (P : ab_P) : Option (Int32 × ab_P) :=
    ab_lt (ab_pI P 72 0 (0 : Int32)) fun P1 =>
    Option.bind (f_112 P1 a1 (0 : Int32) (1 : Int32)) fun v2 =>
    if v2 = (0 : Int32) then
      f_67_20 N a1 (1 : Int32) P1
    else
    f_67_20 N a1 (0 : Int32) P1
theorem t_67 {xs : Nat × (Nat → Int32)} {d : Nat} (N : Nat) : ∀ (a1 : Int32) (P : ab_P), ab_tr xs wI (d + 4) 67 0 [] [.inr (12, 0, 0, 72), .inl (.int a1)] [] P (f_67 N a1 P) := by
  intro a1 P
  unfold f_67
  refine tr_nil (rows2 := kb_67_0) rfl (List.cons_ne_nil _ _) ?_
  refine tr_blk 3 (pc' := 5) (rows' := kb_67_0.drop 3) (loc' := [.inr (12, 0, 0, 72), .inl (.int a1)]) (st' := []) (P1 := (ab_pI P 72 0 (0 : Int32))) rfl ⟨trivial, trivial, trivial, trivial⟩ ?_
  refine tr_lt (fun P1 => ?_)
  refine tr_blk 4 (pc' := 9) (rows' := kb_67_0.drop 7) (loc' := [.inr (12, 0, 0, 72), .inl (.int a1)]) (st' := [.inl (.int (1 : Int32)), .inl (.int (0 : Int32)), .inl (.int a1), .inr (12, 0, 0, 72)]) (P1 := P1) rfl ⟨trivial, trivial, trivial, trivial, trivial⟩ ?_
  refine tr_cRI (z := km_112) (av := [.inl (.int a1), .inl (.int (0 : Int32)), .inl (.int (1 : Int32))]) (st' := [.inr (12, 0, 0, 72)]) rfl rfl rfl (Nat.le_of_ble_eq_true rfl) trivial rfl (Nat.le_of_ble_eq_true rfl) (t_112 P1 a1 (0 : Int32) (1 : Int32)) (fun v2 => ?_)
  refine tr_if (fun h7 => ?_) (fun h7 => ?_)
  · refine tr_ifF (cd := .ne) (fun q => q h7) ?_
    refine tr_blk 1 (pc' := 16) (rows' := kb_67_0.drop 10) (loc' := [.inr (12, 0, 0, 72), .inl (.int a1)]) (st' := [.inl (.int (1 : Int32)), .inr (12, 0, 0, 72)]) (P1 := P1) rfl ⟨trivial, trivial⟩ ?_
    refine tr_goto ?_
    exact t_67_20 N a1 (1 : Int32) P1
  · refine tr_ifT (cd := .ne) h7 ?_
    refine tr_nil (rows2 := kb_67_19) rfl (List.cons_ne_nil _ _) ?_
    refine tr_blk 1 (pc' := 20) (rows' := kb_67_19.drop 1) (loc' := [.inr (12, 0, 0, 72), .inl (.int a1)]) (st' := [.inl (.int (0 : Int32)), .inr (12, 0, 0, 72)]) (P1 := P1) rfl ⟨trivial, trivial⟩ ?_
    exact t_67_20 N a1 (0 : Int32) P1
def f_267_6 (N : Nat) : Nat → Int32 → Int32 → Int32 → ab_P → Option (Int32 × ab_P)
  | 0, _, _, _, _ => none
  | n + 1, x1, x2, x3, P =>
    if x3 < (P.1 43 2) then
      Option.bind (f_263 43 P x3) fun v1 =>
      if v1 = (0 : Int32) then
        if x2 < (-1 : Int32) then
          f_267_6 N n x3 (-1 : Int32) (x3 + 1) P
        else
        f_267_6 N n x1 x2 (x3 + 1) P
      else
      ab_b2 (f_239 N x3 P) fun v3 P2 =>
      if x2 < v3 then
        f_267_6 N n x3 v3 (x3 + 1) P2
      else
      f_267_6 N n x1 x2 (x3 + 1) P2
    else
    some (x1, P)
theorem t_267_6 {xs : Nat × (Nat → Int32)} {d : Nat} (N : Nat) : ∀ n : Nat, ∀ (x1 : Int32) (x2 : Int32) (x3 : Int32) (d4 : ab_V) (P : ab_P), ab_tr xs wI (d + 4) 267 6 [] [.inr (4, 0, 0, 46), .inl (.int x1), .inl (.int x2), .inl (.int x3), d4] [] P (f_267_6 N n x1 x2 x3 P) := by
  intro n
  induction n with
  | zero => intro x1 x2 x3 d4 P; exact tr_no
  | succ n ih =>
    intro x1 x2 x3 d4 P
    refine tr_nil (rows2 := kb_267_6) rfl (List.cons_ne_nil _ _) ?_
    refine tr_blk 4 (pc' := 14) (rows' := kb_267_6.drop 4) (loc' := [.inr (4, 0, 0, 46), .inl (.int x1), .inl (.int x2), .inl (.int x3), d4]) (st' := [.inl (.int (P.1 43 2)), .inl (.int x3)]) (P1 := P) rfl ⟨trivial, trivial, trivial, trivial, trivial⟩ ?_
    refine tr_if (fun h4 => ?_) (fun h4 => ?_)
    · refine tr_icF (cd := .ge) (Int32.not_le.mpr h4) ?_
      refine tr_blk 3 (pc' := 22) (rows' := kb_267_6.drop 8) (loc' := [.inr (4, 0, 0, 46), .inl (.int x1), .inl (.int x2), .inl (.int x3), d4]) (st' := [.inl (.int x3), .inr (6, 0, 0, 43)]) (P1 := P) rfl ⟨trivial, trivial, trivial, trivial⟩ ?_
      refine tr_cRI (z := km_263) (av := [.inr (6, 0, 0, 43), .inl (.int x3)]) (st' := []) rfl rfl rfl (Nat.le_of_ble_eq_true rfl) ⟨rfl, Or.inl (by decide)⟩ rfl (Nat.le_of_ble_eq_true rfl) (t_263 43 P x3) (fun v1 => ?_)
      refine tr_if (fun h5 => ?_) (fun h5 => ?_)
      · refine tr_ifT (cd := .eq) h5 ?_
        refine tr_nil (rows2 := kb_267_36) rfl (List.cons_ne_nil _ _) ?_
        refine tr_blk 1 (pc' := 37) (rows' := kb_267_36.drop 1) (loc' := [.inr (4, 0, 0, 46), .inl (.int x1), .inl (.int x2), .inl (.int x3), d4]) (st' := [.inl (.int (-1 : Int32))]) (P1 := P) rfl ⟨trivial, trivial⟩ ?_
        refine tr_nil (rows2 := kb_267_37) rfl (List.cons_ne_nil _ _) ?_
        refine tr_blk 3 (pc' := 42) (rows' := kb_267_37.drop 3) (loc' := [.inr (4, 0, 0, 46), .inl (.int x1), .inl (.int x2), .inl (.int x3), .inl (.int (-1 : Int32))]) (st' := [.inl (.int x2), .inl (.int (-1 : Int32))]) (P1 := P) rfl ⟨trivial, trivial, trivial, trivial⟩ ?_
        refine tr_if (fun h6 => ?_) (fun h6 => ?_)
        · refine tr_icF (cd := .le) (Int32.not_le.mpr h6) ?_
          refine tr_blk 4 (pc' := 50) (rows' := kb_267_37.drop 8) (loc' := [.inr (4, 0, 0, 46), .inl (.int x3), .inl (.int (-1 : Int32)), .inl (.int x3), .inl (.int (-1 : Int32))]) (st' := []) (P1 := P) rfl ⟨trivial, trivial, trivial, trivial, trivial⟩ ?_
          refine tr_nil (rows2 := kb_267_50) rfl (List.cons_ne_nil _ _) ?_
          refine tr_blk 1 (pc' := 53) (rows' := kb_267_50.drop 1) (loc' := [.inr (4, 0, 0, 46), .inl (.int x3), .inl (.int (-1 : Int32)), .inl (.int (x3 + 1)), .inl (.int (-1 : Int32))]) (st' := []) (P1 := P) rfl ⟨trivial, trivial⟩ ?_
          refine tr_goto ?_
          exact ih x3 (-1 : Int32) (x3 + 1) (.inl (.int (-1 : Int32))) P
        · refine tr_icT (cd := .le) (Int32.not_lt.mp h6) ?_
          refine tr_nil (rows2 := kb_267_50) rfl (List.cons_ne_nil _ _) ?_
          refine tr_blk 1 (pc' := 53) (rows' := kb_267_50.drop 1) (loc' := [.inr (4, 0, 0, 46), .inl (.int x1), .inl (.int x2), .inl (.int (x3 + 1)), .inl (.int (-1 : Int32))]) (st' := []) (P1 := P) rfl ⟨trivial, trivial⟩ ?_
          refine tr_goto ?_
          exact ih x1 x2 (x3 + 1) (.inl (.int (-1 : Int32))) P
      · refine tr_ifF (cd := .eq) h5 ?_
        refine tr_blk 2 (pc' := 30) (rows' := kb_267_6.drop 12) (loc' := [.inr (4, 0, 0, 46), .inl (.int x1), .inl (.int x2), .inl (.int x3), d4]) (st' := [.inl (.int x3), .inr (4, 0, 0, 46)]) (P1 := P) rfl ⟨trivial, trivial, trivial⟩ ?_
        refine tr_cWI (z := km_239) (av := [.inr (4, 0, 0, 46), .inl (.int x3)]) (st' := []) rfl rfl rfl (Nat.le_of_ble_eq_true rfl) ⟨rfl, Or.inl (by decide)⟩ rfl (Nat.le_of_ble_eq_true rfl) (t_239 N x3 P) (fun v3 P2 => ?_)
        refine tr_goto ?_
        refine tr_nil (rows2 := kb_267_37) rfl (List.cons_ne_nil _ _) ?_
        refine tr_blk 3 (pc' := 42) (rows' := kb_267_37.drop 3) (loc' := [.inr (4, 0, 0, 46), .inl (.int x1), .inl (.int x2), .inl (.int x3), .inl (.int v3)]) (st' := [.inl (.int x2), .inl (.int v3)]) (P1 := P2) rfl ⟨trivial, trivial, trivial, trivial⟩ ?_
        refine tr_if (fun h7 => ?_) (fun h7 => ?_)
        · refine tr_icF (cd := .le) (Int32.not_le.mpr h7) ?_
          refine tr_blk 4 (pc' := 50) (rows' := kb_267_37.drop 8) (loc' := [.inr (4, 0, 0, 46), .inl (.int x3), .inl (.int v3), .inl (.int x3), .inl (.int v3)]) (st' := []) (P1 := P2) rfl ⟨trivial, trivial, trivial, trivial, trivial⟩ ?_
          refine tr_nil (rows2 := kb_267_50) rfl (List.cons_ne_nil _ _) ?_
          refine tr_blk 1 (pc' := 53) (rows' := kb_267_50.drop 1) (loc' := [.inr (4, 0, 0, 46), .inl (.int x3), .inl (.int v3), .inl (.int (x3 + 1)), .inl (.int v3)]) (st' := []) (P1 := P2) rfl ⟨trivial, trivial⟩ ?_
          refine tr_goto ?_
          exact ih x3 v3 (x3 + 1) (.inl (.int v3)) P2
        · refine tr_icT (cd := .le) (Int32.not_lt.mp h7) ?_
          refine tr_nil (rows2 := kb_267_50) rfl (List.cons_ne_nil _ _) ?_
          refine tr_blk 1 (pc' := 53) (rows' := kb_267_50.drop 1) (loc' := [.inr (4, 0, 0, 46), .inl (.int x1), .inl (.int x2), .inl (.int (x3 + 1)), .inl (.int v3)]) (st' := []) (P1 := P2) rfl ⟨trivial, trivial⟩ ?_
          refine tr_goto ?_
          exact ih x1 x2 (x3 + 1) (.inl (.int v3)) P2
    · refine tr_icT (cd := .ge) (Int32.not_lt.mp h4) ?_
      refine tr_nil (rows2 := kb_267_56) rfl (List.cons_ne_nil _ _) ?_
      refine tr_blk 1 (pc' := 57) (rows' := kb_267_56.drop 1) (loc' := [.inr (4, 0, 0, 46), .inl (.int x1), .inl (.int x2), .inl (.int x3), d4]) (st' := [.inl (.int x1)]) (P1 := P) rfl ⟨trivial, trivial⟩ ?_
      exact tr_reI (z := km_267) rfl ⟨_, rfl, rfl⟩ rfl
def f_267 (N : Nat) (P : ab_P) : Option (Int32 × ab_P) :=
    f_267_6 N N (-1 : Int32) (-1 : Int32) (0 : Int32) P
theorem t_267 {xs : Nat × (Nat → Int32)} {d : Nat} (N : Nat) : ∀ (P : ab_P), ab_tr xs wI (d + 4) 267 0 [] [.inr (4, 0, 0, 46), ab_top, ab_top, ab_top, ab_top] [] P (f_267 N P) := by
  intro P
  unfold f_267
  refine tr_nil (rows2 := kb_267_0) rfl (List.cons_ne_nil _ _) ?_
  refine tr_blk 6 (pc' := 6) (rows' := kb_267_0.drop 6) (loc' := [.inr (4, 0, 0, 46), .inl (.int (-1 : Int32)), .inl (.int (-1 : Int32)), .inl (.int (0 : Int32)), ab_top]) (st' := []) (P1 := P) rfl ⟨trivial, trivial, trivial, trivial, trivial, trivial, trivial⟩ ?_
  exact t_267_6 N N (-1 : Int32) (-1 : Int32) (0 : Int32) (ab_top) P
def f_266_4 (i0 : Nat) (P : ab_P) : Nat → Int32 → Int32 → Option Int32
  | 0, _, _ => none
  | n + 1, x1, x2 =>
    if x2 < (P.1 i0 2) then
      Option.bind (f_263 i0 P x2) fun v1 =>
      if v1 = (0 : Int32) then
        f_266_4 i0 P n x1 (x2 + 1)
      else
      if x1 = (-1 : Int32) then
        f_266_4 i0 P n x2 (x2 + 1)
      else
      Option.bind (f_231 i0 P (3 : Int32) x2) fun v2 =>
      Option.bind (f_231 i0 P (3 : Int32) x1) fun v3 =>
      if v2 < v3 then
        f_266_4 i0 P n x2 (x2 + 1)
      else
      f_266_4 i0 P n x1 (x2 + 1)
    else
    some x1
theorem t_266_4 {xs : Nat × (Nat → Int32)} {d : Nat} (i0 : Nat) (P : ab_P) : ∀ n : Nat, ∀ (x1 : Int32) (x2 : Int32), ab_tr xs (rI P) (d + 2) 266 4 [] [.inr (6, 0, 0, i0), .inl (.int x1), .inl (.int x2)] [] P (f_266_4 i0 P n x1 x2) := by
  intro n
  induction n with
  | zero => intro x1 x2; exact tr_no
  | succ n ih =>
    intro x1 x2
    refine tr_nil (rows2 := kb_266_4) rfl (List.cons_ne_nil _ _) ?_
    refine tr_blk 3 (pc' := 9) (rows' := kb_266_4.drop 3) (loc' := [.inr (6, 0, 0, i0), .inl (.int x1), .inl (.int x2)]) (st' := [.inl (.int (P.1 i0 2)), .inl (.int x2)]) (P1 := P) rfl ⟨trivial, trivial, trivial, trivial⟩ ?_
    refine tr_if (fun h4 => ?_) (fun h4 => ?_)
    · refine tr_icF (cd := .ge) (Int32.not_le.mpr h4) ?_
      refine tr_blk 2 (pc' := 14) (rows' := kb_266_4.drop 6) (loc' := [.inr (6, 0, 0, i0), .inl (.int x1), .inl (.int x2)]) (st' := [.inl (.int x2), .inr (6, 0, 0, i0)]) (P1 := P) rfl ⟨trivial, trivial, trivial⟩ ?_
      refine tr_cRI (z := km_263) (av := [.inr (6, 0, 0, i0), .inl (.int x2)]) (st' := []) rfl rfl rfl (Nat.le_of_ble_eq_true rfl) ⟨rfl, Or.inl (by decide)⟩ rfl (Nat.le_of_ble_eq_true rfl) (t_263 i0 P x2) (fun v1 => ?_)
      refine tr_if (fun h5 => ?_) (fun h5 => ?_)
      · refine tr_ifT (cd := .eq) h5 ?_
        refine tr_nil (rows2 := kb_266_42) rfl (List.cons_ne_nil _ _) ?_
        refine tr_blk 1 (pc' := 45) (rows' := kb_266_42.drop 1) (loc' := [.inr (6, 0, 0, i0), .inl (.int x1), .inl (.int (x2 + 1))]) (st' := []) (P1 := P) rfl ⟨trivial, trivial⟩ ?_
        refine tr_goto ?_
        exact ih x1 (x2 + 1)
      · refine tr_ifF (cd := .eq) h5 ?_
        refine tr_blk 2 (pc' := 22) (rows' := kb_266_4.drop 10) (loc' := [.inr (6, 0, 0, i0), .inl (.int x1), .inl (.int x2)]) (st' := [.inl (.int (-1 : Int32)), .inl (.int x1)]) (P1 := P) rfl ⟨trivial, trivial, trivial⟩ ?_
        refine tr_if (fun h6 => ?_) (fun h6 => ?_)
        · refine tr_icT (cd := .eq) h6 ?_
          refine tr_nil (rows2 := kb_266_40) rfl (List.cons_ne_nil _ _) ?_
          refine tr_blk 2 (pc' := 42) (rows' := kb_266_40.drop 2) (loc' := [.inr (6, 0, 0, i0), .inl (.int x2), .inl (.int x2)]) (st' := []) (P1 := P) rfl ⟨trivial, trivial, trivial⟩ ?_
          refine tr_nil (rows2 := kb_266_42) rfl (List.cons_ne_nil _ _) ?_
          refine tr_blk 1 (pc' := 45) (rows' := kb_266_42.drop 1) (loc' := [.inr (6, 0, 0, i0), .inl (.int x2), .inl (.int (x2 + 1))]) (st' := []) (P1 := P) rfl ⟨trivial, trivial⟩ ?_
          refine tr_goto ?_
          exact ih x2 (x2 + 1)
        · refine tr_icF (cd := .eq) h6 ?_
          refine tr_blk 3 (pc' := 28) (rows' := kb_266_4.drop 14) (loc' := [.inr (6, 0, 0, i0), .inl (.int x1), .inl (.int x2)]) (st' := [.inl (.int x2), .inl (.int (3 : Int32)), .inr (6, 0, 0, i0)]) (P1 := P) rfl ⟨trivial, trivial, trivial, trivial⟩ ?_
          refine tr_cRI (z := km_231) (av := [.inr (6, 0, 0, i0), .inl (.int (3 : Int32)), .inl (.int x2)]) (st' := []) rfl rfl rfl (Nat.le_of_ble_eq_true rfl) ⟨rfl, Or.inl (by decide)⟩ rfl (Nat.le_of_ble_eq_true rfl) (t_231 i0 P (3 : Int32) x2) (fun v2 => ?_)
          refine tr_blk 3 (pc' := 34) (rows' := kb_266_4.drop 18) (loc' := [.inr (6, 0, 0, i0), .inl (.int x1), .inl (.int x2)]) (st' := [.inl (.int x1), .inl (.int (3 : Int32)), .inr (6, 0, 0, i0), .inl (.int v2)]) (P1 := P) rfl ⟨trivial, trivial, trivial, trivial⟩ ?_
          refine tr_cRI (z := km_231) (av := [.inr (6, 0, 0, i0), .inl (.int (3 : Int32)), .inl (.int x1)]) (st' := [.inl (.int v2)]) rfl rfl rfl (Nat.le_of_ble_eq_true rfl) ⟨rfl, Or.inl (by decide)⟩ rfl (Nat.le_of_ble_eq_true rfl) (t_231 i0 P (3 : Int32) x1) (fun v3 => ?_)
          refine tr_if (fun h7 => ?_) (fun h7 => ?_)
          · refine tr_icF (cd := .ge) (Int32.not_le.mpr h7) ?_
            refine tr_nil (rows2 := kb_266_40) rfl (List.cons_ne_nil _ _) ?_
            refine tr_blk 2 (pc' := 42) (rows' := kb_266_40.drop 2) (loc' := [.inr (6, 0, 0, i0), .inl (.int x2), .inl (.int x2)]) (st' := []) (P1 := P) rfl ⟨trivial, trivial, trivial⟩ ?_
            refine tr_nil (rows2 := kb_266_42) rfl (List.cons_ne_nil _ _) ?_
            refine tr_blk 1 (pc' := 45) (rows' := kb_266_42.drop 1) (loc' := [.inr (6, 0, 0, i0), .inl (.int x2), .inl (.int (x2 + 1))]) (st' := []) (P1 := P) rfl ⟨trivial, trivial⟩ ?_
            refine tr_goto ?_
            exact ih x2 (x2 + 1)
          · refine tr_icT (cd := .ge) (Int32.not_lt.mp h7) ?_
            refine tr_nil (rows2 := kb_266_42) rfl (List.cons_ne_nil _ _) ?_
            refine tr_blk 1 (pc' := 45) (rows' := kb_266_42.drop 1) (loc' := [.inr (6, 0, 0, i0), .inl (.int x1), .inl (.int (x2 + 1))]) (st' := []) (P1 := P) rfl ⟨trivial, trivial⟩ ?_
            refine tr_goto ?_
            exact ih x1 (x2 + 1)
    · refine tr_icT (cd := .ge) (Int32.not_lt.mp h4) ?_
      refine tr_nil (rows2 := kb_266_48) rfl (List.cons_ne_nil _ _) ?_
      refine tr_blk 1 (pc' := 49) (rows' := kb_266_48.drop 1) (loc' := [.inr (6, 0, 0, i0), .inl (.int x1), .inl (.int x2)]) (st' := [.inl (.int x1)]) (P1 := P) rfl ⟨trivial, trivial⟩ ?_
      exact tr_reI (z := km_266) rfl ⟨_, rfl, rfl⟩ rfl
def f_266 (i0 : Nat) (N : Nat) (P : ab_P) : Option Int32 :=
    f_266_4 i0 P N (-1 : Int32) (0 : Int32)
theorem t_266 {xs : Nat × (Nat → Int32)} {d : Nat} (i0 : Nat) (N : Nat) (P : ab_P) : ab_tr xs (rI P) (d + 2) 266 0 [] [.inr (6, 0, 0, i0), ab_top, ab_top] [] P (f_266 i0 N P) := by
  unfold f_266
  refine tr_nil (rows2 := kb_266_0) rfl (List.cons_ne_nil _ _) ?_
  refine tr_blk 4 (pc' := 4) (rows' := kb_266_0.drop 4) (loc' := [.inr (6, 0, 0, i0), .inl (.int (-1 : Int32)), .inl (.int (0 : Int32))]) (st' := []) (P1 := P) rfl ⟨trivial, trivial, trivial, trivial, trivial⟩ ?_
  exact t_266_4 i0 P N (-1 : Int32) (0 : Int32)
def f_178_15 (N : Nat) (x1 : Int32) (s0 : Int32) (P : ab_P) : Option ((Int32 ⊕ Fin 3) × ab_P) :=
    ab_x2 (f_228 s0 P) (fun _ P1 =>
    if x1 = (0 : Int32) then
      Option.bind (f_266 43 N P1) fun v4 =>
      some (.inl v4, P1)
    else
    ab_b2 (f_267 N P1) fun v3 P2 =>
    some (.inl v3, P2)) (fun q => q)
theorem t_178_15 {xs : Nat × (Nat → Int32)} {d : Nat} (N : Nat) : ∀ (x1 : Int32) (s0 : Int32) (P : ab_P), ab_tr xs xI (d + 5) 178 15 [] [.inr (11, 0, 0, 0), .inl (.int x1)] [.inl (.int s0), .inr (11, 0, 0, 0)] P (f_178_15 N x1 s0 P) := by
  intro x1 s0 P
  unfold f_178_15
  refine tr_nil (rows2 := kb_178_15) rfl (List.cons_ne_nil _ _) ?_
  refine tr_cax (fun _ => none) (zi := km_178) (fun _ => rfl) (fun _ _ => rfl) rfl rfl (z := km_228) (av := [.inr (11, 0, 0, 0), .inl (.int s0)]) (st' := []) rfl rfl rfl (Nat.le_of_ble_eq_true rfl) ⟨rfl, Or.inl (by decide)⟩ rfl (Nat.le_of_ble_eq_true rfl) (t_228 s0 P) (fun _ P1 => ?_)
  refine tr_blk 1 (pc' := 19) (rows' := kb_178_15.drop 2) (loc' := [.inr (11, 0, 0, 0), .inl (.int x1)]) (st' := [.inl (.int x1)]) (P1 := P1) rfl ⟨trivial, trivial⟩ ?_
  refine tr_if (fun h5 => ?_) (fun h5 => ?_)
  · refine tr_ifF (cd := .ne) (fun q => q h5) ?_
    refine tr_blk 2 (pc' := 26) (rows' := kb_178_15.drop 5) (loc' := [.inr (11, 0, 0, 0), .inl (.int x1)]) (st' := [.inr (6, 0, 0, 43)]) (P1 := P1) rfl ⟨trivial, trivial, trivial⟩ ?_
    refine tr_cRI (z := km_266) (av := [.inr (6, 0, 0, 43)]) (st' := []) rfl rfl rfl (Nat.le_of_ble_eq_true rfl) ⟨rfl, Or.inl (by decide)⟩ rfl (Nat.le_of_ble_eq_true rfl) (t_266 43 N P1) (fun v4 => ?_)
    refine tr_goto ?_
    refine tr_nil (rows2 := kb_178_39) rfl (List.cons_ne_nil _ _) ?_
    exact tr_reI (z := km_178) rfl ⟨_, rfl, rfl⟩ rfl
  · refine tr_ifT (cd := .ne) h5 ?_
    refine tr_nil (rows2 := kb_178_32) rfl (List.cons_ne_nil _ _) ?_
    refine tr_blk 2 (pc' := 36) (rows' := kb_178_32.drop 2) (loc' := [.inr (11, 0, 0, 0), .inl (.int x1)]) (st' := [.inr (4, 0, 0, 46)]) (P1 := P1) rfl ⟨trivial, trivial, trivial⟩ ?_
    refine tr_cWI (z := km_267) (av := [.inr (4, 0, 0, 46)]) (st' := []) rfl rfl rfl (Nat.le_of_ble_eq_true rfl) ⟨rfl, Or.inl (by decide)⟩ rfl (Nat.le_of_ble_eq_true rfl) (t_267 N P1) (fun v3 P2 => ?_)
    refine tr_nil (rows2 := kb_178_39) rfl (List.cons_ne_nil _ _) ?_
    exact tr_reI (z := km_178) rfl ⟨_, rfl, rfl⟩ rfl
def f_178 (N : Nat) (a1 : Int32) (P : ab_P) : Option ((Int32 ⊕ Fin 3) × ab_P) :=
    if a1 = (0 : Int32) then
      f_178_15 N a1 (1 : Int32) P
    else
    if a1 = (1 : Int32) then
      f_178_15 N a1 (1 : Int32) P
    else
    f_178_15 N a1 (0 : Int32) P
theorem t_178 {xs : Nat × (Nat → Int32)} {d : Nat} (N : Nat) : ∀ (a1 : Int32) (P : ab_P), ab_tr xs xI (d + 5) 178 0 [] [.inr (11, 0, 0, 0), .inl (.int a1)] [] P (f_178 N a1 P) := by
  intro a1 P
  unfold f_178
  refine tr_nil (rows2 := kb_178_0) rfl (List.cons_ne_nil _ _) ?_
  refine tr_blk 2 (pc' := 2) (rows' := kb_178_0.drop 2) (loc' := [.inr (11, 0, 0, 0), .inl (.int a1)]) (st' := [.inl (.int a1), .inr (11, 0, 0, 0)]) (P1 := P) rfl ⟨trivial, trivial, trivial⟩ ?_
  refine tr_if (fun h6 => ?_) (fun h6 => ?_)
  · refine tr_ifT (cd := .eq) h6 ?_
    refine tr_nil (rows2 := kb_178_10) rfl (List.cons_ne_nil _ _) ?_
    refine tr_blk 1 (pc' := 11) (rows' := kb_178_10.drop 1) (loc' := [.inr (11, 0, 0, 0), .inl (.int a1)]) (st' := [.inl (.int (1 : Int32)), .inr (11, 0, 0, 0)]) (P1 := P) rfl ⟨trivial, trivial⟩ ?_
    refine tr_goto ?_
    exact t_178_15 N a1 (1 : Int32) P
  · refine tr_ifF (cd := .eq) h6 ?_
    refine tr_blk 2 (pc' := 7) (rows' := kb_178_0.drop 5) (loc' := [.inr (11, 0, 0, 0), .inl (.int a1)]) (st' := [.inl (.int (1 : Int32)), .inl (.int a1), .inr (11, 0, 0, 0)]) (P1 := P) rfl ⟨trivial, trivial, trivial⟩ ?_
    refine tr_if (fun h7 => ?_) (fun h7 => ?_)
    · refine tr_icF (cd := .ne) (fun q => q h7) ?_
      refine tr_nil (rows2 := kb_178_10) rfl (List.cons_ne_nil _ _) ?_
      refine tr_blk 1 (pc' := 11) (rows' := kb_178_10.drop 1) (loc' := [.inr (11, 0, 0, 0), .inl (.int a1)]) (st' := [.inl (.int (1 : Int32)), .inr (11, 0, 0, 0)]) (P1 := P) rfl ⟨trivial, trivial⟩ ?_
      refine tr_goto ?_
      exact t_178_15 N a1 (1 : Int32) P
    · refine tr_icT (cd := .ne) h7 ?_
      refine tr_nil (rows2 := kb_178_14) rfl (List.cons_ne_nil _ _) ?_
      refine tr_blk 1 (pc' := 15) (rows' := kb_178_14.drop 1) (loc' := [.inr (11, 0, 0, 0), .inl (.int a1)]) (st' := [.inl (.int (0 : Int32)), .inr (11, 0, 0, 0)]) (P1 := P) rfl ⟨trivial, trivial⟩ ?_
      exact t_178_15 N a1 (0 : Int32) P
def f_68_1 (N : Nat) (a1 : Int32) (P : ab_P) : Option (Int32 × ab_P) :=
    ab_h2 (f_178 N a1 P) (fun v2 P1 =>
    ab_lt (ab_pL P1 570 0 (v2).toInt64) fun P3 =>
    some ((0 : Int32), P3))
    (fun _ => none) (fun P9 => some ((1 : Int32), P9)) (fun _ => none)
theorem t_68_1 {xs : Nat × (Nat → Int32)} {d : Nat} (N : Nat) : ∀ (a1 : Int32) (P : ab_P), ab_tr xs wI (d + 6) 68 0 [] [.inr (11, 0, 0, 0), .inl (.int a1), .inr (22, 1, 0, 570), ab_top] [] P (f_68_1 N a1 P) := by
  intro a1 P
  unfold f_68_1
  refine tr_nil (rows2 := kb_68_0) rfl (List.cons_ne_nil _ _) ?_
  refine tr_blk 4 (pc' := 4) (rows' := kb_68_0.drop 4) (loc' := [.inr (11, 0, 0, 0), .inl (.int a1), .inr (22, 1, 0, 570), ab_top]) (st' := [.inl (.int a1), .inr (11, 0, 0, 0), .inl (.int (0 : Int32)), .inr (22, 1, 0, 570)]) (P1 := P) rfl ⟨trivial, trivial, trivial, trivial, trivial⟩ ?_
  refine tr_cah (fun b => some (.inl (.int b))) (zi := km_68) (fun _ => rfl) rfl (z := km_178) (av := [.inr (11, 0, 0, 0), .inl (.int a1)]) (st' := [.inl (.int (0 : Int32)), .inr (22, 1, 0, 570)]) rfl rfl rfl (Nat.le_of_ble_eq_true rfl) ⟨rfl, Or.inl (by decide)⟩ rfl (Nat.le_of_ble_eq_true rfl) (t_178 N a1 P) (fun v2 P1 => ?_) ?_ ?_ ?_
  · refine tr_blk 2 (pc' := 9) (rows' := kb_68_0.drop 7) (loc' := [.inr (11, 0, 0, 0), .inl (.int a1), .inr (22, 1, 0, 570), ab_top]) (st' := []) (P1 := (ab_pL P1 570 0 (v2).toInt64)) rfl ⟨trivial, (ab_vi (by decide)), trivial⟩ ?_
    refine tr_lt (fun P3 => ?_)
    refine tr_goto ?_
    refine tr_nil (rows2 := kb_68_15) rfl (List.cons_ne_nil _ _) ?_
    refine tr_blk 1 (pc' := 16) (rows' := kb_68_15.drop 1) (loc' := [.inr (11, 0, 0, 0), .inl (.int a1), .inr (22, 1, 0, 570), ab_top]) (st' := [.inl (.int (0 : Int32))]) (P1 := P3) rfl ⟨trivial, trivial⟩ ?_
    exact tr_reI (z := km_68) rfl ⟨_, rfl, rfl⟩ rfl
  · exact fun _ => rfl
  · exact fun _ => tr_han (rows2 := kb_68_12) (z := km_68) _ (fun q => [.inr (11, 0, 0, 0), .inl (.int a1), .inr (22, 1, 0, 570), .inr (40, 1, 0, q)]) rfl (List.cons_ne_nil _ _) (fun q => rfl) ⟨trivial, trivial, trivial⟩ rfl ⟨_, rfl, rfl⟩ rfl
  · exact fun _ => rfl
def f_69_34 (N : Nat) : Nat → Int32 → Int32 → Int32 → ab_P → Option (Int32 × ab_P)
  | 0, _, _, _, _ => none
  | n + 1, x1, x2, x3, P =>
    if x3 < (P.1 477 360) then
      Option.bind (f_144_366 477 P x3) fun v5 =>
      if v5 = (0 : Int32) then
        f_69_34 N n x1 x2 (x3 + 1) P
      else
      if x2 = (-1 : Int32) then
        f_69_34 N n x1 x3 (x3 + 1) P
      else
      if x1 = (0 : Int32) then
        Option.bind (f_135_366 477 P x3 (3 : Int32)) fun v10 =>
        Option.bind (f_135_366 477 P x2 (3 : Int32)) fun v11 =>
        if v10 < v11 then
          f_69_34 N n x1 x3 (x3 + 1) P
        else
        f_69_34 N n x1 x2 (x3 + 1) P
      else
      ab_b2 (f_146_366 477 N x3 P) fun v7 P6 =>
      ab_b2 (f_146_366 477 N x2 P6) fun v9 P8 =>
      if v9 < v7 then
        f_69_34 N n x1 x3 (x3 + 1) P8
      else
      f_69_34 N n x1 x2 (x3 + 1) P8
    else
    some (x2, P)
theorem t_69_34 {xs : Nat × (Nat → Int32)} {d : Nat} (N : Nat) : ∀ n : Nat, ∀ (x1 : Int32) (x2 : Int32) (x3 : Int32) (P : ab_P), ab_tr xs wI (d + 6) 69 34 [] [.inr (12, 0, 0, 72), .inl (.int x1), .inl (.int x2), .inl (.int x3)] [] P (f_69_34 N n x1 x2 x3 P) := by
  intro n
  induction n with
  | zero => intro x1 x2 x3 P; exact tr_no
  | succ n ih =>
    intro x1 x2 x3 P
    refine tr_nil (rows2 := kb_69_34) rfl (List.cons_ne_nil _ _) ?_
    refine tr_blk 5 (pc' := 43) (rows' := kb_69_34.drop 5) (loc' := [.inr (12, 0, 0, 72), .inl (.int x1), .inl (.int x2), .inl (.int x3)]) (st' := [.inl (.int (P.1 477 360)), .inl (.int x3)]) (P1 := P) rfl ⟨trivial, trivial, trivial, trivial, (ab_vi (by decide)), trivial⟩ ?_
    refine tr_if (fun h12 => ?_) (fun h12 => ?_)
    · refine tr_icF (cd := .ge) (Int32.not_le.mpr h12) ?_
      refine tr_blk 3 (pc' := 51) (rows' := kb_69_34.drop 9) (loc' := [.inr (12, 0, 0, 72), .inl (.int x1), .inl (.int x2), .inl (.int x3)]) (st' := [.inl (.int x3), .inr (20, 366, 0, 477)]) (P1 := P) rfl ⟨trivial, trivial, trivial, trivial⟩ ?_
      refine tr_cRI (z := km_144) (av := [.inr (20, 366, 0, 477), .inl (.int x3)]) (st' := []) rfl rfl rfl (Nat.le_of_ble_eq_true rfl) trivial rfl (Nat.le_of_ble_eq_true rfl) (t_144_366 477 P x3) (fun v5 => ?_)
      refine tr_if (fun h13 => ?_) (fun h13 => ?_)
      · refine tr_ifT (cd := .eq) h13 ?_
        refine tr_nil (rows2 := kb_69_113) rfl (List.cons_ne_nil _ _) ?_
        refine tr_blk 1 (pc' := 116) (rows' := kb_69_113.drop 1) (loc' := [.inr (12, 0, 0, 72), .inl (.int x1), .inl (.int x2), .inl (.int (x3 + 1))]) (st' := []) (P1 := P) rfl ⟨trivial, trivial⟩ ?_
        refine tr_goto ?_
        exact ih x1 x2 (x3 + 1) P
      · refine tr_ifF (cd := .eq) h13 ?_
        refine tr_blk 2 (pc' := 59) (rows' := kb_69_34.drop 13) (loc' := [.inr (12, 0, 0, 72), .inl (.int x1), .inl (.int x2), .inl (.int x3)]) (st' := [.inl (.int (-1 : Int32)), .inl (.int x2)]) (P1 := P) rfl ⟨trivial, trivial, trivial⟩ ?_
        refine tr_if (fun h14 => ?_) (fun h14 => ?_)
        · refine tr_icT (cd := .eq) h14 ?_
          refine tr_nil (rows2 := kb_69_111) rfl (List.cons_ne_nil _ _) ?_
          refine tr_blk 2 (pc' := 113) (rows' := kb_69_111.drop 2) (loc' := [.inr (12, 0, 0, 72), .inl (.int x1), .inl (.int x3), .inl (.int x3)]) (st' := []) (P1 := P) rfl ⟨trivial, trivial, trivial⟩ ?_
          refine tr_nil (rows2 := kb_69_113) rfl (List.cons_ne_nil _ _) ?_
          refine tr_blk 1 (pc' := 116) (rows' := kb_69_113.drop 1) (loc' := [.inr (12, 0, 0, 72), .inl (.int x1), .inl (.int x3), .inl (.int (x3 + 1))]) (st' := []) (P1 := P) rfl ⟨trivial, trivial⟩ ?_
          refine tr_goto ?_
          exact ih x1 x3 (x3 + 1) P
        · refine tr_icF (cd := .eq) h14 ?_
          refine tr_blk 1 (pc' := 63) (rows' := kb_69_34.drop 15) (loc' := [.inr (12, 0, 0, 72), .inl (.int x1), .inl (.int x2), .inl (.int x3)]) (st' := [.inl (.int x1)]) (P1 := P) rfl ⟨trivial, trivial⟩ ?_
          refine tr_if (fun h15 => ?_) (fun h15 => ?_)
          · refine tr_ifF (cd := .ne) (fun q => q h15) ?_
            refine tr_blk 4 (pc' := 72) (rows' := kb_69_34.drop 20) (loc' := [.inr (12, 0, 0, 72), .inl (.int x1), .inl (.int x2), .inl (.int x3)]) (st' := [.inl (.int (3 : Int32)), .inl (.int x3), .inr (20, 366, 0, 477)]) (P1 := P) rfl ⟨trivial, trivial, trivial, trivial, trivial⟩ ?_
            refine tr_cRI (z := km_135) (av := [.inr (20, 366, 0, 477), .inl (.int x3), .inl (.int (3 : Int32))]) (st' := []) rfl rfl rfl (Nat.le_of_ble_eq_true rfl) trivial rfl (Nat.le_of_ble_eq_true rfl) (t_135_366 477 P x3 (3 : Int32)) (fun v10 => ?_)
            refine tr_blk 4 (pc' := 81) (rows' := kb_69_34.drop 25) (loc' := [.inr (12, 0, 0, 72), .inl (.int x1), .inl (.int x2), .inl (.int x3)]) (st' := [.inl (.int (3 : Int32)), .inl (.int x2), .inr (20, 366, 0, 477), .inl (.int v10)]) (P1 := P) rfl ⟨trivial, trivial, trivial, trivial, trivial⟩ ?_
            refine tr_cRI (z := km_135) (av := [.inr (20, 366, 0, 477), .inl (.int x2), .inl (.int (3 : Int32))]) (st' := [.inl (.int v10)]) rfl rfl rfl (Nat.le_of_ble_eq_true rfl) trivial rfl (Nat.le_of_ble_eq_true rfl) (t_135_366 477 P x2 (3 : Int32)) (fun v11 => ?_)
            refine tr_if (fun h17 => ?_) (fun h17 => ?_)
            · refine tr_icF (cd := .ge) (Int32.not_le.mpr h17) ?_
              refine tr_goto ?_
              refine tr_nil (rows2 := kb_69_111) rfl (List.cons_ne_nil _ _) ?_
              refine tr_blk 2 (pc' := 113) (rows' := kb_69_111.drop 2) (loc' := [.inr (12, 0, 0, 72), .inl (.int x1), .inl (.int x3), .inl (.int x3)]) (st' := []) (P1 := P) rfl ⟨trivial, trivial, trivial⟩ ?_
              refine tr_nil (rows2 := kb_69_113) rfl (List.cons_ne_nil _ _) ?_
              refine tr_blk 1 (pc' := 116) (rows' := kb_69_113.drop 1) (loc' := [.inr (12, 0, 0, 72), .inl (.int x1), .inl (.int x3), .inl (.int (x3 + 1))]) (st' := []) (P1 := P) rfl ⟨trivial, trivial⟩ ?_
              refine tr_goto ?_
              exact ih x1 x3 (x3 + 1) P
            · refine tr_icT (cd := .ge) (Int32.not_lt.mp h17) ?_
              refine tr_nil (rows2 := kb_69_113) rfl (List.cons_ne_nil _ _) ?_
              refine tr_blk 1 (pc' := 116) (rows' := kb_69_113.drop 1) (loc' := [.inr (12, 0, 0, 72), .inl (.int x1), .inl (.int x2), .inl (.int (x3 + 1))]) (st' := []) (P1 := P) rfl ⟨trivial, trivial⟩ ?_
              refine tr_goto ?_
              exact ih x1 x2 (x3 + 1) P
          · refine tr_ifT (cd := .ne) h15 ?_
            refine tr_nil (rows2 := kb_69_90) rfl (List.cons_ne_nil _ _) ?_
            refine tr_blk 4 (pc' := 96) (rows' := kb_69_90.drop 4) (loc' := [.inr (12, 0, 0, 72), .inl (.int x1), .inl (.int x2), .inl (.int x3)]) (st' := [.inl (.int x3), .inr (20, 366, 0, 477), .inr (12, 0, 0, 72)]) (P1 := P) rfl ⟨trivial, trivial, trivial, trivial, trivial⟩ ?_
            refine tr_cWI (z := km_146) (av := [.inr (12, 0, 0, 72), .inr (20, 366, 0, 477), .inl (.int x3)]) (st' := []) rfl rfl rfl (Nat.le_of_ble_eq_true rfl) ⟨rfl, Or.inl (by decide)⟩ rfl (Nat.le_of_ble_eq_true rfl) (t_146_366 477 N x3 P) (fun v7 P6 => ?_)
            refine tr_blk 4 (pc' := 105) (rows' := kb_69_90.drop 9) (loc' := [.inr (12, 0, 0, 72), .inl (.int x1), .inl (.int x2), .inl (.int x3)]) (st' := [.inl (.int x2), .inr (20, 366, 0, 477), .inr (12, 0, 0, 72), .inl (.int v7)]) (P1 := P6) rfl ⟨trivial, trivial, trivial, trivial, trivial⟩ ?_
            refine tr_cWI (z := km_146) (av := [.inr (12, 0, 0, 72), .inr (20, 366, 0, 477), .inl (.int x2)]) (st' := [.inl (.int v7)]) rfl rfl rfl (Nat.le_of_ble_eq_true rfl) ⟨rfl, Or.inl (by decide)⟩ rfl (Nat.le_of_ble_eq_true rfl) (t_146_366 477 N x2 P6) (fun v9 P8 => ?_)
            refine tr_if (fun h16 => ?_) (fun h16 => ?_)
            · refine tr_icF (cd := .le) (Int32.not_le.mpr h16) ?_
              refine tr_nil (rows2 := kb_69_111) rfl (List.cons_ne_nil _ _) ?_
              refine tr_blk 2 (pc' := 113) (rows' := kb_69_111.drop 2) (loc' := [.inr (12, 0, 0, 72), .inl (.int x1), .inl (.int x3), .inl (.int x3)]) (st' := []) (P1 := P8) rfl ⟨trivial, trivial, trivial⟩ ?_
              refine tr_nil (rows2 := kb_69_113) rfl (List.cons_ne_nil _ _) ?_
              refine tr_blk 1 (pc' := 116) (rows' := kb_69_113.drop 1) (loc' := [.inr (12, 0, 0, 72), .inl (.int x1), .inl (.int x3), .inl (.int (x3 + 1))]) (st' := []) (P1 := P8) rfl ⟨trivial, trivial⟩ ?_
              refine tr_goto ?_
              exact ih x1 x3 (x3 + 1) P8
            · refine tr_icT (cd := .le) (Int32.not_lt.mp h16) ?_
              refine tr_nil (rows2 := kb_69_113) rfl (List.cons_ne_nil _ _) ?_
              refine tr_blk 1 (pc' := 116) (rows' := kb_69_113.drop 1) (loc' := [.inr (12, 0, 0, 72), .inl (.int x1), .inl (.int x2), .inl (.int (x3 + 1))]) (st' := []) (P1 := P8) rfl ⟨trivial, trivial⟩ ?_
              refine tr_goto ?_
              exact ih x1 x2 (x3 + 1) P8
    · refine tr_icT (cd := .ge) (Int32.not_lt.mp h12) ?_
      refine tr_nil (rows2 := kb_69_119) rfl (List.cons_ne_nil _ _) ?_
      refine tr_blk 1 (pc' := 120) (rows' := kb_69_119.drop 1) (loc' := [.inr (12, 0, 0, 72), .inl (.int x1), .inl (.int x2), .inl (.int x3)]) (st' := [.inl (.int x2)]) (P1 := P) rfl ⟨trivial, trivial⟩ ?_
      exact tr_reI (z := km_69) rfl ⟨_, rfl, rfl⟩ rfl
def f_69_20 (N : Nat) (x1 : Int32) (s0 : Int32) (P : ab_P) : Option (Int32 × ab_P) :=
    ab_b2 (f_113 s0 (1 : Int32) (1 : Int32) P) fun v4 P3 =>
    if v4 = (0 : Int32) then
      f_69_34 N N x1 (-1 : Int32) (0 : Int32) P3
    else
    some ((0 : Int32), P3)
theorem t_69_20 {xs : Nat × (Nat → Int32)} {d : Nat} (N : Nat) : ∀ (x1 : Int32) (s0 : Int32) (P : ab_P), ab_tr xs wI (d + 6) 69 20 [] [.inr (12, 0, 0, 72), .inl (.int x1), ab_top, ab_top] [.inl (.int s0), .inr (12, 0, 0, 72)] P (f_69_20 N x1 s0 P) := by
  intro x1 s0 P
  unfold f_69_20
  refine tr_nil (rows2 := kb_69_20) rfl (List.cons_ne_nil _ _) ?_
  refine tr_blk 2 (pc' := 22) (rows' := kb_69_20.drop 2) (loc' := [.inr (12, 0, 0, 72), .inl (.int x1), ab_top, ab_top]) (st' := [.inl (.int (1 : Int32)), .inl (.int (1 : Int32)), .inl (.int s0), .inr (12, 0, 0, 72)]) (P1 := P) rfl ⟨trivial, trivial, trivial⟩ ?_
  refine tr_cWI (z := km_113) (av := [.inr (12, 0, 0, 72), .inl (.int s0), .inl (.int (1 : Int32)), .inl (.int (1 : Int32))]) (st' := []) rfl rfl rfl (Nat.le_of_ble_eq_true rfl) ⟨rfl, Or.inl (by decide)⟩ rfl (Nat.le_of_ble_eq_true rfl) (t_113 s0 (1 : Int32) (1 : Int32) P) (fun v4 P3 => ?_)
  refine tr_if (fun h18 => ?_) (fun h18 => ?_)
  · refine tr_ifT (cd := .eq) h18 ?_
    refine tr_nil (rows2 := kb_69_30) rfl (List.cons_ne_nil _ _) ?_
    refine tr_blk 4 (pc' := 34) (rows' := kb_69_30.drop 4) (loc' := [.inr (12, 0, 0, 72), .inl (.int x1), .inl (.int (-1 : Int32)), .inl (.int (0 : Int32))]) (st' := []) (P1 := P3) rfl ⟨trivial, trivial, trivial, trivial, trivial⟩ ?_
    exact t_69_34 N N x1 (-1 : Int32) (0 : Int32) P3
  · refine tr_ifF (cd := .eq) h18 ?_
    refine tr_blk 1 (pc' := 29) (rows' := kb_69_20.drop 5) (loc' := [.inr (12, 0, 0, 72), .inl (.int x1), ab_top, ab_top]) (st' := [.inl (.int (0 : Int32))]) (P1 := P3) rfl ⟨trivial, trivial⟩ ?_
    exact tr_reI (z := km_69) rfl ⟨_, rfl, rfl⟩ rfl
def f_69 (N : Nat) (a1 : Int32) (P : ab_P) : Option (Int32 × ab_P) :=
    ab_lt (ab_pI P 72 0 (0 : Int32)) fun P1 =>
    Option.bind (f_112 P1 a1 (0 : Int32) (1 : Int32)) fun v2 =>
    if v2 = (0 : Int32) then
      f_69_20 N a1 (1 : Int32) P1
    else
    f_69_20 N a1 (0 : Int32) P1
theorem t_69 {xs : Nat × (Nat → Int32)} {d : Nat} (N : Nat) : ∀ (a1 : Int32) (P : ab_P), ab_tr xs wI (d + 6) 69 0 [] [.inr (12, 0, 0, 72), .inl (.int a1), ab_top, ab_top] [] P (f_69 N a1 P) := by
  intro a1 P
  unfold f_69
  refine tr_nil (rows2 := kb_69_0) rfl (List.cons_ne_nil _ _) ?_
  refine tr_blk 3 (pc' := 5) (rows' := kb_69_0.drop 3) (loc' := [.inr (12, 0, 0, 72), .inl (.int a1), ab_top, ab_top]) (st' := []) (P1 := (ab_pI P 72 0 (0 : Int32))) rfl ⟨trivial, trivial, trivial, trivial⟩ ?_
  refine tr_lt (fun P1 => ?_)
  refine tr_blk 4 (pc' := 9) (rows' := kb_69_0.drop 7) (loc' := [.inr (12, 0, 0, 72), .inl (.int a1), ab_top, ab_top]) (st' := [.inl (.int (1 : Int32)), .inl (.int (0 : Int32)), .inl (.int a1), .inr (12, 0, 0, 72)]) (P1 := P1) rfl ⟨trivial, trivial, trivial, trivial, trivial⟩ ?_
  refine tr_cRI (z := km_112) (av := [.inl (.int a1), .inl (.int (0 : Int32)), .inl (.int (1 : Int32))]) (st' := [.inr (12, 0, 0, 72)]) rfl rfl rfl (Nat.le_of_ble_eq_true rfl) trivial rfl (Nat.le_of_ble_eq_true rfl) (t_112 P1 a1 (0 : Int32) (1 : Int32)) (fun v2 => ?_)
  refine tr_if (fun h19 => ?_) (fun h19 => ?_)
  · refine tr_ifF (cd := .ne) (fun q => q h19) ?_
    refine tr_blk 1 (pc' := 16) (rows' := kb_69_0.drop 10) (loc' := [.inr (12, 0, 0, 72), .inl (.int a1), ab_top, ab_top]) (st' := [.inl (.int (1 : Int32)), .inr (12, 0, 0, 72)]) (P1 := P1) rfl ⟨trivial, trivial⟩ ?_
    refine tr_goto ?_
    exact t_69_20 N a1 (1 : Int32) P1
  · refine tr_ifT (cd := .ne) h19 ?_
    refine tr_nil (rows2 := kb_69_19) rfl (List.cons_ne_nil _ _) ?_
    refine tr_blk 1 (pc' := 20) (rows' := kb_69_19.drop 1) (loc' := [.inr (12, 0, 0, 72), .inl (.int a1), ab_top, ab_top]) (st' := [.inl (.int (0 : Int32)), .inr (12, 0, 0, 72)]) (P1 := P1) rfl ⟨trivial, trivial⟩ ?_
    exact t_69_20 N a1 (0 : Int32) P1
def f_268_15 (N : Nat) : Nat → Int32 → Int32 → Int32 → Int32 → ab_P → Option (Int32 × ab_P)
  | 0, _, _, _, _, _ => none
  | n + 1, x1, x2, x3, x4, P =>
    if x4 < (P.1 43 2) then
      Option.bind (f_263 43 P x4) fun v2 =>
      if v2 = (0 : Int32) then
        f_268_15 N n x1 x2 x3 (x4 + 1) P
      else
      Option.bind (f_231 43 P (1 : Int32) x4) fun v3 =>
      if v3 = x1 then
        ab_b2 (f_296 N x4 x2 P) fun v5 P4 =>
        if v5 < (P4.1 46 5) then
          f_268_15 N n x1 x2 x3 (x4 + 1) P4
        else
        Option.bind (f_231 43 P4 (2 : Int32) x4) fun v6 =>
        f_268_15 N n x1 (x2 + (-1)) (x3 + v6) (x4 + 1) P4
      else
      f_268_15 N n x1 x2 x3 (x4 + 1) P
    else
    some (x3, P)
theorem t_268_15 {xs : Nat × (Nat → Int32)} {d : Nat} (N : Nat) : ∀ n : Nat, ∀ (x1 : Int32) (x2 : Int32) (x3 : Int32) (x4 : Int32) (P : ab_P), ab_tr xs wI (d + 3) 268 15 [] [.inr (4, 0, 0, 46), .inl (.int x1), .inl (.int x2), .inl (.int x3), .inl (.int x4)] [] P (f_268_15 N n x1 x2 x3 x4 P) := by
  intro n
  induction n with
  | zero => intro x1 x2 x3 x4 P; exact tr_no
  | succ n ih =>
    intro x1 x2 x3 x4 P
    refine tr_nil (rows2 := kb_268_15) rfl (List.cons_ne_nil _ _) ?_
    refine tr_blk 4 (pc' := 24) (rows' := kb_268_15.drop 4) (loc' := [.inr (4, 0, 0, 46), .inl (.int x1), .inl (.int x2), .inl (.int x3), .inl (.int x4)]) (st' := [.inl (.int (P.1 43 2)), .inl (.int x4)]) (P1 := P) rfl ⟨trivial, trivial, trivial, trivial, trivial⟩ ?_
    refine tr_if (fun h7 => ?_) (fun h7 => ?_)
    · refine tr_icF (cd := .ge) (Int32.not_le.mpr h7) ?_
      refine tr_blk 3 (pc' := 33) (rows' := kb_268_15.drop 8) (loc' := [.inr (4, 0, 0, 46), .inl (.int x1), .inl (.int x2), .inl (.int x3), .inl (.int x4)]) (st' := [.inl (.int x4), .inr (6, 0, 0, 43)]) (P1 := P) rfl ⟨trivial, trivial, trivial, trivial⟩ ?_
      refine tr_cRI (z := km_263) (av := [.inr (6, 0, 0, 43), .inl (.int x4)]) (st' := []) rfl rfl rfl (Nat.le_of_ble_eq_true rfl) ⟨rfl, Or.inl (by decide)⟩ rfl (Nat.le_of_ble_eq_true rfl) (t_263 43 P x4) (fun v2 => ?_)
      refine tr_if (fun h8 => ?_) (fun h8 => ?_)
      · refine tr_ifT (cd := .eq) h8 ?_
        refine tr_nil (rows2 := kb_268_83) rfl (List.cons_ne_nil _ _) ?_
        refine tr_blk 1 (pc' := 86) (rows' := kb_268_83.drop 1) (loc' := [.inr (4, 0, 0, 46), .inl (.int x1), .inl (.int x2), .inl (.int x3), .inl (.int (x4 + 1))]) (st' := []) (P1 := P) rfl ⟨trivial, trivial⟩ ?_
        refine tr_goto ?_
        exact ih x1 x2 x3 (x4 + 1) P
      · refine tr_ifF (cd := .eq) h8 ?_
        refine tr_blk 4 (pc' := 46) (rows' := kb_268_15.drop 14) (loc' := [.inr (4, 0, 0, 46), .inl (.int x1), .inl (.int x2), .inl (.int x3), .inl (.int x4)]) (st' := [.inl (.int x4), .inl (.int (1 : Int32)), .inr (6, 0, 0, 43)]) (P1 := P) rfl ⟨trivial, trivial, trivial, trivial, trivial⟩ ?_
        refine tr_cRI (z := km_231) (av := [.inr (6, 0, 0, 43), .inl (.int (1 : Int32)), .inl (.int x4)]) (st' := []) rfl rfl rfl (Nat.le_of_ble_eq_true rfl) ⟨rfl, Or.inl (by decide)⟩ rfl (Nat.le_of_ble_eq_true rfl) (t_231 43 P (1 : Int32) x4) (fun v3 => ?_)
        refine tr_blk 1 (pc' := 50) (rows' := kb_268_15.drop 16) (loc' := [.inr (4, 0, 0, 46), .inl (.int x1), .inl (.int x2), .inl (.int x3), .inl (.int x4)]) (st' := [.inl (.int x1), .inl (.int v3)]) (P1 := P) rfl ⟨trivial, trivial⟩ ?_
        refine tr_if (fun h9 => ?_) (fun h9 => ?_)
        · refine tr_icF (cd := .ne) (fun q => q h9) ?_
          refine tr_blk 3 (pc' := 57) (rows' := kb_268_15.drop 20) (loc' := [.inr (4, 0, 0, 46), .inl (.int x1), .inl (.int x2), .inl (.int x3), .inl (.int x4)]) (st' := [.inl (.int x2), .inl (.int x4), .inr (4, 0, 0, 46)]) (P1 := P) rfl ⟨trivial, trivial, trivial, trivial⟩ ?_
          refine tr_cWI (z := km_296) (av := [.inr (4, 0, 0, 46), .inl (.int x4), .inl (.int x2)]) (st' := []) rfl rfl rfl (Nat.le_of_ble_eq_true rfl) ⟨rfl, Or.inl (by decide)⟩ rfl (Nat.le_of_ble_eq_true rfl) (t_296 N x4 x2 P) (fun v5 P4 => ?_)
          refine tr_blk 2 (pc' := 64) (rows' := kb_268_15.drop 23) (loc' := [.inr (4, 0, 0, 46), .inl (.int x1), .inl (.int x2), .inl (.int x3), .inl (.int x4)]) (st' := [.inl (.int (P4.1 46 5)), .inl (.int v5)]) (P1 := P4) rfl ⟨trivial, trivial, trivial⟩ ?_
          refine tr_if (fun h10 => ?_) (fun h10 => ?_)
          · refine tr_icT (cd := .lt) h10 ?_
            refine tr_nil (rows2 := kb_268_83) rfl (List.cons_ne_nil _ _) ?_
            refine tr_blk 1 (pc' := 86) (rows' := kb_268_83.drop 1) (loc' := [.inr (4, 0, 0, 46), .inl (.int x1), .inl (.int x2), .inl (.int x3), .inl (.int (x4 + 1))]) (st' := []) (P1 := P4) rfl ⟨trivial, trivial⟩ ?_
            refine tr_goto ?_
            exact ih x1 x2 x3 (x4 + 1) P4
          · refine tr_icF (cd := .lt) h10 ?_
            refine tr_blk 5 (pc' := 75) (rows' := kb_268_15.drop 29) (loc' := [.inr (4, 0, 0, 46), .inl (.int x1), .inl (.int x2), .inl (.int x3), .inl (.int x4)]) (st' := [.inl (.int x4), .inl (.int (2 : Int32)), .inr (6, 0, 0, 43), .inl (.int x3)]) (P1 := P4) rfl ⟨trivial, trivial, trivial, trivial, trivial, trivial⟩ ?_
            refine tr_cRI (z := km_231) (av := [.inr (6, 0, 0, 43), .inl (.int (2 : Int32)), .inl (.int x4)]) (st' := [.inl (.int x3)]) rfl rfl rfl (Nat.le_of_ble_eq_true rfl) ⟨rfl, Or.inl (by decide)⟩ rfl (Nat.le_of_ble_eq_true rfl) (t_231 43 P4 (2 : Int32) x4) (fun v6 => ?_)
            refine tr_blk 3 (pc' := 83) (rows' := kb_268_15.drop 33) (loc' := [.inr (4, 0, 0, 46), .inl (.int x1), .inl (.int (x2 + (-1))), .inl (.int (x3 + v6)), .inl (.int x4)]) (st' := []) (P1 := P4) rfl ⟨trivial, trivial, trivial, trivial⟩ ?_
            refine tr_nil (rows2 := kb_268_83) rfl (List.cons_ne_nil _ _) ?_
            refine tr_blk 1 (pc' := 86) (rows' := kb_268_83.drop 1) (loc' := [.inr (4, 0, 0, 46), .inl (.int x1), .inl (.int (x2 + (-1))), .inl (.int (x3 + v6)), .inl (.int (x4 + 1))]) (st' := []) (P1 := P4) rfl ⟨trivial, trivial⟩ ?_
            refine tr_goto ?_
            exact ih x1 (x2 + (-1)) (x3 + v6) (x4 + 1) P4
        · refine tr_icT (cd := .ne) h9 ?_
          refine tr_nil (rows2 := kb_268_83) rfl (List.cons_ne_nil _ _) ?_
          refine tr_blk 1 (pc' := 86) (rows' := kb_268_83.drop 1) (loc' := [.inr (4, 0, 0, 46), .inl (.int x1), .inl (.int x2), .inl (.int x3), .inl (.int (x4 + 1))]) (st' := []) (P1 := P) rfl ⟨trivial, trivial⟩ ?_
          refine tr_goto ?_
          exact ih x1 x2 x3 (x4 + 1) P
    · refine tr_icT (cd := .ge) (Int32.not_lt.mp h7) ?_
      refine tr_nil (rows2 := kb_268_89) rfl (List.cons_ne_nil _ _) ?_
      refine tr_blk 1 (pc' := 90) (rows' := kb_268_89.drop 1) (loc' := [.inr (4, 0, 0, 46), .inl (.int x1), .inl (.int x2), .inl (.int x3), .inl (.int x4)]) (st' := [.inl (.int x3)]) (P1 := P) rfl ⟨trivial, trivial⟩ ?_
      exact tr_reI (z := km_268) rfl ⟨_, rfl, rfl⟩ rfl
def f_268 (N : Nat) (a1 : Int32) (P : ab_P) : Option (Int32 × ab_P) :=
    Option.bind (f_235 43 N P (1 : Int32) a1) fun v1 =>
    f_268_15 N N a1 v1 (0 : Int32) (0 : Int32) P
theorem t_268 {xs : Nat × (Nat → Int32)} {d : Nat} (N : Nat) : ∀ (a1 : Int32) (P : ab_P), ab_tr xs wI (d + 3) 268 0 [] [.inr (4, 0, 0, 46), .inl (.int a1), ab_top, ab_top, ab_top] [] P (f_268 N a1 P) := by
  intro a1 P
  unfold f_268
  refine tr_nil (rows2 := kb_268_0) rfl (List.cons_ne_nil _ _) ?_
  refine tr_blk 4 (pc' := 6) (rows' := kb_268_0.drop 4) (loc' := [.inr (4, 0, 0, 46), .inl (.int a1), ab_top, ab_top, ab_top]) (st' := [.inl (.int a1), .inl (.int (1 : Int32)), .inr (6, 0, 0, 43)]) (P1 := P) rfl ⟨trivial, trivial, trivial, trivial, trivial⟩ ?_
  refine tr_cRI (z := km_235) (av := [.inr (6, 0, 0, 43), .inl (.int (1 : Int32)), .inl (.int a1)]) (st' := []) rfl rfl rfl (Nat.le_of_ble_eq_true rfl) ⟨rfl, Or.inl (by decide)⟩ rfl (Nat.le_of_ble_eq_true rfl) (t_235 43 N P (1 : Int32) a1) (fun v1 => ?_)
  refine tr_blk 5 (pc' := 15) (rows' := kb_268_0.drop 10) (loc' := [.inr (4, 0, 0, 46), .inl (.int a1), .inl (.int v1), .inl (.int (0 : Int32)), .inl (.int (0 : Int32))]) (st' := []) (P1 := P) rfl ⟨trivial, trivial, trivial, trivial, trivial, trivial⟩ ?_
  exact t_268_15 N N a1 v1 (0 : Int32) (0 : Int32) P
def f_179 (N : Nat) (a1 : Int32) (P : ab_P) : Option ((Int32 ⊕ Fin 3) × ab_P) :=
    ab_x2 (f_232 a1 P) (fun _ P1 =>
    ab_b2 (f_268 N a1 P1) fun v3 P2 =>
    some (.inl v3, P2)) (fun q => q)
theorem t_179 {xs : Nat × (Nat → Int32)} {d : Nat} (N : Nat) : ∀ (a1 : Int32) (P : ab_P), ab_tr xs xI (d + 4) 179 0 [] [.inr (11, 0, 0, 0), .inl (.int a1)] [] P (f_179 N a1 P) := by
  intro a1 P
  unfold f_179
  refine tr_nil (rows2 := kb_179_0) rfl (List.cons_ne_nil _ _) ?_
  refine tr_blk 2 (pc' := 2) (rows' := kb_179_0.drop 2) (loc' := [.inr (11, 0, 0, 0), .inl (.int a1)]) (st' := [.inl (.int a1), .inr (11, 0, 0, 0)]) (P1 := P) rfl ⟨trivial, trivial, trivial⟩ ?_
  refine tr_cax (fun _ => none) (zi := km_179) (fun _ => rfl) (fun _ _ => rfl) rfl rfl (z := km_232) (av := [.inr (11, 0, 0, 0), .inl (.int a1)]) (st' := []) rfl rfl rfl (Nat.le_of_ble_eq_true rfl) ⟨rfl, Or.inl (by decide)⟩ rfl (Nat.le_of_ble_eq_true rfl) (t_232 a1 P) (fun _ P1 => ?_)
  refine tr_blk 3 (pc' := 10) (rows' := kb_179_0.drop 6) (loc' := [.inr (11, 0, 0, 0), .inl (.int a1)]) (st' := [.inl (.int a1), .inr (4, 0, 0, 46)]) (P1 := P1) rfl ⟨trivial, trivial, trivial, trivial⟩ ?_
  refine tr_cWI (z := km_268) (av := [.inr (4, 0, 0, 46), .inl (.int a1)]) (st' := []) rfl rfl rfl (Nat.le_of_ble_eq_true rfl) ⟨rfl, Or.inl (by decide)⟩ rfl (Nat.le_of_ble_eq_true rfl) (t_268 N a1 P1) (fun v3 P2 => ?_)
  exact tr_reI (z := km_179) rfl ⟨_, rfl, rfl⟩ rfl
def f_70_1 (N : Nat) (a1 : Int32) (P : ab_P) : Option (Int32 × ab_P) :=
    ab_h2 (f_179 N a1 P) (fun v2 P1 =>
    ab_lt (ab_pL P1 570 0 (v2).toInt64) fun P3 =>
    some ((0 : Int32), P3))
    (fun P9 => some ((1 : Int32), P9)) (fun _ => none) (fun _ => none)
theorem t_70_1 {xs : Nat × (Nat → Int32)} {d : Nat} (N : Nat) : ∀ (a1 : Int32) (P : ab_P), ab_tr xs wI (d + 5) 70 0 [] [.inr (11, 0, 0, 0), .inl (.int a1), .inr (22, 1, 0, 570), ab_top] [] P (f_70_1 N a1 P) := by
  intro a1 P
  unfold f_70_1
  refine tr_nil (rows2 := kb_70_0) rfl (List.cons_ne_nil _ _) ?_
  refine tr_blk 4 (pc' := 4) (rows' := kb_70_0.drop 4) (loc' := [.inr (11, 0, 0, 0), .inl (.int a1), .inr (22, 1, 0, 570), ab_top]) (st' := [.inl (.int a1), .inr (11, 0, 0, 0), .inl (.int (0 : Int32)), .inr (22, 1, 0, 570)]) (P1 := P) rfl ⟨trivial, trivial, trivial, trivial, trivial⟩ ?_
  refine tr_cah (fun b => some (.inl (.int b))) (zi := km_70) (fun _ => rfl) rfl (z := km_179) (av := [.inr (11, 0, 0, 0), .inl (.int a1)]) (st' := [.inl (.int (0 : Int32)), .inr (22, 1, 0, 570)]) rfl rfl rfl (Nat.le_of_ble_eq_true rfl) ⟨rfl, Or.inl (by decide)⟩ rfl (Nat.le_of_ble_eq_true rfl) (t_179 N a1 P) (fun v2 P1 => ?_) ?_ ?_ ?_
  · refine tr_blk 2 (pc' := 9) (rows' := kb_70_0.drop 7) (loc' := [.inr (11, 0, 0, 0), .inl (.int a1), .inr (22, 1, 0, 570), ab_top]) (st' := []) (P1 := (ab_pL P1 570 0 (v2).toInt64)) rfl ⟨trivial, (ab_vi (by decide)), trivial⟩ ?_
    refine tr_lt (fun P3 => ?_)
    refine tr_goto ?_
    refine tr_nil (rows2 := kb_70_15) rfl (List.cons_ne_nil _ _) ?_
    refine tr_blk 1 (pc' := 16) (rows' := kb_70_15.drop 1) (loc' := [.inr (11, 0, 0, 0), .inl (.int a1), .inr (22, 1, 0, 570), ab_top]) (st' := [.inl (.int (0 : Int32))]) (P1 := P3) rfl ⟨trivial, trivial⟩ ?_
    exact tr_reI (z := km_70) rfl ⟨_, rfl, rfl⟩ rfl
  · exact fun _ => tr_han (rows2 := kb_70_12) (z := km_70) _ (fun q => [.inr (11, 0, 0, 0), .inl (.int a1), .inr (22, 1, 0, 570), .inr (40, 0, 0, q)]) rfl (List.cons_ne_nil _ _) (fun q => rfl) ⟨trivial, trivial, trivial⟩ rfl ⟨_, rfl, rfl⟩ rfl
  · exact fun _ => rfl
  · exact fun _ => rfl
def f_71_43 (N : Nat) : Nat → Int32 → Int32 → Int32 → Int32 → ab_P → Option (Int32 × ab_P)
  | 0, _, _, _, _, _ => none
  | n + 1, x1, x2, x3, x4, P =>
    if x4 < (P.1 477 360) then
      Option.bind (f_144_366 477 P x4) fun v6 =>
      if v6 = (0 : Int32) then
        f_71_43 N n x1 x2 x3 (x4 + 1) P
      else
      Option.bind (f_135_366 477 P x4 (1 : Int32)) fun v7 =>
      if v7 = x1 then
        ab_b2 (f_181_366 477 N x4 x2 P) fun v9 P8 =>
        if v9 < (P8.1 76 3) then
          f_71_43 N n x1 x2 x3 (x4 + 1) P8
        else
        Option.bind (f_135_366 477 P8 x4 (2 : Int32)) fun v10 =>
        f_71_43 N n x1 (x2 + (-1)) (x3 + v10) (x4 + 1) P8
      else
      f_71_43 N n x1 x2 x3 (x4 + 1) P
    else
    some (x3, P)
theorem t_71_43 {xs : Nat × (Nat → Int32)} {d : Nat} (N : Nat) : ∀ n : Nat, ∀ (x1 : Int32) (x2 : Int32) (x3 : Int32) (x4 : Int32) (P : ab_P), ab_tr xs wI (d + 5) 71 43 [] [.inr (12, 0, 0, 72), .inl (.int x1), .inl (.int x2), .inl (.int x3), .inl (.int x4)] [] P (f_71_43 N n x1 x2 x3 x4 P) := by
  intro n
  induction n with
  | zero => intro x1 x2 x3 x4 P; exact tr_no
  | succ n ih =>
    intro x1 x2 x3 x4 P
    refine tr_nil (rows2 := kb_71_43) rfl (List.cons_ne_nil _ _) ?_
    refine tr_blk 5 (pc' := 53) (rows' := kb_71_43.drop 5) (loc' := [.inr (12, 0, 0, 72), .inl (.int x1), .inl (.int x2), .inl (.int x3), .inl (.int x4)]) (st' := [.inl (.int (P.1 477 360)), .inl (.int x4)]) (P1 := P) rfl ⟨trivial, trivial, trivial, trivial, (ab_vi (by decide)), trivial⟩ ?_
    refine tr_if (fun h11 => ?_) (fun h11 => ?_)
    · refine tr_icF (cd := .ge) (Int32.not_le.mpr h11) ?_
      refine tr_blk 3 (pc' := 62) (rows' := kb_71_43.drop 9) (loc' := [.inr (12, 0, 0, 72), .inl (.int x1), .inl (.int x2), .inl (.int x3), .inl (.int x4)]) (st' := [.inl (.int x4), .inr (20, 366, 0, 477)]) (P1 := P) rfl ⟨trivial, trivial, trivial, trivial⟩ ?_
      refine tr_cRI (z := km_144) (av := [.inr (20, 366, 0, 477), .inl (.int x4)]) (st' := []) rfl rfl rfl (Nat.le_of_ble_eq_true rfl) trivial rfl (Nat.le_of_ble_eq_true rfl) (t_144_366 477 P x4) (fun v6 => ?_)
      refine tr_if (fun h12 => ?_) (fun h12 => ?_)
      · refine tr_ifT (cd := .eq) h12 ?_
        refine tr_nil (rows2 := kb_71_121) rfl (List.cons_ne_nil _ _) ?_
        refine tr_blk 1 (pc' := 124) (rows' := kb_71_121.drop 1) (loc' := [.inr (12, 0, 0, 72), .inl (.int x1), .inl (.int x2), .inl (.int x3), .inl (.int (x4 + 1))]) (st' := []) (P1 := P) rfl ⟨trivial, trivial⟩ ?_
        refine tr_goto ?_
        exact ih x1 x2 x3 (x4 + 1) P
      · refine tr_ifF (cd := .eq) h12 ?_
        refine tr_blk 4 (pc' := 75) (rows' := kb_71_43.drop 15) (loc' := [.inr (12, 0, 0, 72), .inl (.int x1), .inl (.int x2), .inl (.int x3), .inl (.int x4)]) (st' := [.inl (.int (1 : Int32)), .inl (.int x4), .inr (20, 366, 0, 477)]) (P1 := P) rfl ⟨trivial, trivial, trivial, trivial, trivial⟩ ?_
        refine tr_cRI (z := km_135) (av := [.inr (20, 366, 0, 477), .inl (.int x4), .inl (.int (1 : Int32))]) (st' := []) rfl rfl rfl (Nat.le_of_ble_eq_true rfl) trivial rfl (Nat.le_of_ble_eq_true rfl) (t_135_366 477 P x4 (1 : Int32)) (fun v7 => ?_)
        refine tr_blk 1 (pc' := 79) (rows' := kb_71_43.drop 17) (loc' := [.inr (12, 0, 0, 72), .inl (.int x1), .inl (.int x2), .inl (.int x3), .inl (.int x4)]) (st' := [.inl (.int x1), .inl (.int v7)]) (P1 := P) rfl ⟨trivial, trivial⟩ ?_
        refine tr_if (fun h13 => ?_) (fun h13 => ?_)
        · refine tr_icF (cd := .ne) (fun q => q h13) ?_
          refine tr_blk 5 (pc' := 90) (rows' := kb_71_43.drop 23) (loc' := [.inr (12, 0, 0, 72), .inl (.int x1), .inl (.int x2), .inl (.int x3), .inl (.int x4)]) (st' := [.inl (.int x2), .inl (.int x4), .inr (20, 366, 0, 477), .inr (12, 0, 0, 72)]) (P1 := P) rfl ⟨trivial, trivial, trivial, trivial, trivial, trivial⟩ ?_
          refine tr_cWI (z := km_181) (av := [.inr (12, 0, 0, 72), .inr (20, 366, 0, 477), .inl (.int x4), .inl (.int x2)]) (st' := []) rfl rfl rfl (Nat.le_of_ble_eq_true rfl) ⟨rfl, Or.inl (by decide)⟩ rfl (Nat.le_of_ble_eq_true rfl) (t_181_366 477 N x4 x2 P) (fun v9 P8 => ?_)
          refine tr_blk 4 (pc' := 99) (rows' := kb_71_43.drop 28) (loc' := [.inr (12, 0, 0, 72), .inl (.int x1), .inl (.int x2), .inl (.int x3), .inl (.int x4)]) (st' := [.inl (.int (P8.1 76 3)), .inl (.int v9)]) (P1 := P8) rfl ⟨trivial, trivial, trivial, (ab_vi (by decide)), trivial⟩ ?_
          refine tr_if (fun h14 => ?_) (fun h14 => ?_)
          · refine tr_icF (cd := .ge) (Int32.not_le.mpr h14) ?_
            refine tr_goto ?_
            refine tr_nil (rows2 := kb_71_121) rfl (List.cons_ne_nil _ _) ?_
            refine tr_blk 1 (pc' := 124) (rows' := kb_71_121.drop 1) (loc' := [.inr (12, 0, 0, 72), .inl (.int x1), .inl (.int x2), .inl (.int x3), .inl (.int (x4 + 1))]) (st' := []) (P1 := P8) rfl ⟨trivial, trivial⟩ ?_
            refine tr_goto ?_
            exact ih x1 x2 x3 (x4 + 1) P8
          · refine tr_icT (cd := .ge) (Int32.not_lt.mp h14) ?_
            refine tr_nil (rows2 := kb_71_105) rfl (List.cons_ne_nil _ _) ?_
            refine tr_blk 5 (pc' := 113) (rows' := kb_71_105.drop 5) (loc' := [.inr (12, 0, 0, 72), .inl (.int x1), .inl (.int x2), .inl (.int x3), .inl (.int x4)]) (st' := [.inl (.int (2 : Int32)), .inl (.int x4), .inr (20, 366, 0, 477), .inl (.int x3)]) (P1 := P8) rfl ⟨trivial, trivial, trivial, trivial, trivial, trivial⟩ ?_
            refine tr_cRI (z := km_135) (av := [.inr (20, 366, 0, 477), .inl (.int x4), .inl (.int (2 : Int32))]) (st' := [.inl (.int x3)]) rfl rfl rfl (Nat.le_of_ble_eq_true rfl) trivial rfl (Nat.le_of_ble_eq_true rfl) (t_135_366 477 P8 x4 (2 : Int32)) (fun v10 => ?_)
            refine tr_blk 3 (pc' := 121) (rows' := kb_71_105.drop 9) (loc' := [.inr (12, 0, 0, 72), .inl (.int x1), .inl (.int (x2 + (-1))), .inl (.int (x3 + v10)), .inl (.int x4)]) (st' := []) (P1 := P8) rfl ⟨trivial, trivial, trivial, trivial⟩ ?_
            refine tr_nil (rows2 := kb_71_121) rfl (List.cons_ne_nil _ _) ?_
            refine tr_blk 1 (pc' := 124) (rows' := kb_71_121.drop 1) (loc' := [.inr (12, 0, 0, 72), .inl (.int x1), .inl (.int (x2 + (-1))), .inl (.int (x3 + v10)), .inl (.int (x4 + 1))]) (st' := []) (P1 := P8) rfl ⟨trivial, trivial⟩ ?_
            refine tr_goto ?_
            exact ih x1 (x2 + (-1)) (x3 + v10) (x4 + 1) P8
        · refine tr_icT (cd := .ne) h13 ?_
          refine tr_nil (rows2 := kb_71_121) rfl (List.cons_ne_nil _ _) ?_
          refine tr_blk 1 (pc' := 124) (rows' := kb_71_121.drop 1) (loc' := [.inr (12, 0, 0, 72), .inl (.int x1), .inl (.int x2), .inl (.int x3), .inl (.int (x4 + 1))]) (st' := []) (P1 := P) rfl ⟨trivial, trivial⟩ ?_
          refine tr_goto ?_
          exact ih x1 x2 x3 (x4 + 1) P
    · refine tr_icT (cd := .ge) (Int32.not_lt.mp h11) ?_
      refine tr_nil (rows2 := kb_71_127) rfl (List.cons_ne_nil _ _) ?_
      refine tr_blk 1 (pc' := 128) (rows' := kb_71_127.drop 1) (loc' := [.inr (12, 0, 0, 72), .inl (.int x1), .inl (.int x2), .inl (.int x3), .inl (.int x4)]) (st' := [.inl (.int x3)]) (P1 := P) rfl ⟨trivial, trivial⟩ ?_
      exact tr_reI (z := km_71) rfl ⟨_, rfl, rfl⟩ rfl
def f_71_19 (N : Nat) (x1 : Int32) (s0 : Int32) (P : ab_P) : Option (Int32 × ab_P) :=
    ab_b2 (f_113 s0 (1 : Int32) (0 : Int32) P) fun v4 P3 =>
    if v4 = (0 : Int32) then
      Option.bind (f_180_366 477 N P3 x1) fun v5 =>
      f_71_43 N N x1 v5 (0 : Int32) (0 : Int32) P3
    else
    some ((0 : Int32), P3)
theorem t_71_19 {xs : Nat × (Nat → Int32)} {d : Nat} (N : Nat) : ∀ (x1 : Int32) (s0 : Int32) (P : ab_P), ab_tr xs wI (d + 5) 71 19 [] [.inr (12, 0, 0, 72), .inl (.int x1), ab_top, ab_top, ab_top] [.inl (.int s0), .inr (12, 0, 0, 72)] P (f_71_19 N x1 s0 P) := by
  intro x1 s0 P
  unfold f_71_19
  refine tr_nil (rows2 := kb_71_19) rfl (List.cons_ne_nil _ _) ?_
  refine tr_blk 2 (pc' := 21) (rows' := kb_71_19.drop 2) (loc' := [.inr (12, 0, 0, 72), .inl (.int x1), ab_top, ab_top, ab_top]) (st' := [.inl (.int (0 : Int32)), .inl (.int (1 : Int32)), .inl (.int s0), .inr (12, 0, 0, 72)]) (P1 := P) rfl ⟨trivial, trivial, trivial⟩ ?_
  refine tr_cWI (z := km_113) (av := [.inr (12, 0, 0, 72), .inl (.int s0), .inl (.int (1 : Int32)), .inl (.int (0 : Int32))]) (st' := []) rfl rfl rfl (Nat.le_of_ble_eq_true rfl) ⟨rfl, Or.inl (by decide)⟩ rfl (Nat.le_of_ble_eq_true rfl) (t_113 s0 (1 : Int32) (0 : Int32) P) (fun v4 P3 => ?_)
  refine tr_if (fun h15 => ?_) (fun h15 => ?_)
  · refine tr_ifT (cd := .eq) h15 ?_
    refine tr_nil (rows2 := kb_71_29) rfl (List.cons_ne_nil _ _) ?_
    refine tr_blk 3 (pc' := 34) (rows' := kb_71_29.drop 3) (loc' := [.inr (12, 0, 0, 72), .inl (.int x1), ab_top, ab_top, ab_top]) (st' := [.inl (.int x1), .inr (20, 366, 0, 477)]) (P1 := P3) rfl ⟨trivial, trivial, trivial, trivial⟩ ?_
    refine tr_cRI (z := km_180) (av := [.inr (20, 366, 0, 477), .inl (.int x1)]) (st' := []) rfl rfl rfl (Nat.le_of_ble_eq_true rfl) trivial rfl (Nat.le_of_ble_eq_true rfl) (t_180_366 477 N P3 x1) (fun v5 => ?_)
    refine tr_blk 5 (pc' := 43) (rows' := kb_71_29.drop 9) (loc' := [.inr (12, 0, 0, 72), .inl (.int x1), .inl (.int v5), .inl (.int (0 : Int32)), .inl (.int (0 : Int32))]) (st' := []) (P1 := P3) rfl ⟨trivial, trivial, trivial, trivial, trivial, trivial⟩ ?_
    exact t_71_43 N N x1 v5 (0 : Int32) (0 : Int32) P3
  · refine tr_ifF (cd := .eq) h15 ?_
    refine tr_blk 1 (pc' := 28) (rows' := kb_71_19.drop 5) (loc' := [.inr (12, 0, 0, 72), .inl (.int x1), ab_top, ab_top, ab_top]) (st' := [.inl (.int (0 : Int32))]) (P1 := P3) rfl ⟨trivial, trivial⟩ ?_
    exact tr_reI (z := km_71) rfl ⟨_, rfl, rfl⟩ rfl
def f_71 (N : Nat) (a1 : Int32) (P : ab_P) : Option (Int32 × ab_P) :=
    ab_lt (ab_pI P 72 0 (0 : Int32)) fun P1 =>
    Option.bind (f_137 P1 a1) fun v2 =>
    if v2 = (0 : Int32) then
      f_71_19 N a1 (1 : Int32) P1
    else
    f_71_19 N a1 (0 : Int32) P1
theorem t_71 {xs : Nat × (Nat → Int32)} {d : Nat} (N : Nat) : ∀ (a1 : Int32) (P : ab_P), ab_tr xs wI (d + 5) 71 0 [] [.inr (12, 0, 0, 72), .inl (.int a1), ab_top, ab_top, ab_top] [] P (f_71 N a1 P) := by
  intro a1 P
  unfold f_71
  refine tr_nil (rows2 := kb_71_0) rfl (List.cons_ne_nil _ _) ?_
  refine tr_blk 3 (pc' := 5) (rows' := kb_71_0.drop 3) (loc' := [.inr (12, 0, 0, 72), .inl (.int a1), ab_top, ab_top, ab_top]) (st' := []) (P1 := (ab_pI P 72 0 (0 : Int32))) rfl ⟨trivial, trivial, trivial, trivial⟩ ?_
  refine tr_lt (fun P1 => ?_)
  refine tr_blk 3 (pc' := 8) (rows' := kb_71_0.drop 6) (loc' := [.inr (12, 0, 0, 72), .inl (.int a1), ab_top, ab_top, ab_top]) (st' := [.inl (.int a1), .inr (12, 0, 0, 72), .inr (12, 0, 0, 72)]) (P1 := P1) rfl ⟨trivial, trivial, trivial, trivial⟩ ?_
  refine tr_cRI (z := km_137) (av := [.inr (12, 0, 0, 72), .inl (.int a1)]) (st' := [.inr (12, 0, 0, 72)]) rfl rfl rfl (Nat.le_of_ble_eq_true rfl) ⟨rfl, Or.inl (by decide)⟩ rfl (Nat.le_of_ble_eq_true rfl) (t_137 P1 a1) (fun v2 => ?_)
  refine tr_if (fun h16 => ?_) (fun h16 => ?_)
  · refine tr_ifF (cd := .ne) (fun q => q h16) ?_
    refine tr_blk 1 (pc' := 15) (rows' := kb_71_0.drop 9) (loc' := [.inr (12, 0, 0, 72), .inl (.int a1), ab_top, ab_top, ab_top]) (st' := [.inl (.int (1 : Int32)), .inr (12, 0, 0, 72)]) (P1 := P1) rfl ⟨trivial, trivial⟩ ?_
    refine tr_goto ?_
    exact t_71_19 N a1 (1 : Int32) P1
  · refine tr_ifT (cd := .ne) h16 ?_
    refine tr_nil (rows2 := kb_71_18) rfl (List.cons_ne_nil _ _) ?_
    refine tr_blk 1 (pc' := 19) (rows' := kb_71_18.drop 1) (loc' := [.inr (12, 0, 0, 72), .inl (.int a1), ab_top, ab_top, ab_top]) (st' := [.inl (.int (0 : Int32)), .inr (12, 0, 0, 72)]) (P1 := P1) rfl ⟨trivial, trivial⟩ ?_
    exact t_71_19 N a1 (0 : Int32) P1
def f_182_22 (N : Nat) : Nat → Int32 → Int32 → Int32 → Int32 → ab_P → Option ((Int32 ⊕ Fin 3) × ab_P)
  | 0, _, _, _, _, _ => none
  | n + 1, x1, x2, x3, x4, P =>
    if x4 < (P.1 3 5) then
      if x4 = x1 then
        f_182_22 N n x1 x2 x3 (x4 + 1) P
      else
      ab_b2 (f_244 N x4 x1 x2 P) fun v5 P4 =>
      if (lg_cmp v5 (0 : Int64)) = (0 : Int32) then
        f_182_22 N n x1 x2 x3 (x4 + 1) P4
      else
      f_182_22 N n x1 x2 (x3 ||| ((1 : Int32) <<< (x4 &&& 31))) (x4 + 1) P4
    else
    some (.inl x3, P)
theorem t_182_22 {xs : Nat × (Nat → Int32)} {d : Nat} (N : Nat) : ∀ n : Nat, ∀ (x1 : Int32) (x2 : Int32) (x3 : Int32) (x4 : Int32) (P : ab_P), ab_tr xs xI (d + 3) 182 22 [] [.inr (11, 0, 0, 0), .inl (.int x1), .inl (.int x2), .inl (.int x3), .inl (.int x4)] [] P (f_182_22 N n x1 x2 x3 x4 P) := by
  intro n
  induction n with
  | zero => intro x1 x2 x3 x4 P; exact tr_no
  | succ n ih =>
    intro x1 x2 x3 x4 P
    refine tr_nil (rows2 := kb_182_22) rfl (List.cons_ne_nil _ _) ?_
    refine tr_blk 4 (pc' := 31) (rows' := kb_182_22.drop 4) (loc' := [.inr (11, 0, 0, 0), .inl (.int x1), .inl (.int x2), .inl (.int x3), .inl (.int x4)]) (st' := [.inl (.int (P.1 3 5)), .inl (.int x4)]) (P1 := P) rfl ⟨trivial, trivial, trivial, trivial, trivial⟩ ?_
    refine tr_if (fun h6 => ?_) (fun h6 => ?_)
    · refine tr_icF (cd := .ge) (Int32.not_le.mpr h6) ?_
      refine tr_blk 2 (pc' := 37) (rows' := kb_182_22.drop 7) (loc' := [.inr (11, 0, 0, 0), .inl (.int x1), .inl (.int x2), .inl (.int x3), .inl (.int x4)]) (st' := [.inl (.int x1), .inl (.int x4)]) (P1 := P) rfl ⟨trivial, trivial, trivial⟩ ?_
      refine tr_if (fun h7 => ?_) (fun h7 => ?_)
      · refine tr_icT (cd := .eq) h7 ?_
        refine tr_nil (rows2 := kb_182_63) rfl (List.cons_ne_nil _ _) ?_
        refine tr_blk 1 (pc' := 66) (rows' := kb_182_63.drop 1) (loc' := [.inr (11, 0, 0, 0), .inl (.int x1), .inl (.int x2), .inl (.int x3), .inl (.int (x4 + 1))]) (st' := []) (P1 := P) rfl ⟨trivial, trivial⟩ ?_
        refine tr_goto ?_
        exact ih x1 x2 x3 (x4 + 1) P
      · refine tr_icF (cd := .eq) h7 ?_
        refine tr_blk 5 (pc' := 48) (rows' := kb_182_22.drop 13) (loc' := [.inr (11, 0, 0, 0), .inl (.int x1), .inl (.int x2), .inl (.int x3), .inl (.int x4)]) (st' := [.inl (.int x2), .inl (.int x1), .inl (.int x4), .inr (8, 0, 0, 49)]) (P1 := P) rfl ⟨trivial, trivial, trivial, trivial, trivial, trivial⟩ ?_
        refine tr_cWL (z := km_244) (av := [.inr (8, 0, 0, 49), .inl (.int x4), .inl (.int x1), .inl (.int x2)]) (st' := []) rfl rfl rfl (Nat.le_of_ble_eq_true rfl) ⟨rfl, Or.inl (by decide)⟩ rfl (Nat.le_of_ble_eq_true rfl) (t_244 N x4 x1 x2 P) (fun v5 P4 => ?_)
        refine tr_blk 2 (pc' := 53) (rows' := kb_182_22.drop 16) (loc' := [.inr (11, 0, 0, 0), .inl (.int x1), .inl (.int x2), .inl (.int x3), .inl (.int x4)]) (st' := [.inl (.int (lg_cmp v5 (0 : Int64)))]) (P1 := P4) rfl ⟨trivial, trivial, trivial⟩ ?_
        refine tr_if (fun h8 => ?_) (fun h8 => ?_)
        · refine tr_ifT (cd := .eq) h8 ?_
          refine tr_nil (rows2 := kb_182_63) rfl (List.cons_ne_nil _ _) ?_
          refine tr_blk 1 (pc' := 66) (rows' := kb_182_63.drop 1) (loc' := [.inr (11, 0, 0, 0), .inl (.int x1), .inl (.int x2), .inl (.int x3), .inl (.int (x4 + 1))]) (st' := []) (P1 := P4) rfl ⟨trivial, trivial⟩ ?_
          refine tr_goto ?_
          exact ih x1 x2 x3 (x4 + 1) P4
        · refine tr_ifF (cd := .eq) h8 ?_
          refine tr_blk 6 (pc' := 63) (rows' := kb_182_22.drop 23) (loc' := [.inr (11, 0, 0, 0), .inl (.int x1), .inl (.int x2), .inl (.int (x3 ||| ((1 : Int32) <<< (x4 &&& 31)))), .inl (.int x4)]) (st' := []) (P1 := P4) rfl ⟨trivial, trivial, trivial, trivial, trivial, trivial, trivial⟩ ?_
          refine tr_nil (rows2 := kb_182_63) rfl (List.cons_ne_nil _ _) ?_
          refine tr_blk 1 (pc' := 66) (rows' := kb_182_63.drop 1) (loc' := [.inr (11, 0, 0, 0), .inl (.int x1), .inl (.int x2), .inl (.int (x3 ||| ((1 : Int32) <<< (x4 &&& 31)))), .inl (.int (x4 + 1))]) (st' := []) (P1 := P4) rfl ⟨trivial, trivial⟩ ?_
          refine tr_goto ?_
          exact ih x1 x2 (x3 ||| ((1 : Int32) <<< (x4 &&& 31))) (x4 + 1) P4
    · refine tr_icT (cd := .ge) (Int32.not_lt.mp h6) ?_
      refine tr_nil (rows2 := kb_182_69) rfl (List.cons_ne_nil _ _) ?_
      refine tr_blk 1 (pc' := 70) (rows' := kb_182_69.drop 1) (loc' := [.inr (11, 0, 0, 0), .inl (.int x1), .inl (.int x2), .inl (.int x3), .inl (.int x4)]) (st' := [.inl (.int x3)]) (P1 := P) rfl ⟨trivial, trivial⟩ ?_
      exact tr_reI (z := km_182) rfl ⟨_, rfl, rfl⟩ rfl
def f_182 (N : Nat) (a1 : Int32) (a2 : Int32) (P : ab_P) : Option ((Int32 ⊕ Fin 3) × ab_P) :=
    ab_x2 (f_232 a1 P) (fun _ P1 =>
    Option.bind (f_240 P1 a2 (1 : Int32) (999 : Int32)) fun v2 =>
    ab_x2 (f_228 v2 P1) (fun _ P3 =>
    f_182_22 N N a1 a2 (0 : Int32) (0 : Int32) P3) (fun q => q)) (fun q => q)
theorem t_182 {xs : Nat × (Nat → Int32)} {d : Nat} (N : Nat) : ∀ (a1 : Int32) (a2 : Int32) (P : ab_P), ab_tr xs xI (d + 3) 182 0 [] [.inr (11, 0, 0, 0), .inl (.int a1), .inl (.int a2), ab_top, ab_top] [] P (f_182 N a1 a2 P) := by
  intro a1 a2 P
  unfold f_182
  refine tr_nil (rows2 := kb_182_0) rfl (List.cons_ne_nil _ _) ?_
  refine tr_blk 2 (pc' := 2) (rows' := kb_182_0.drop 2) (loc' := [.inr (11, 0, 0, 0), .inl (.int a1), .inl (.int a2), ab_top, ab_top]) (st' := [.inl (.int a1), .inr (11, 0, 0, 0)]) (P1 := P) rfl ⟨trivial, trivial, trivial⟩ ?_
  refine tr_cax (fun _ => none) (zi := km_182) (fun _ => rfl) (fun _ _ => rfl) rfl rfl (z := km_232) (av := [.inr (11, 0, 0, 0), .inl (.int a1)]) (st' := []) rfl rfl rfl (Nat.le_of_ble_eq_true rfl) ⟨rfl, Or.inl (by decide)⟩ rfl (Nat.le_of_ble_eq_true rfl) (t_232 a1 P) (fun _ P1 => ?_)
  refine tr_blk 4 (pc' := 11) (rows' := kb_182_0.drop 7) (loc' := [.inr (11, 0, 0, 0), .inl (.int a1), .inl (.int a2), ab_top, ab_top]) (st' := [.inl (.int (999 : Int32)), .inl (.int (1 : Int32)), .inl (.int a2), .inr (11, 0, 0, 0)]) (P1 := P1) rfl ⟨trivial, trivial, trivial, trivial, trivial⟩ ?_
  refine tr_cRI (z := km_240) (av := [.inl (.int a2), .inl (.int (1 : Int32)), .inl (.int (999 : Int32))]) (st' := [.inr (11, 0, 0, 0)]) rfl rfl rfl (Nat.le_of_ble_eq_true rfl) trivial rfl (Nat.le_of_ble_eq_true rfl) (t_240 P1 a2 (1 : Int32) (999 : Int32)) (fun v2 => ?_)
  refine tr_cax (fun _ => none) (zi := km_182) (fun _ => rfl) (fun _ _ => rfl) rfl rfl (z := km_228) (av := [.inr (11, 0, 0, 0), .inl (.int v2)]) (st' := []) rfl rfl rfl (Nat.le_of_ble_eq_true rfl) ⟨rfl, Or.inl (by decide)⟩ rfl (Nat.le_of_ble_eq_true rfl) (t_228 v2 P1) (fun _ P3 => ?_)
  refine tr_blk 4 (pc' := 22) (rows' := kb_182_0.drop 13) (loc' := [.inr (11, 0, 0, 0), .inl (.int a1), .inl (.int a2), .inl (.int (0 : Int32)), .inl (.int (0 : Int32))]) (st' := []) (P1 := P3) rfl ⟨trivial, trivial, trivial, trivial, trivial⟩ ?_
  exact t_182_22 N N a1 a2 (0 : Int32) (0 : Int32) P3
def f_72_1 (N : Nat) (a1 : Int32) (a2 : Int32) (P : ab_P) : Option (Int32 × ab_P) :=
    ab_h2 (f_182 N a1 a2 P) (fun v2 P1 =>
    ab_lt (ab_pL P1 570 0 (v2).toInt64) fun P3 =>
    some ((0 : Int32), P3))
    (fun P9 => some ((1 : Int32), P9)) (fun P9 => some ((2 : Int32), P9)) (fun _ => none)
theorem t_72_1 {xs : Nat × (Nat → Int32)} {d : Nat} (N : Nat) : ∀ (a1 : Int32) (a2 : Int32) (P : ab_P), ab_tr xs wI (d + 4) 72 0 [] [.inr (11, 0, 0, 0), .inl (.int a1), .inl (.int a2), .inr (22, 1, 0, 570), ab_top] [] P (f_72_1 N a1 a2 P) := by
  intro a1 a2 P
  unfold f_72_1
  refine tr_nil (rows2 := kb_72_0) rfl (List.cons_ne_nil _ _) ?_
  refine tr_blk 5 (pc' := 5) (rows' := kb_72_0.drop 5) (loc' := [.inr (11, 0, 0, 0), .inl (.int a1), .inl (.int a2), .inr (22, 1, 0, 570), ab_top]) (st' := [.inl (.int a2), .inl (.int a1), .inr (11, 0, 0, 0), .inl (.int (0 : Int32)), .inr (22, 1, 0, 570)]) (P1 := P) rfl ⟨trivial, trivial, trivial, trivial, trivial, trivial⟩ ?_
  refine tr_cah (fun b => some (.inl (.int b))) (zi := km_72) (fun _ => rfl) rfl (z := km_182) (av := [.inr (11, 0, 0, 0), .inl (.int a1), .inl (.int a2)]) (st' := [.inl (.int (0 : Int32)), .inr (22, 1, 0, 570)]) rfl rfl rfl (Nat.le_of_ble_eq_true rfl) ⟨rfl, Or.inl (by decide)⟩ rfl (Nat.le_of_ble_eq_true rfl) (t_182 N a1 a2 P) (fun v2 P1 => ?_) ?_ ?_ ?_
  · refine tr_blk 2 (pc' := 10) (rows' := kb_72_0.drop 8) (loc' := [.inr (11, 0, 0, 0), .inl (.int a1), .inl (.int a2), .inr (22, 1, 0, 570), ab_top]) (st' := []) (P1 := (ab_pL P1 570 0 (v2).toInt64)) rfl ⟨trivial, (ab_vi (by decide)), trivial⟩ ?_
    refine tr_lt (fun P3 => ?_)
    refine tr_goto ?_
    refine tr_nil (rows2 := kb_72_21) rfl (List.cons_ne_nil _ _) ?_
    refine tr_blk 1 (pc' := 22) (rows' := kb_72_21.drop 1) (loc' := [.inr (11, 0, 0, 0), .inl (.int a1), .inl (.int a2), .inr (22, 1, 0, 570), ab_top]) (st' := [.inl (.int (0 : Int32))]) (P1 := P3) rfl ⟨trivial, trivial⟩ ?_
    exact tr_reI (z := km_72) rfl ⟨_, rfl, rfl⟩ rfl
  · exact fun _ => tr_han (rows2 := kb_72_13) (z := km_72) _ (fun q => [.inr (11, 0, 0, 0), .inl (.int a1), .inl (.int a2), .inr (22, 1, 0, 570), .inr (40, 0, 0, q)]) rfl (List.cons_ne_nil _ _) (fun q => rfl) ⟨trivial, trivial, trivial⟩ rfl ⟨_, rfl, rfl⟩ rfl
  · exact fun _ => tr_han (rows2 := kb_72_17) (z := km_72) _ (fun q => [.inr (11, 0, 0, 0), .inl (.int a1), .inl (.int a2), .inr (22, 1, 0, 570), .inr (40, 1, 0, q)]) rfl (List.cons_ne_nil _ _) (fun q => rfl) ⟨trivial, trivial, trivial⟩ rfl ⟨_, rfl, rfl⟩ rfl
  · exact fun _ => rfl
def f_73_59 (N : Nat) : Nat → Int32 → Int32 → Int32 → Int32 → ab_P → Option (Int32 × ab_P)
  | 0, _, _, _, _, _ => none
  | n + 1, x1, x2, x3, x4, P =>
    if x4 < (P.1 76 0) then
      if x4 = x1 then
        f_73_59 N n x1 x2 (x3 ||| (0 : Int32)) (x4 + 1) P
      else
      ab_b2 (f_152_366 477 N x4 x1 x2 P) fun v9 P8 =>
      if (lg_cmp v9 (0 : Int64)) = (0 : Int32) then
        f_73_59 N n x1 x2 (x3 ||| (0 : Int32)) (x4 + 1) P8
      else
      f_73_59 N n x1 x2 (x3 ||| ((1 : Int32) <<< (x4 &&& 31))) (x4 + 1) P8
    else
    some (x3, P)
theorem t_73_59 {xs : Nat × (Nat → Int32)} {d : Nat} (N : Nat) : ∀ n : Nat, ∀ (x1 : Int32) (x2 : Int32) (x3 : Int32) (x4 : Int32) (P : ab_P), ab_tr xs wI (d + 4) 73 59 [] [.inr (12, 0, 0, 72), .inl (.int x1), .inl (.int x2), .inl (.int x3), .inl (.int x4)] [] P (f_73_59 N n x1 x2 x3 x4 P) := by
  intro n
  induction n with
  | zero => intro x1 x2 x3 x4 P; exact tr_no
  | succ n ih =>
    intro x1 x2 x3 x4 P
    refine tr_nil (rows2 := kb_73_59) rfl (List.cons_ne_nil _ _) ?_
    refine tr_blk 5 (pc' := 67) (rows' := kb_73_59.drop 5) (loc' := [.inr (12, 0, 0, 72), .inl (.int x1), .inl (.int x2), .inl (.int x3), .inl (.int x4)]) (st' := [.inl (.int (P.1 76 0)), .inl (.int x4)]) (P1 := P) rfl ⟨trivial, trivial, trivial, trivial, (ab_vi (by decide)), trivial⟩ ?_
    refine tr_if (fun h10 => ?_) (fun h10 => ?_)
    · refine tr_icF (cd := .ge) (Int32.not_le.mpr h10) ?_
      refine tr_blk 3 (pc' := 74) (rows' := kb_73_59.drop 9) (loc' := [.inr (12, 0, 0, 72), .inl (.int x1), .inl (.int x2), .inl (.int x3), .inl (.int x4)]) (st' := [.inl (.int x1), .inl (.int x4), .inl (.int x3)]) (P1 := P) rfl ⟨trivial, trivial, trivial, trivial⟩ ?_
      refine tr_if (fun h11 => ?_) (fun h11 => ?_)
      · refine tr_icT (cd := .eq) h11 ?_
        refine tr_nil (rows2 := kb_73_101) rfl (List.cons_ne_nil _ _) ?_
        refine tr_blk 1 (pc' := 102) (rows' := kb_73_101.drop 1) (loc' := [.inr (12, 0, 0, 72), .inl (.int x1), .inl (.int x2), .inl (.int x3), .inl (.int x4)]) (st' := [.inl (.int (0 : Int32)), .inl (.int x3)]) (P1 := P) rfl ⟨trivial, trivial⟩ ?_
        refine tr_nil (rows2 := kb_73_102) rfl (List.cons_ne_nil _ _) ?_
        refine tr_blk 3 (pc' := 107) (rows' := kb_73_102.drop 3) (loc' := [.inr (12, 0, 0, 72), .inl (.int x1), .inl (.int x2), .inl (.int (x3 ||| (0 : Int32))), .inl (.int (x4 + 1))]) (st' := []) (P1 := P) rfl ⟨trivial, trivial, trivial, trivial⟩ ?_
        refine tr_goto ?_
        exact ih x1 x2 (x3 ||| (0 : Int32)) (x4 + 1) P
      · refine tr_icF (cd := .eq) h11 ?_
        refine tr_blk 6 (pc' := 86) (rows' := kb_73_59.drop 16) (loc' := [.inr (12, 0, 0, 72), .inl (.int x1), .inl (.int x2), .inl (.int x3), .inl (.int x4)]) (st' := [.inl (.int x2), .inl (.int x1), .inl (.int x4), .inr (20, 366, 0, 477), .inr (12, 0, 0, 72), .inl (.int x3)]) (P1 := P) rfl ⟨trivial, trivial, trivial, trivial, trivial, trivial, trivial⟩ ?_
        refine tr_cWL (z := km_152) (av := [.inr (12, 0, 0, 72), .inr (20, 366, 0, 477), .inl (.int x4), .inl (.int x1), .inl (.int x2)]) (st' := [.inl (.int x3)]) rfl rfl rfl (Nat.le_of_ble_eq_true rfl) ⟨rfl, Or.inl (by decide)⟩ rfl (Nat.le_of_ble_eq_true rfl) (t_152_366 477 N x4 x1 x2 P) (fun v9 P8 => ?_)
        refine tr_blk 2 (pc' := 91) (rows' := kb_73_59.drop 19) (loc' := [.inr (12, 0, 0, 72), .inl (.int x1), .inl (.int x2), .inl (.int x3), .inl (.int x4)]) (st' := [.inl (.int (lg_cmp v9 (0 : Int64))), .inl (.int x3)]) (P1 := P8) rfl ⟨trivial, trivial, trivial⟩ ?_
        refine tr_if (fun h12 => ?_) (fun h12 => ?_)
        · refine tr_ifT (cd := .eq) h12 ?_
          refine tr_nil (rows2 := kb_73_101) rfl (List.cons_ne_nil _ _) ?_
          refine tr_blk 1 (pc' := 102) (rows' := kb_73_101.drop 1) (loc' := [.inr (12, 0, 0, 72), .inl (.int x1), .inl (.int x2), .inl (.int x3), .inl (.int x4)]) (st' := [.inl (.int (0 : Int32)), .inl (.int x3)]) (P1 := P8) rfl ⟨trivial, trivial⟩ ?_
          refine tr_nil (rows2 := kb_73_102) rfl (List.cons_ne_nil _ _) ?_
          refine tr_blk 3 (pc' := 107) (rows' := kb_73_102.drop 3) (loc' := [.inr (12, 0, 0, 72), .inl (.int x1), .inl (.int x2), .inl (.int (x3 ||| (0 : Int32))), .inl (.int (x4 + 1))]) (st' := []) (P1 := P8) rfl ⟨trivial, trivial, trivial, trivial⟩ ?_
          refine tr_goto ?_
          exact ih x1 x2 (x3 ||| (0 : Int32)) (x4 + 1) P8
        · refine tr_ifF (cd := .eq) h12 ?_
          refine tr_blk 3 (pc' := 98) (rows' := kb_73_59.drop 23) (loc' := [.inr (12, 0, 0, 72), .inl (.int x1), .inl (.int x2), .inl (.int x3), .inl (.int x4)]) (st' := [.inl (.int ((1 : Int32) <<< (x4 &&& 31))), .inl (.int x3)]) (P1 := P8) rfl ⟨trivial, trivial, trivial, trivial⟩ ?_
          refine tr_goto ?_
          refine tr_nil (rows2 := kb_73_102) rfl (List.cons_ne_nil _ _) ?_
          refine tr_blk 3 (pc' := 107) (rows' := kb_73_102.drop 3) (loc' := [.inr (12, 0, 0, 72), .inl (.int x1), .inl (.int x2), .inl (.int (x3 ||| ((1 : Int32) <<< (x4 &&& 31)))), .inl (.int (x4 + 1))]) (st' := []) (P1 := P8) rfl ⟨trivial, trivial, trivial, trivial⟩ ?_
          refine tr_goto ?_
          exact ih x1 x2 (x3 ||| ((1 : Int32) <<< (x4 &&& 31))) (x4 + 1) P8
    · refine tr_icT (cd := .ge) (Int32.not_lt.mp h10) ?_
      refine tr_nil (rows2 := kb_73_110) rfl (List.cons_ne_nil _ _) ?_
      refine tr_blk 1 (pc' := 111) (rows' := kb_73_110.drop 1) (loc' := [.inr (12, 0, 0, 72), .inl (.int x1), .inl (.int x2), .inl (.int x3), .inl (.int x4)]) (st' := [.inl (.int x3)]) (P1 := P) rfl ⟨trivial, trivial⟩ ?_
      exact tr_reI (z := km_73) rfl ⟨_, rfl, rfl⟩ rfl
def f_73_44 (N : Nat) (x1 : Int32) (x2 : Int32) (s0 : Int32) (P : ab_P) : Option (Int32 × ab_P) :=
    ab_b2 (f_113 s0 (2 : Int32) (1 : Int32) P) fun v7 P6 =>
    if v7 = (0 : Int32) then
      f_73_59 N N x1 x2 (0 : Int32) (0 : Int32) P6
    else
    some ((0 : Int32), P6)
theorem t_73_44 {xs : Nat × (Nat → Int32)} {d : Nat} (N : Nat) : ∀ (x1 : Int32) (x2 : Int32) (s0 : Int32) (P : ab_P), ab_tr xs wI (d + 4) 73 44 [] [.inr (12, 0, 0, 72), .inl (.int x1), .inl (.int x2), ab_top, ab_top] [.inl (.int s0), .inr (12, 0, 0, 72)] P (f_73_44 N x1 x2 s0 P) := by
  intro x1 x2 s0 P
  unfold f_73_44
  refine tr_nil (rows2 := kb_73_44) rfl (List.cons_ne_nil _ _) ?_
  refine tr_blk 2 (pc' := 46) (rows' := kb_73_44.drop 2) (loc' := [.inr (12, 0, 0, 72), .inl (.int x1), .inl (.int x2), ab_top, ab_top]) (st' := [.inl (.int (1 : Int32)), .inl (.int (2 : Int32)), .inl (.int s0), .inr (12, 0, 0, 72)]) (P1 := P) rfl ⟨trivial, trivial, trivial⟩ ?_
  refine tr_cWI (z := km_113) (av := [.inr (12, 0, 0, 72), .inl (.int s0), .inl (.int (2 : Int32)), .inl (.int (1 : Int32))]) (st' := []) rfl rfl rfl (Nat.le_of_ble_eq_true rfl) ⟨rfl, Or.inl (by decide)⟩ rfl (Nat.le_of_ble_eq_true rfl) (t_113 s0 (2 : Int32) (1 : Int32) P) (fun v7 P6 => ?_)
  refine tr_if (fun h13 => ?_) (fun h13 => ?_)
  · refine tr_ifT (cd := .eq) h13 ?_
    refine tr_nil (rows2 := kb_73_54) rfl (List.cons_ne_nil _ _) ?_
    refine tr_blk 4 (pc' := 59) (rows' := kb_73_54.drop 4) (loc' := [.inr (12, 0, 0, 72), .inl (.int x1), .inl (.int x2), .inl (.int (0 : Int32)), .inl (.int (0 : Int32))]) (st' := []) (P1 := P6) rfl ⟨trivial, trivial, trivial, trivial, trivial⟩ ?_
    exact t_73_59 N N x1 x2 (0 : Int32) (0 : Int32) P6
  · refine tr_ifF (cd := .eq) h13 ?_
    refine tr_nil (rows2 := kb_73_52) rfl (List.cons_ne_nil _ _) ?_
    refine tr_blk 1 (pc' := 53) (rows' := kb_73_52.drop 1) (loc' := [.inr (12, 0, 0, 72), .inl (.int x1), .inl (.int x2), ab_top, ab_top]) (st' := [.inl (.int (0 : Int32))]) (P1 := P6) rfl ⟨trivial, trivial⟩ ?_
    exact tr_reI (z := km_73) rfl ⟨_, rfl, rfl⟩ rfl
def f_73_19 (N : Nat) (x1 : Int32) (x2 : Int32) (s0 : Int32) (P : ab_P) : Option (Int32 × ab_P) :=
    ab_b2 (f_113 s0 (1 : Int32) (0 : Int32) P) fun v4 P3 =>
    if v4 = (0 : Int32) then
      Option.bind (f_112 P3 x2 (1 : Int32) (999 : Int32)) fun v5 =>
      if v5 = (0 : Int32) then
        f_73_44 N x1 x2 (1 : Int32) P3
      else
      f_73_44 N x1 x2 (0 : Int32) P3
    else
    some ((0 : Int32), P3)
theorem t_73_19 {xs : Nat × (Nat → Int32)} {d : Nat} (N : Nat) : ∀ (x1 : Int32) (x2 : Int32) (s0 : Int32) (P : ab_P), ab_tr xs wI (d + 4) 73 19 [] [.inr (12, 0, 0, 72), .inl (.int x1), .inl (.int x2), ab_top, ab_top] [.inl (.int s0), .inr (12, 0, 0, 72)] P (f_73_19 N x1 x2 s0 P) := by
  intro x1 x2 s0 P
  unfold f_73_19
  refine tr_nil (rows2 := kb_73_19) rfl (List.cons_ne_nil _ _) ?_
  refine tr_blk 2 (pc' := 21) (rows' := kb_73_19.drop 2) (loc' := [.inr (12, 0, 0, 72), .inl (.int x1), .inl (.int x2), ab_top, ab_top]) (st' := [.inl (.int (0 : Int32)), .inl (.int (1 : Int32)), .inl (.int s0), .inr (12, 0, 0, 72)]) (P1 := P) rfl ⟨trivial, trivial, trivial⟩ ?_
  refine tr_cWI (z := km_113) (av := [.inr (12, 0, 0, 72), .inl (.int s0), .inl (.int (1 : Int32)), .inl (.int (0 : Int32))]) (st' := []) rfl rfl rfl (Nat.le_of_ble_eq_true rfl) ⟨rfl, Or.inl (by decide)⟩ rfl (Nat.le_of_ble_eq_true rfl) (t_113 s0 (1 : Int32) (0 : Int32) P) (fun v4 P3 => ?_)
  refine tr_if (fun h14 => ?_) (fun h14 => ?_)
  · refine tr_ifF (cd := .ne) (fun q => q h14) ?_
    refine tr_blk 4 (pc' := 33) (rows' := kb_73_19.drop 8) (loc' := [.inr (12, 0, 0, 72), .inl (.int x1), .inl (.int x2), ab_top, ab_top]) (st' := [.inl (.int (999 : Int32)), .inl (.int (1 : Int32)), .inl (.int x2), .inr (12, 0, 0, 72)]) (P1 := P3) rfl ⟨trivial, trivial, trivial, trivial, trivial⟩ ?_
    refine tr_cRI (z := km_112) (av := [.inl (.int x2), .inl (.int (1 : Int32)), .inl (.int (999 : Int32))]) (st' := [.inr (12, 0, 0, 72)]) rfl rfl rfl (Nat.le_of_ble_eq_true rfl) trivial rfl (Nat.le_of_ble_eq_true rfl) (t_112 P3 x2 (1 : Int32) (999 : Int32)) (fun v5 => ?_)
    refine tr_if (fun h15 => ?_) (fun h15 => ?_)
    · refine tr_ifF (cd := .ne) (fun q => q h15) ?_
      refine tr_blk 1 (pc' := 40) (rows' := kb_73_19.drop 11) (loc' := [.inr (12, 0, 0, 72), .inl (.int x1), .inl (.int x2), ab_top, ab_top]) (st' := [.inl (.int (1 : Int32)), .inr (12, 0, 0, 72)]) (P1 := P3) rfl ⟨trivial, trivial⟩ ?_
      refine tr_goto ?_
      exact t_73_44 N x1 x2 (1 : Int32) P3
    · refine tr_ifT (cd := .ne) h15 ?_
      refine tr_nil (rows2 := kb_73_43) rfl (List.cons_ne_nil _ _) ?_
      refine tr_blk 1 (pc' := 44) (rows' := kb_73_43.drop 1) (loc' := [.inr (12, 0, 0, 72), .inl (.int x1), .inl (.int x2), ab_top, ab_top]) (st' := [.inl (.int (0 : Int32)), .inr (12, 0, 0, 72)]) (P1 := P3) rfl ⟨trivial, trivial⟩ ?_
      exact t_73_44 N x1 x2 (0 : Int32) P3
  · refine tr_ifT (cd := .ne) h14 ?_
    refine tr_nil (rows2 := kb_73_52) rfl (List.cons_ne_nil _ _) ?_
    refine tr_blk 1 (pc' := 53) (rows' := kb_73_52.drop 1) (loc' := [.inr (12, 0, 0, 72), .inl (.int x1), .inl (.int x2), ab_top, ab_top]) (st' := [.inl (.int (0 : Int32))]) (P1 := P3) rfl ⟨trivial, trivial⟩ ?_
    exact tr_reI (z := km_73) rfl ⟨_, rfl, rfl⟩ rfl
def f_73 (N : Nat) (a1 : Int32) (a2 : Int32) (P : ab_P) : Option (Int32 × ab_P) :=
    ab_lt (ab_pI P 72 0 (0 : Int32)) fun P1 =>
    Option.bind (f_137 P1 a1) fun v2 =>
    if v2 = (0 : Int32) then
      f_73_19 N a1 a2 (1 : Int32) P1
    else
    f_73_19 N a1 a2 (0 : Int32) P1
theorem t_73 {xs : Nat × (Nat → Int32)} {d : Nat} (N : Nat) : ∀ (a1 : Int32) (a2 : Int32) (P : ab_P), ab_tr xs wI (d + 4) 73 0 [] [.inr (12, 0, 0, 72), .inl (.int a1), .inl (.int a2), ab_top, ab_top] [] P (f_73 N a1 a2 P) := by
  intro a1 a2 P
  unfold f_73
  refine tr_nil (rows2 := kb_73_0) rfl (List.cons_ne_nil _ _) ?_
  refine tr_blk 3 (pc' := 5) (rows' := kb_73_0.drop 3) (loc' := [.inr (12, 0, 0, 72), .inl (.int a1), .inl (.int a2), ab_top, ab_top]) (st' := []) (P1 := (ab_pI P 72 0 (0 : Int32))) rfl ⟨trivial, trivial, trivial, trivial⟩ ?_
  refine tr_lt (fun P1 => ?_)
  refine tr_blk 3 (pc' := 8) (rows' := kb_73_0.drop 6) (loc' := [.inr (12, 0, 0, 72), .inl (.int a1), .inl (.int a2), ab_top, ab_top]) (st' := [.inl (.int a1), .inr (12, 0, 0, 72), .inr (12, 0, 0, 72)]) (P1 := P1) rfl ⟨trivial, trivial, trivial, trivial⟩ ?_
  refine tr_cRI (z := km_137) (av := [.inr (12, 0, 0, 72), .inl (.int a1)]) (st' := [.inr (12, 0, 0, 72)]) rfl rfl rfl (Nat.le_of_ble_eq_true rfl) ⟨rfl, Or.inl (by decide)⟩ rfl (Nat.le_of_ble_eq_true rfl) (t_137 P1 a1) (fun v2 => ?_)
  refine tr_if (fun h16 => ?_) (fun h16 => ?_)
  · refine tr_ifF (cd := .ne) (fun q => q h16) ?_
    refine tr_blk 1 (pc' := 15) (rows' := kb_73_0.drop 9) (loc' := [.inr (12, 0, 0, 72), .inl (.int a1), .inl (.int a2), ab_top, ab_top]) (st' := [.inl (.int (1 : Int32)), .inr (12, 0, 0, 72)]) (P1 := P1) rfl ⟨trivial, trivial⟩ ?_
    refine tr_goto ?_
    exact t_73_19 N a1 a2 (1 : Int32) P1
  · refine tr_ifT (cd := .ne) h16 ?_
    refine tr_nil (rows2 := kb_73_18) rfl (List.cons_ne_nil _ _) ?_
    refine tr_blk 1 (pc' := 19) (rows' := kb_73_18.drop 1) (loc' := [.inr (12, 0, 0, 72), .inl (.int a1), .inl (.int a2), ab_top, ab_top]) (st' := [.inl (.int (0 : Int32)), .inr (12, 0, 0, 72)]) (P1 := P1) rfl ⟨trivial, trivial⟩ ?_
    exact t_73_19 N a1 a2 (0 : Int32) P1
def f_269_8 : Nat → Int32 → ab_P → Option (Int32 × ab_P)
  | 0, _, _ => none
  | n + 1, x3, P =>
    if (0 : Int32) < x3 then
      Option.bind (f_302 P x3) fun v3 =>
      if v3 = (0 : Int32) then
        f_269_8 n (x3 + (-1)) P
      else
      some (x3, P)
    else
    some ((0 : Int32), P)
theorem t_269_8 {xs : Nat × (Nat → Int32)} {d : Nat} : ∀ n : Nat, ∀ (x3 : Int32) (d1 : Int32) (d2 : Int32) (P : ab_P), ab_tr xs wI (d + 3) 269 8 [] [.inr (8, 0, 0, 49), .inl (.int d1), .inl (.int d2), .inl (.int x3)] [] P (f_269_8 n x3 P) := by
  intro n
  induction n with
  | zero => intro x3 d1 d2 P; exact tr_no
  | succ n ih =>
    intro x3 d1 d2 P
    refine tr_nil (rows2 := kb_269_8) rfl (List.cons_ne_nil _ _) ?_
    refine tr_blk 1 (pc' := 9) (rows' := kb_269_8.drop 1) (loc' := [.inr (8, 0, 0, 49), .inl (.int d1), .inl (.int d2), .inl (.int x3)]) (st' := [.inl (.int x3)]) (P1 := P) rfl ⟨trivial, trivial⟩ ?_
    refine tr_if (fun h4 => ?_) (fun h4 => ?_)
    · refine tr_ifF (cd := .le) (Int32.not_le.mpr h4) ?_
      refine tr_blk 2 (pc' := 14) (rows' := kb_269_8.drop 4) (loc' := [.inr (8, 0, 0, 49), .inl (.int d1), .inl (.int d2), .inl (.int x3)]) (st' := [.inl (.int x3), .inr (8, 0, 0, 49)]) (P1 := P) rfl ⟨trivial, trivial, trivial⟩ ?_
      refine tr_cRI (z := km_302) (av := [.inr (8, 0, 0, 49), .inl (.int x3)]) (st' := []) rfl rfl rfl (Nat.le_of_ble_eq_true rfl) ⟨rfl, Or.inl (by decide)⟩ rfl (Nat.le_of_ble_eq_true rfl) (t_302 P x3) (fun v3 => ?_)
      refine tr_if (fun h5 => ?_) (fun h5 => ?_)
      · refine tr_ifT (cd := .eq) h5 ?_
        refine tr_nil (rows2 := kb_269_22) rfl (List.cons_ne_nil _ _) ?_
        refine tr_blk 1 (pc' := 25) (rows' := kb_269_22.drop 1) (loc' := [.inr (8, 0, 0, 49), .inl (.int d1), .inl (.int d2), .inl (.int (x3 + (-1)))]) (st' := []) (P1 := P) rfl ⟨trivial, trivial⟩ ?_
        refine tr_goto ?_
        exact ih (x3 + (-1)) (d1) (d2) P
      · refine tr_ifF (cd := .eq) h5 ?_
        refine tr_blk 1 (pc' := 21) (rows' := kb_269_8.drop 7) (loc' := [.inr (8, 0, 0, 49), .inl (.int d1), .inl (.int d2), .inl (.int x3)]) (st' := [.inl (.int x3)]) (P1 := P) rfl ⟨trivial, trivial⟩ ?_
        exact tr_reI (z := km_269) rfl ⟨_, rfl, rfl⟩ rfl
    · refine tr_ifT (cd := .le) (Int32.not_lt.mp h4) ?_
      refine tr_nil (rows2 := kb_269_28) rfl (List.cons_ne_nil _ _) ?_
      refine tr_blk 1 (pc' := 29) (rows' := kb_269_28.drop 1) (loc' := [.inr (8, 0, 0, 49), .inl (.int d1), .inl (.int d2), .inl (.int x3)]) (st' := [.inl (.int (0 : Int32))]) (P1 := P) rfl ⟨trivial, trivial⟩ ?_
      exact tr_reI (z := km_269) rfl ⟨_, rfl, rfl⟩ rfl
def f_269 (N : Nat) (a1 : Int32) (a2 : Int32) (P : ab_P) : Option (Int32 × ab_P) :=
    ab_b2 (f_301 N a1 P) fun v2 P1 =>
    f_269_8 N a2 P1
theorem t_269 {xs : Nat × (Nat → Int32)} {d : Nat} (N : Nat) : ∀ (a1 : Int32) (a2 : Int32) (P : ab_P), ab_tr xs wI (d + 3) 269 0 [] [.inr (8, 0, 0, 49), .inl (.int a1), .inl (.int a2), ab_top] [] P (f_269 N a1 a2 P) := by
  intro a1 a2 P
  unfold f_269
  refine tr_nil (rows2 := kb_269_0) rfl (List.cons_ne_nil _ _) ?_
  refine tr_blk 2 (pc' := 2) (rows' := kb_269_0.drop 2) (loc' := [.inr (8, 0, 0, 49), .inl (.int a1), .inl (.int a2), ab_top]) (st' := [.inl (.int a1), .inr (8, 0, 0, 49)]) (P1 := P) rfl ⟨trivial, trivial, trivial⟩ ?_
  refine tr_cWI (z := km_301) (av := [.inr (8, 0, 0, 49), .inl (.int a1)]) (st' := []) rfl rfl rfl (Nat.le_of_ble_eq_true rfl) ⟨rfl, Or.inl (by decide)⟩ rfl (Nat.le_of_ble_eq_true rfl) (t_301 N a1 P) (fun v2 P1 => ?_)
  refine tr_blk 3 (pc' := 8) (rows' := kb_269_0.drop 6) (loc' := [.inr (8, 0, 0, 49), .inl (.int a1), .inl (.int a2), .inl (.int a2)]) (st' := []) (P1 := P1) rfl ⟨trivial, trivial, trivial, trivial⟩ ?_
  exact t_269_8 N a2 (a1) (a2) P1
def f_183 (N : Nat) (a1 : Int32) (a2 : Int32) (P : ab_P) : Option ((Int32 ⊕ Fin 3) × ab_P) :=
    ab_x2 (f_232 a1 P) (fun _ P1 =>
    Option.bind (f_240 P1 a2 (0 : Int32) (9999 : Int32)) fun v2 =>
    ab_x2 (f_228 v2 P1) (fun _ P3 =>
    ab_b2 (f_269 N a1 a2 P3) fun v5 P4 =>
    some (.inl (a2 - v5), P4)) (fun q => q)) (fun q => q)
theorem t_183 {xs : Nat × (Nat → Int32)} {d : Nat} (N : Nat) : ∀ (a1 : Int32) (a2 : Int32) (P : ab_P), ab_tr xs xI (d + 4) 183 0 [] [.inr (11, 0, 0, 0), .inl (.int a1), .inl (.int a2)] [] P (f_183 N a1 a2 P) := by
  intro a1 a2 P
  unfold f_183
  refine tr_nil (rows2 := kb_183_0) rfl (List.cons_ne_nil _ _) ?_
  refine tr_blk 2 (pc' := 2) (rows' := kb_183_0.drop 2) (loc' := [.inr (11, 0, 0, 0), .inl (.int a1), .inl (.int a2)]) (st' := [.inl (.int a1), .inr (11, 0, 0, 0)]) (P1 := P) rfl ⟨trivial, trivial, trivial⟩ ?_
  refine tr_cax (fun _ => none) (zi := km_183) (fun _ => rfl) (fun _ _ => rfl) rfl rfl (z := km_232) (av := [.inr (11, 0, 0, 0), .inl (.int a1)]) (st' := []) rfl rfl rfl (Nat.le_of_ble_eq_true rfl) ⟨rfl, Or.inl (by decide)⟩ rfl (Nat.le_of_ble_eq_true rfl) (t_232 a1 P) (fun _ P1 => ?_)
  refine tr_blk 4 (pc' := 11) (rows' := kb_183_0.drop 7) (loc' := [.inr (11, 0, 0, 0), .inl (.int a1), .inl (.int a2)]) (st' := [.inl (.int (9999 : Int32)), .inl (.int (0 : Int32)), .inl (.int a2), .inr (11, 0, 0, 0)]) (P1 := P1) rfl ⟨trivial, trivial, trivial, trivial, trivial⟩ ?_
  refine tr_cRI (z := km_240) (av := [.inl (.int a2), .inl (.int (0 : Int32)), .inl (.int (9999 : Int32))]) (st' := [.inr (11, 0, 0, 0)]) rfl rfl rfl (Nat.le_of_ble_eq_true rfl) trivial rfl (Nat.le_of_ble_eq_true rfl) (t_240 P1 a2 (0 : Int32) (9999 : Int32)) (fun v2 => ?_)
  refine tr_cax (fun _ => none) (zi := km_183) (fun _ => rfl) (fun _ _ => rfl) rfl rfl (z := km_228) (av := [.inr (11, 0, 0, 0), .inl (.int v2)]) (st' := []) rfl rfl rfl (Nat.le_of_ble_eq_true rfl) ⟨rfl, Or.inl (by decide)⟩ rfl (Nat.le_of_ble_eq_true rfl) (t_228 v2 P1) (fun _ P3 => ?_)
  refine tr_blk 5 (pc' := 24) (rows' := kb_183_0.drop 14) (loc' := [.inr (11, 0, 0, 0), .inl (.int a1), .inl (.int a2)]) (st' := [.inl (.int a2), .inl (.int a1), .inr (8, 0, 0, 49), .inl (.int a2)]) (P1 := P3) rfl ⟨trivial, trivial, trivial, trivial, trivial, trivial⟩ ?_
  refine tr_cWI (z := km_269) (av := [.inr (8, 0, 0, 49), .inl (.int a1), .inl (.int a2)]) (st' := [.inl (.int a2)]) rfl rfl rfl (Nat.le_of_ble_eq_true rfl) ⟨rfl, Or.inl (by decide)⟩ rfl (Nat.le_of_ble_eq_true rfl) (t_269 N a1 a2 P3) (fun v5 P4 => ?_)
  refine tr_blk 1 (pc' := 28) (rows' := kb_183_0.drop 16) (loc' := [.inr (11, 0, 0, 0), .inl (.int a1), .inl (.int a2)]) (st' := [.inl (.int (a2 - v5))]) (P1 := P4) rfl ⟨trivial, trivial⟩ ?_
  exact tr_reI (z := km_183) rfl ⟨_, rfl, rfl⟩ rfl
def f_74_1 (N : Nat) (a1 : Int32) (a2 : Int32) (P : ab_P) : Option (Int32 × ab_P) :=
    ab_h2 (f_183 N a1 a2 P) (fun v2 P1 =>
    ab_lt (ab_pL P1 570 0 (v2).toInt64) fun P3 =>
    some ((0 : Int32), P3))
    (fun P9 => some ((1 : Int32), P9)) (fun P9 => some ((2 : Int32), P9)) (fun _ => none)
theorem t_74_1 {xs : Nat × (Nat → Int32)} {d : Nat} (N : Nat) : ∀ (a1 : Int32) (a2 : Int32) (P : ab_P), ab_tr xs wI (d + 5) 74 0 [] [.inr (11, 0, 0, 0), .inl (.int a1), .inl (.int a2), .inr (22, 1, 0, 570), ab_top] [] P (f_74_1 N a1 a2 P) := by
  intro a1 a2 P
  unfold f_74_1
  refine tr_nil (rows2 := kb_74_0) rfl (List.cons_ne_nil _ _) ?_
  refine tr_blk 5 (pc' := 5) (rows' := kb_74_0.drop 5) (loc' := [.inr (11, 0, 0, 0), .inl (.int a1), .inl (.int a2), .inr (22, 1, 0, 570), ab_top]) (st' := [.inl (.int a2), .inl (.int a1), .inr (11, 0, 0, 0), .inl (.int (0 : Int32)), .inr (22, 1, 0, 570)]) (P1 := P) rfl ⟨trivial, trivial, trivial, trivial, trivial, trivial⟩ ?_
  refine tr_cah (fun b => some (.inl (.int b))) (zi := km_74) (fun _ => rfl) rfl (z := km_183) (av := [.inr (11, 0, 0, 0), .inl (.int a1), .inl (.int a2)]) (st' := [.inl (.int (0 : Int32)), .inr (22, 1, 0, 570)]) rfl rfl rfl (Nat.le_of_ble_eq_true rfl) ⟨rfl, Or.inl (by decide)⟩ rfl (Nat.le_of_ble_eq_true rfl) (t_183 N a1 a2 P) (fun v2 P1 => ?_) ?_ ?_ ?_
  · refine tr_blk 2 (pc' := 10) (rows' := kb_74_0.drop 8) (loc' := [.inr (11, 0, 0, 0), .inl (.int a1), .inl (.int a2), .inr (22, 1, 0, 570), ab_top]) (st' := []) (P1 := (ab_pL P1 570 0 (v2).toInt64)) rfl ⟨trivial, (ab_vi (by decide)), trivial⟩ ?_
    refine tr_lt (fun P3 => ?_)
    refine tr_goto ?_
    refine tr_nil (rows2 := kb_74_21) rfl (List.cons_ne_nil _ _) ?_
    refine tr_blk 1 (pc' := 22) (rows' := kb_74_21.drop 1) (loc' := [.inr (11, 0, 0, 0), .inl (.int a1), .inl (.int a2), .inr (22, 1, 0, 570), ab_top]) (st' := [.inl (.int (0 : Int32))]) (P1 := P3) rfl ⟨trivial, trivial⟩ ?_
    exact tr_reI (z := km_74) rfl ⟨_, rfl, rfl⟩ rfl
  · exact fun _ => tr_han (rows2 := kb_74_13) (z := km_74) _ (fun q => [.inr (11, 0, 0, 0), .inl (.int a1), .inl (.int a2), .inr (22, 1, 0, 570), .inr (40, 0, 0, q)]) rfl (List.cons_ne_nil _ _) (fun q => rfl) ⟨trivial, trivial, trivial⟩ rfl ⟨_, rfl, rfl⟩ rfl
  · exact fun _ => tr_han (rows2 := kb_74_17) (z := km_74) _ (fun q => [.inr (11, 0, 0, 0), .inl (.int a1), .inl (.int a2), .inr (22, 1, 0, 570), .inr (40, 1, 0, q)]) rfl (List.cons_ne_nil _ _) (fun q => rfl) ⟨trivial, trivial, trivial⟩ rfl ⟨_, rfl, rfl⟩ rfl
  · exact fun _ => rfl
def f_75_61 : Nat → Int32 → Int32 → ab_P → Option (Int32 × ab_P)
  | 0, _, _, _ => none
  | n + 1, x2, x3, P =>
    if ab_gi x3 20000 then
    if (P.1 546 x3.toNatClampNeg) = (0 : Int32) then
      f_75_61 n x2 (x3 + (-1)) P
    else
    some ((x2 - x3), P)
    else none
theorem t_75_61 {xs : Nat × (Nat → Int32)} {d : Nat} : ∀ n : Nat, ∀ (x2 : Int32) (x3 : Int32) (d1 : Int32) (P : ab_P), ab_tr xs wI (d + 3) 75 61 [] [.inr (12, 0, 0, 72), .inl (.int d1), .inl (.int x2), .inl (.int x3)] [] P (f_75_61 n x2 x3 P) := by
  intro n
  induction n with
  | zero => intro x2 x3 d1 P; exact tr_no
  | succ n ih =>
    intro x2 x3 d1 P
    refine tr_nil (rows2 := kb_75_61) rfl (List.cons_ne_nil _ _) ?_
    refine tr_gd (fun h9 => ?_)
    refine tr_blk 4 (pc' := 67) (rows' := kb_75_61.drop 4) (loc' := [.inr (12, 0, 0, 72), .inl (.int d1), .inl (.int x2), .inl (.int x3)]) (st' := [.inl (.int (P.1 546 x3.toNatClampNeg))]) (P1 := P) rfl ⟨trivial, trivial, trivial, h9, trivial⟩ ?_
    refine tr_if (fun h10 => ?_) (fun h10 => ?_)
    · refine tr_ifF (cd := .ne) (fun q => q h10) ?_
      refine tr_blk 1 (pc' := 73) (rows' := kb_75_61.drop 6) (loc' := [.inr (12, 0, 0, 72), .inl (.int d1), .inl (.int x2), .inl (.int (x3 + (-1)))]) (st' := []) (P1 := P) rfl ⟨trivial, trivial⟩ ?_
      refine tr_goto ?_
      exact ih x2 (x3 + (-1)) (d1) P
    · refine tr_ifT (cd := .ne) h10 ?_
      refine tr_nil (rows2 := kb_75_76) rfl (List.cons_ne_nil _ _) ?_
      refine tr_blk 3 (pc' := 79) (rows' := kb_75_76.drop 3) (loc' := [.inr (12, 0, 0, 72), .inl (.int d1), .inl (.int x2), .inl (.int x3)]) (st' := [.inl (.int (x2 - x3))]) (P1 := P) rfl ⟨trivial, trivial, trivial, trivial⟩ ?_
      exact tr_reI (z := km_75) rfl ⟨_, rfl, rfl⟩ rfl
def f_75_44 (N : Nat) (x1 : Int32) (x2 : Int32) (s0 : Int32) (P : ab_P) : Option (Int32 × ab_P) :=
    ab_b2 (f_113 s0 (2 : Int32) (1 : Int32) P) fun v7 P6 =>
    if v7 = (0 : Int32) then
      Option.bind (f_154 N x1 P6) fun P8 =>
      f_75_61 N x2 x2 P8
    else
    some ((0 : Int32), P6)
theorem t_75_44 {xs : Nat × (Nat → Int32)} {d : Nat} (N : Nat) : ∀ (x1 : Int32) (x2 : Int32) (s0 : Int32) (P : ab_P), ab_tr xs wI (d + 3) 75 44 [] [.inr (12, 0, 0, 72), .inl (.int x1), .inl (.int x2), ab_top] [.inl (.int s0), .inr (12, 0, 0, 72)] P (f_75_44 N x1 x2 s0 P) := by
  intro x1 x2 s0 P
  unfold f_75_44
  refine tr_nil (rows2 := kb_75_44) rfl (List.cons_ne_nil _ _) ?_
  refine tr_blk 2 (pc' := 46) (rows' := kb_75_44.drop 2) (loc' := [.inr (12, 0, 0, 72), .inl (.int x1), .inl (.int x2), ab_top]) (st' := [.inl (.int (1 : Int32)), .inl (.int (2 : Int32)), .inl (.int s0), .inr (12, 0, 0, 72)]) (P1 := P) rfl ⟨trivial, trivial, trivial⟩ ?_
  refine tr_cWI (z := km_113) (av := [.inr (12, 0, 0, 72), .inl (.int s0), .inl (.int (2 : Int32)), .inl (.int (1 : Int32))]) (st' := []) rfl rfl rfl (Nat.le_of_ble_eq_true rfl) ⟨rfl, Or.inl (by decide)⟩ rfl (Nat.le_of_ble_eq_true rfl) (t_113 s0 (2 : Int32) (1 : Int32) P) (fun v7 P6 => ?_)
  refine tr_if (fun h11 => ?_) (fun h11 => ?_)
  · refine tr_ifT (cd := .eq) h11 ?_
    refine tr_nil (rows2 := kb_75_54) rfl (List.cons_ne_nil _ _) ?_
    refine tr_blk 2 (pc' := 56) (rows' := kb_75_54.drop 2) (loc' := [.inr (12, 0, 0, 72), .inl (.int x1), .inl (.int x2), ab_top]) (st' := [.inl (.int x1), .inr (12, 0, 0, 72)]) (P1 := P6) rfl ⟨trivial, trivial, trivial⟩ ?_
    refine tr_cWV (z := km_154) (av := [.inr (12, 0, 0, 72), .inl (.int x1)]) (st' := []) rfl rfl rfl (Nat.le_of_ble_eq_true rfl) ⟨rfl, Or.inl (by decide)⟩ rfl (Nat.le_of_ble_eq_true rfl) (t_154 N x1 P6) (fun P8 => ?_)
    refine tr_blk 2 (pc' := 61) (rows' := kb_75_54.drop 5) (loc' := [.inr (12, 0, 0, 72), .inl (.int x1), .inl (.int x2), .inl (.int x2)]) (st' := []) (P1 := P8) rfl ⟨trivial, trivial, trivial⟩ ?_
    exact t_75_61 N x2 x2 (x1) P8
  · refine tr_ifF (cd := .eq) h11 ?_
    refine tr_nil (rows2 := kb_75_52) rfl (List.cons_ne_nil _ _) ?_
    refine tr_blk 1 (pc' := 53) (rows' := kb_75_52.drop 1) (loc' := [.inr (12, 0, 0, 72), .inl (.int x1), .inl (.int x2), ab_top]) (st' := [.inl (.int (0 : Int32))]) (P1 := P6) rfl ⟨trivial, trivial⟩ ?_
    exact tr_reI (z := km_75) rfl ⟨_, rfl, rfl⟩ rfl
def f_75_19 (N : Nat) (x1 : Int32) (x2 : Int32) (s0 : Int32) (P : ab_P) : Option (Int32 × ab_P) :=
    ab_b2 (f_113 s0 (1 : Int32) (0 : Int32) P) fun v4 P3 =>
    if v4 = (0 : Int32) then
      Option.bind (f_112 P3 x2 (0 : Int32) (9999 : Int32)) fun v5 =>
      if v5 = (0 : Int32) then
        f_75_44 N x1 x2 (1 : Int32) P3
      else
      f_75_44 N x1 x2 (0 : Int32) P3
    else
    some ((0 : Int32), P3)
theorem t_75_19 {xs : Nat × (Nat → Int32)} {d : Nat} (N : Nat) : ∀ (x1 : Int32) (x2 : Int32) (s0 : Int32) (P : ab_P), ab_tr xs wI (d + 3) 75 19 [] [.inr (12, 0, 0, 72), .inl (.int x1), .inl (.int x2), ab_top] [.inl (.int s0), .inr (12, 0, 0, 72)] P (f_75_19 N x1 x2 s0 P) := by
  intro x1 x2 s0 P
  unfold f_75_19
  refine tr_nil (rows2 := kb_75_19) rfl (List.cons_ne_nil _ _) ?_
  refine tr_blk 2 (pc' := 21) (rows' := kb_75_19.drop 2) (loc' := [.inr (12, 0, 0, 72), .inl (.int x1), .inl (.int x2), ab_top]) (st' := [.inl (.int (0 : Int32)), .inl (.int (1 : Int32)), .inl (.int s0), .inr (12, 0, 0, 72)]) (P1 := P) rfl ⟨trivial, trivial, trivial⟩ ?_
  refine tr_cWI (z := km_113) (av := [.inr (12, 0, 0, 72), .inl (.int s0), .inl (.int (1 : Int32)), .inl (.int (0 : Int32))]) (st' := []) rfl rfl rfl (Nat.le_of_ble_eq_true rfl) ⟨rfl, Or.inl (by decide)⟩ rfl (Nat.le_of_ble_eq_true rfl) (t_113 s0 (1 : Int32) (0 : Int32) P) (fun v4 P3 => ?_)
  refine tr_if (fun h12 => ?_) (fun h12 => ?_)
  · refine tr_ifF (cd := .ne) (fun q => q h12) ?_
    refine tr_blk 4 (pc' := 33) (rows' := kb_75_19.drop 8) (loc' := [.inr (12, 0, 0, 72), .inl (.int x1), .inl (.int x2), ab_top]) (st' := [.inl (.int (9999 : Int32)), .inl (.int (0 : Int32)), .inl (.int x2), .inr (12, 0, 0, 72)]) (P1 := P3) rfl ⟨trivial, trivial, trivial, trivial, trivial⟩ ?_
    refine tr_cRI (z := km_112) (av := [.inl (.int x2), .inl (.int (0 : Int32)), .inl (.int (9999 : Int32))]) (st' := [.inr (12, 0, 0, 72)]) rfl rfl rfl (Nat.le_of_ble_eq_true rfl) trivial rfl (Nat.le_of_ble_eq_true rfl) (t_112 P3 x2 (0 : Int32) (9999 : Int32)) (fun v5 => ?_)
    refine tr_if (fun h13 => ?_) (fun h13 => ?_)
    · refine tr_ifF (cd := .ne) (fun q => q h13) ?_
      refine tr_blk 1 (pc' := 40) (rows' := kb_75_19.drop 11) (loc' := [.inr (12, 0, 0, 72), .inl (.int x1), .inl (.int x2), ab_top]) (st' := [.inl (.int (1 : Int32)), .inr (12, 0, 0, 72)]) (P1 := P3) rfl ⟨trivial, trivial⟩ ?_
      refine tr_goto ?_
      exact t_75_44 N x1 x2 (1 : Int32) P3
    · refine tr_ifT (cd := .ne) h13 ?_
      refine tr_nil (rows2 := kb_75_43) rfl (List.cons_ne_nil _ _) ?_
      refine tr_blk 1 (pc' := 44) (rows' := kb_75_43.drop 1) (loc' := [.inr (12, 0, 0, 72), .inl (.int x1), .inl (.int x2), ab_top]) (st' := [.inl (.int (0 : Int32)), .inr (12, 0, 0, 72)]) (P1 := P3) rfl ⟨trivial, trivial⟩ ?_
      exact t_75_44 N x1 x2 (0 : Int32) P3
  · refine tr_ifT (cd := .ne) h12 ?_
    refine tr_nil (rows2 := kb_75_52) rfl (List.cons_ne_nil _ _) ?_
    refine tr_blk 1 (pc' := 53) (rows' := kb_75_52.drop 1) (loc' := [.inr (12, 0, 0, 72), .inl (.int x1), .inl (.int x2), ab_top]) (st' := [.inl (.int (0 : Int32))]) (P1 := P3) rfl ⟨trivial, trivial⟩ ?_
    exact tr_reI (z := km_75) rfl ⟨_, rfl, rfl⟩ rfl
def f_75 (N : Nat) (a1 : Int32) (a2 : Int32) (P : ab_P) : Option (Int32 × ab_P) :=
    ab_lt (ab_pI P 72 0 (0 : Int32)) fun P1 =>
    Option.bind (f_137 P1 a1) fun v2 =>
    if v2 = (0 : Int32) then
      f_75_19 N a1 a2 (1 : Int32) P1
    else
    f_75_19 N a1 a2 (0 : Int32) P1
theorem t_75 {xs : Nat × (Nat → Int32)} {d : Nat} (N : Nat) : ∀ (a1 : Int32) (a2 : Int32) (P : ab_P), ab_tr xs wI (d + 3) 75 0 [] [.inr (12, 0, 0, 72), .inl (.int a1), .inl (.int a2), ab_top] [] P (f_75 N a1 a2 P) := by
  intro a1 a2 P
  unfold f_75
  refine tr_nil (rows2 := kb_75_0) rfl (List.cons_ne_nil _ _) ?_
  refine tr_blk 3 (pc' := 5) (rows' := kb_75_0.drop 3) (loc' := [.inr (12, 0, 0, 72), .inl (.int a1), .inl (.int a2), ab_top]) (st' := []) (P1 := (ab_pI P 72 0 (0 : Int32))) rfl ⟨trivial, trivial, trivial, trivial⟩ ?_
  refine tr_lt (fun P1 => ?_)
  refine tr_blk 3 (pc' := 8) (rows' := kb_75_0.drop 6) (loc' := [.inr (12, 0, 0, 72), .inl (.int a1), .inl (.int a2), ab_top]) (st' := [.inl (.int a1), .inr (12, 0, 0, 72), .inr (12, 0, 0, 72)]) (P1 := P1) rfl ⟨trivial, trivial, trivial, trivial⟩ ?_
  refine tr_cRI (z := km_137) (av := [.inr (12, 0, 0, 72), .inl (.int a1)]) (st' := [.inr (12, 0, 0, 72)]) rfl rfl rfl (Nat.le_of_ble_eq_true rfl) ⟨rfl, Or.inl (by decide)⟩ rfl (Nat.le_of_ble_eq_true rfl) (t_137 P1 a1) (fun v2 => ?_)
  refine tr_if (fun h14 => ?_) (fun h14 => ?_)
  · refine tr_ifF (cd := .ne) (fun q => q h14) ?_
    refine tr_blk 1 (pc' := 15) (rows' := kb_75_0.drop 9) (loc' := [.inr (12, 0, 0, 72), .inl (.int a1), .inl (.int a2), ab_top]) (st' := [.inl (.int (1 : Int32)), .inr (12, 0, 0, 72)]) (P1 := P1) rfl ⟨trivial, trivial⟩ ?_
    refine tr_goto ?_
    exact t_75_19 N a1 a2 (1 : Int32) P1
  · refine tr_ifT (cd := .ne) h14 ?_
    refine tr_nil (rows2 := kb_75_18) rfl (List.cons_ne_nil _ _) ?_
    refine tr_blk 1 (pc' := 19) (rows' := kb_75_18.drop 1) (loc' := [.inr (12, 0, 0, 72), .inl (.int a1), .inl (.int a2), ab_top]) (st' := [.inl (.int (0 : Int32)), .inr (12, 0, 0, 72)]) (P1 := P1) rfl ⟨trivial, trivial⟩ ?_
    exact t_75_19 N a1 a2 (0 : Int32) P1
def f_184 (N : Nat) (a1 : Int32) (a2 : Int32) (P : ab_P) : Option ((Int32 ⊕ Fin 3) × ab_P) :=
    ab_x2 (f_230 a1 P) (fun _ P1 =>
    Option.bind (f_240 P1 a2 (0 : Int32) (60 : Int32)) fun v2 =>
    ab_x2 (f_228 v2 P1) (fun _ P3 =>
    Option.bind (f_263 43 P3 a1) fun v4 =>
    if v4 = (0 : Int32) then
      some (.inl (0 : Int32), P3)
    else
    Option.bind (f_264 43 N P3 a1 a2 (P3.1 3 7)) fun v5 =>
    some (.inl v5, P3)) (fun q => q)) (fun q => q)
theorem t_184 {xs : Nat × (Nat → Int32)} {d : Nat} (N : Nat) : ∀ (a1 : Int32) (a2 : Int32) (P : ab_P), ab_tr xs xI (d + 2) 184 0 [] [.inr (11, 0, 0, 0), .inl (.int a1), .inl (.int a2)] [] P (f_184 N a1 a2 P) := by
  intro a1 a2 P
  unfold f_184
  refine tr_nil (rows2 := kb_184_0) rfl (List.cons_ne_nil _ _) ?_
  refine tr_blk 2 (pc' := 2) (rows' := kb_184_0.drop 2) (loc' := [.inr (11, 0, 0, 0), .inl (.int a1), .inl (.int a2)]) (st' := [.inl (.int a1), .inr (11, 0, 0, 0)]) (P1 := P) rfl ⟨trivial, trivial, trivial⟩ ?_
  refine tr_cax (fun _ => none) (zi := km_184) (fun _ => rfl) (fun _ _ => rfl) rfl rfl (z := km_230) (av := [.inr (11, 0, 0, 0), .inl (.int a1)]) (st' := []) rfl rfl rfl (Nat.le_of_ble_eq_true rfl) ⟨rfl, Or.inl (by decide)⟩ rfl (Nat.le_of_ble_eq_true rfl) (t_230 a1 P) (fun _ P1 => ?_)
  refine tr_blk 4 (pc' := 10) (rows' := kb_184_0.drop 7) (loc' := [.inr (11, 0, 0, 0), .inl (.int a1), .inl (.int a2)]) (st' := [.inl (.int (60 : Int32)), .inl (.int (0 : Int32)), .inl (.int a2), .inr (11, 0, 0, 0)]) (P1 := P1) rfl ⟨trivial, trivial, trivial, trivial, trivial⟩ ?_
  refine tr_cRI (z := km_240) (av := [.inl (.int a2), .inl (.int (0 : Int32)), .inl (.int (60 : Int32))]) (st' := [.inr (11, 0, 0, 0)]) rfl rfl rfl (Nat.le_of_ble_eq_true rfl) trivial rfl (Nat.le_of_ble_eq_true rfl) (t_240 P1 a2 (0 : Int32) (60 : Int32)) (fun v2 => ?_)
  refine tr_cax (fun _ => none) (zi := km_184) (fun _ => rfl) (fun _ _ => rfl) rfl rfl (z := km_228) (av := [.inr (11, 0, 0, 0), .inl (.int v2)]) (st' := []) rfl rfl rfl (Nat.le_of_ble_eq_true rfl) ⟨rfl, Or.inl (by decide)⟩ rfl (Nat.le_of_ble_eq_true rfl) (t_228 v2 P1) (fun _ P3 => ?_)
  refine tr_blk 3 (pc' := 21) (rows' := kb_184_0.drop 12) (loc' := [.inr (11, 0, 0, 0), .inl (.int a1), .inl (.int a2)]) (st' := [.inl (.int a1), .inr (6, 0, 0, 43)]) (P1 := P3) rfl ⟨trivial, trivial, trivial, trivial⟩ ?_
  refine tr_cRI (z := km_263) (av := [.inr (6, 0, 0, 43), .inl (.int a1)]) (st' := []) rfl rfl rfl (Nat.le_of_ble_eq_true rfl) ⟨rfl, Or.inl (by decide)⟩ rfl (Nat.le_of_ble_eq_true rfl) (t_263 43 P3 a1) (fun v4 => ?_)
  refine tr_if (fun h6 => ?_) (fun h6 => ?_)
  · refine tr_ifT (cd := .eq) h6 ?_
    refine tr_nil (rows2 := kb_184_46) rfl (List.cons_ne_nil _ _) ?_
    refine tr_blk 1 (pc' := 47) (rows' := kb_184_46.drop 1) (loc' := [.inr (11, 0, 0, 0), .inl (.int a1), .inl (.int a2)]) (st' := [.inl (.int (0 : Int32))]) (P1 := P3) rfl ⟨trivial, trivial⟩ ?_
    refine tr_nil (rows2 := kb_184_47) rfl (List.cons_ne_nil _ _) ?_
    exact tr_reI (z := km_184) rfl ⟨_, rfl, rfl⟩ rfl
  · refine tr_ifF (cd := .eq) h6 ?_
    refine tr_blk 7 (pc' := 40) (rows' := kb_184_0.drop 21) (loc' := [.inr (11, 0, 0, 0), .inl (.int a1), .inl (.int a2)]) (st' := [.inl (.int (P3.1 3 7)), .inl (.int a2), .inl (.int a1), .inr (6, 0, 0, 43)]) (P1 := P3) rfl ⟨trivial, trivial, trivial, trivial, trivial, trivial, trivial, trivial⟩ ?_
    refine tr_cRI (z := km_264) (av := [.inr (6, 0, 0, 43), .inl (.int a1), .inl (.int a2), .inl (.int (P3.1 3 7))]) (st' := []) rfl rfl rfl (Nat.le_of_ble_eq_true rfl) ⟨rfl, Or.inl (by decide)⟩ rfl (Nat.le_of_ble_eq_true rfl) (t_264 43 N P3 a1 a2 (P3.1 3 7)) (fun v5 => ?_)
    refine tr_goto ?_
    refine tr_nil (rows2 := kb_184_47) rfl (List.cons_ne_nil _ _) ?_
    exact tr_reI (z := km_184) rfl ⟨_, rfl, rfl⟩ rfl
def f_76_1 (N : Nat) (a1 : Int32) (a2 : Int32) (P : ab_P) : Option (Int32 × ab_P) :=
    ab_h2 (f_184 N a1 a2 P) (fun v2 P1 =>
    ab_lt (ab_pL P1 570 0 (v2).toInt64) fun P3 =>
    some ((0 : Int32), P3))
    (fun P9 => some ((1 : Int32), P9)) (fun P9 => some ((2 : Int32), P9)) (fun _ => none)
theorem t_76_1 {xs : Nat × (Nat → Int32)} {d : Nat} (N : Nat) : ∀ (a1 : Int32) (a2 : Int32) (P : ab_P), ab_tr xs wI (d + 3) 76 0 [] [.inr (11, 0, 0, 0), .inl (.int a1), .inl (.int a2), .inr (22, 1, 0, 570), ab_top] [] P (f_76_1 N a1 a2 P) := by
  intro a1 a2 P
  unfold f_76_1
  refine tr_nil (rows2 := kb_76_0) rfl (List.cons_ne_nil _ _) ?_
  refine tr_blk 5 (pc' := 5) (rows' := kb_76_0.drop 5) (loc' := [.inr (11, 0, 0, 0), .inl (.int a1), .inl (.int a2), .inr (22, 1, 0, 570), ab_top]) (st' := [.inl (.int a2), .inl (.int a1), .inr (11, 0, 0, 0), .inl (.int (0 : Int32)), .inr (22, 1, 0, 570)]) (P1 := P) rfl ⟨trivial, trivial, trivial, trivial, trivial, trivial⟩ ?_
  refine tr_cah (fun b => some (.inl (.int b))) (zi := km_76) (fun _ => rfl) rfl (z := km_184) (av := [.inr (11, 0, 0, 0), .inl (.int a1), .inl (.int a2)]) (st' := [.inl (.int (0 : Int32)), .inr (22, 1, 0, 570)]) rfl rfl rfl (Nat.le_of_ble_eq_true rfl) ⟨rfl, Or.inl (by decide)⟩ rfl (Nat.le_of_ble_eq_true rfl) (t_184 N a1 a2 P) (fun v2 P1 => ?_) ?_ ?_ ?_
  · refine tr_blk 2 (pc' := 10) (rows' := kb_76_0.drop 8) (loc' := [.inr (11, 0, 0, 0), .inl (.int a1), .inl (.int a2), .inr (22, 1, 0, 570), ab_top]) (st' := []) (P1 := (ab_pL P1 570 0 (v2).toInt64)) rfl ⟨trivial, (ab_vi (by decide)), trivial⟩ ?_
    refine tr_lt (fun P3 => ?_)
    refine tr_goto ?_
    refine tr_nil (rows2 := kb_76_21) rfl (List.cons_ne_nil _ _) ?_
    refine tr_blk 1 (pc' := 22) (rows' := kb_76_21.drop 1) (loc' := [.inr (11, 0, 0, 0), .inl (.int a1), .inl (.int a2), .inr (22, 1, 0, 570), ab_top]) (st' := [.inl (.int (0 : Int32))]) (P1 := P3) rfl ⟨trivial, trivial⟩ ?_
    exact tr_reI (z := km_76) rfl ⟨_, rfl, rfl⟩ rfl
  · exact fun _ => tr_han (rows2 := kb_76_13) (z := km_76) _ (fun q => [.inr (11, 0, 0, 0), .inl (.int a1), .inl (.int a2), .inr (22, 1, 0, 570), .inr (40, 0, 0, q)]) rfl (List.cons_ne_nil _ _) (fun q => rfl) ⟨trivial, trivial, trivial⟩ rfl ⟨_, rfl, rfl⟩ rfl
  · exact fun _ => tr_han (rows2 := kb_76_17) (z := km_76) _ (fun q => [.inr (11, 0, 0, 0), .inl (.int a1), .inl (.int a2), .inr (22, 1, 0, 570), .inr (40, 1, 0, q)]) rfl (List.cons_ne_nil _ _) (fun q => rfl) ⟨trivial, trivial, trivial⟩ rfl ⟨_, rfl, rfl⟩ rfl
  · exact fun _ => rfl
def f_77_53 (N : Nat) (x1 : Int32) (x2 : Int32) (P : ab_P) : Option (Int32 × ab_P) :=
    Option.bind (f_144_366 477 P x1) fun v8 =>
    if v8 = (0 : Int32) then
      some ((0 : Int32), P)
    else
    Option.bind (f_135_366 477 P x1 (2 : Int32)) fun v9 =>
    Option.bind (f_185 N P v9 x2) fun v10 =>
    some (v10, P)
theorem t_77_53 {xs : Nat × (Nat → Int32)} {d : Nat} (N : Nat) : ∀ (x1 : Int32) (x2 : Int32) (P : ab_P), ab_tr xs wI (d + 3) 77 53 [] [.inr (12, 0, 0, 72), .inl (.int x1), .inl (.int x2)] [] P (f_77_53 N x1 x2 P) := by
  intro x1 x2 P
  unfold f_77_53
  refine tr_nil (rows2 := kb_77_53) rfl (List.cons_ne_nil _ _) ?_
  refine tr_blk 3 (pc' := 58) (rows' := kb_77_53.drop 3) (loc' := [.inr (12, 0, 0, 72), .inl (.int x1), .inl (.int x2)]) (st' := [.inl (.int x1), .inr (20, 366, 0, 477)]) (P1 := P) rfl ⟨trivial, trivial, trivial, trivial⟩ ?_
  refine tr_cRI (z := km_144) (av := [.inr (20, 366, 0, 477), .inl (.int x1)]) (st' := []) rfl rfl rfl (Nat.le_of_ble_eq_true rfl) trivial rfl (Nat.le_of_ble_eq_true rfl) (t_144_366 477 P x1) (fun v8 => ?_)
  refine tr_if (fun h11 => ?_) (fun h11 => ?_)
  · refine tr_ifT (cd := .eq) h11 ?_
    refine tr_nil (rows2 := kb_77_81) rfl (List.cons_ne_nil _ _) ?_
    refine tr_blk 1 (pc' := 82) (rows' := kb_77_81.drop 1) (loc' := [.inr (12, 0, 0, 72), .inl (.int x1), .inl (.int x2)]) (st' := [.inl (.int (0 : Int32))]) (P1 := P) rfl ⟨trivial, trivial⟩ ?_
    refine tr_nil (rows2 := kb_77_82) rfl (List.cons_ne_nil _ _) ?_
    exact tr_reI (z := km_77) rfl ⟨_, rfl, rfl⟩ rfl
  · refine tr_ifF (cd := .eq) h11 ?_
    refine tr_blk 5 (pc' := 71) (rows' := kb_77_53.drop 10) (loc' := [.inr (12, 0, 0, 72), .inl (.int x1), .inl (.int x2)]) (st' := [.inl (.int (2 : Int32)), .inl (.int x1), .inr (20, 366, 0, 477), .inr (12, 0, 0, 72)]) (P1 := P) rfl ⟨trivial, trivial, trivial, trivial, trivial, trivial⟩ ?_
    refine tr_cRI (z := km_135) (av := [.inr (20, 366, 0, 477), .inl (.int x1), .inl (.int (2 : Int32))]) (st' := [.inr (12, 0, 0, 72)]) rfl rfl rfl (Nat.le_of_ble_eq_true rfl) trivial rfl (Nat.le_of_ble_eq_true rfl) (t_135_366 477 P x1 (2 : Int32)) (fun v9 => ?_)
    refine tr_blk 1 (pc' := 75) (rows' := kb_77_53.drop 12) (loc' := [.inr (12, 0, 0, 72), .inl (.int x1), .inl (.int x2)]) (st' := [.inl (.int x2), .inl (.int v9), .inr (12, 0, 0, 72)]) (P1 := P) rfl ⟨trivial, trivial⟩ ?_
    refine tr_cRI (z := km_185) (av := [.inr (12, 0, 0, 72), .inl (.int v9), .inl (.int x2)]) (st' := []) rfl rfl rfl (Nat.le_of_ble_eq_true rfl) ⟨rfl, Or.inl (by decide)⟩ rfl (Nat.le_of_ble_eq_true rfl) (t_185 N P v9 x2) (fun v10 => ?_)
    refine tr_goto ?_
    refine tr_nil (rows2 := kb_77_82) rfl (List.cons_ne_nil _ _) ?_
    exact tr_reI (z := km_77) rfl ⟨_, rfl, rfl⟩ rfl
def f_77_43 (N : Nat) (x1 : Int32) (x2 : Int32) (s0 : Int32) (P : ab_P) : Option (Int32 × ab_P) :=
    ab_b2 (f_113 s0 (2 : Int32) (1 : Int32) P) fun v7 P6 =>
    if v7 = (0 : Int32) then
      f_77_53 N x1 x2 P6
    else
    some ((0 : Int32), P6)
theorem t_77_43 {xs : Nat × (Nat → Int32)} {d : Nat} (N : Nat) : ∀ (x1 : Int32) (x2 : Int32) (s0 : Int32) (P : ab_P), ab_tr xs wI (d + 3) 77 43 [] [.inr (12, 0, 0, 72), .inl (.int x1), .inl (.int x2)] [.inl (.int s0), .inr (12, 0, 0, 72)] P (f_77_43 N x1 x2 s0 P) := by
  intro x1 x2 s0 P
  unfold f_77_43
  refine tr_nil (rows2 := kb_77_43) rfl (List.cons_ne_nil _ _) ?_
  refine tr_blk 2 (pc' := 45) (rows' := kb_77_43.drop 2) (loc' := [.inr (12, 0, 0, 72), .inl (.int x1), .inl (.int x2)]) (st' := [.inl (.int (1 : Int32)), .inl (.int (2 : Int32)), .inl (.int s0), .inr (12, 0, 0, 72)]) (P1 := P) rfl ⟨trivial, trivial, trivial⟩ ?_
  refine tr_cWI (z := km_113) (av := [.inr (12, 0, 0, 72), .inl (.int s0), .inl (.int (2 : Int32)), .inl (.int (1 : Int32))]) (st' := []) rfl rfl rfl (Nat.le_of_ble_eq_true rfl) ⟨rfl, Or.inl (by decide)⟩ rfl (Nat.le_of_ble_eq_true rfl) (t_113 s0 (2 : Int32) (1 : Int32) P) (fun v7 P6 => ?_)
  refine tr_if (fun h12 => ?_) (fun h12 => ?_)
  · refine tr_ifT (cd := .eq) h12 ?_
    exact t_77_53 N x1 x2 P6
  · refine tr_ifF (cd := .eq) h12 ?_
    refine tr_nil (rows2 := kb_77_51) rfl (List.cons_ne_nil _ _) ?_
    refine tr_blk 1 (pc' := 52) (rows' := kb_77_51.drop 1) (loc' := [.inr (12, 0, 0, 72), .inl (.int x1), .inl (.int x2)]) (st' := [.inl (.int (0 : Int32))]) (P1 := P6) rfl ⟨trivial, trivial⟩ ?_
    exact tr_reI (z := km_77) rfl ⟨_, rfl, rfl⟩ rfl
def f_77_19 (N : Nat) (x1 : Int32) (x2 : Int32) (s0 : Int32) (P : ab_P) : Option (Int32 × ab_P) :=
    ab_b2 (f_113 s0 (1 : Int32) (0 : Int32) P) fun v4 P3 =>
    if v4 = (0 : Int32) then
      Option.bind (f_112 P3 x2 (0 : Int32) (60 : Int32)) fun v5 =>
      if v5 = (0 : Int32) then
        f_77_43 N x1 x2 (1 : Int32) P3
      else
      f_77_43 N x1 x2 (0 : Int32) P3
    else
    some ((0 : Int32), P3)
theorem t_77_19 {xs : Nat × (Nat → Int32)} {d : Nat} (N : Nat) : ∀ (x1 : Int32) (x2 : Int32) (s0 : Int32) (P : ab_P), ab_tr xs wI (d + 3) 77 19 [] [.inr (12, 0, 0, 72), .inl (.int x1), .inl (.int x2)] [.inl (.int s0), .inr (12, 0, 0, 72)] P (f_77_19 N x1 x2 s0 P) := by
  intro x1 x2 s0 P
  unfold f_77_19
  refine tr_nil (rows2 := kb_77_19) rfl (List.cons_ne_nil _ _) ?_
  refine tr_blk 2 (pc' := 21) (rows' := kb_77_19.drop 2) (loc' := [.inr (12, 0, 0, 72), .inl (.int x1), .inl (.int x2)]) (st' := [.inl (.int (0 : Int32)), .inl (.int (1 : Int32)), .inl (.int s0), .inr (12, 0, 0, 72)]) (P1 := P) rfl ⟨trivial, trivial, trivial⟩ ?_
  refine tr_cWI (z := km_113) (av := [.inr (12, 0, 0, 72), .inl (.int s0), .inl (.int (1 : Int32)), .inl (.int (0 : Int32))]) (st' := []) rfl rfl rfl (Nat.le_of_ble_eq_true rfl) ⟨rfl, Or.inl (by decide)⟩ rfl (Nat.le_of_ble_eq_true rfl) (t_113 s0 (1 : Int32) (0 : Int32) P) (fun v4 P3 => ?_)
  refine tr_if (fun h13 => ?_) (fun h13 => ?_)
  · refine tr_ifF (cd := .ne) (fun q => q h13) ?_
    refine tr_blk 4 (pc' := 32) (rows' := kb_77_19.drop 8) (loc' := [.inr (12, 0, 0, 72), .inl (.int x1), .inl (.int x2)]) (st' := [.inl (.int (60 : Int32)), .inl (.int (0 : Int32)), .inl (.int x2), .inr (12, 0, 0, 72)]) (P1 := P3) rfl ⟨trivial, trivial, trivial, trivial, trivial⟩ ?_
    refine tr_cRI (z := km_112) (av := [.inl (.int x2), .inl (.int (0 : Int32)), .inl (.int (60 : Int32))]) (st' := [.inr (12, 0, 0, 72)]) rfl rfl rfl (Nat.le_of_ble_eq_true rfl) trivial rfl (Nat.le_of_ble_eq_true rfl) (t_112 P3 x2 (0 : Int32) (60 : Int32)) (fun v5 => ?_)
    refine tr_if (fun h14 => ?_) (fun h14 => ?_)
    · refine tr_ifF (cd := .ne) (fun q => q h14) ?_
      refine tr_blk 1 (pc' := 39) (rows' := kb_77_19.drop 11) (loc' := [.inr (12, 0, 0, 72), .inl (.int x1), .inl (.int x2)]) (st' := [.inl (.int (1 : Int32)), .inr (12, 0, 0, 72)]) (P1 := P3) rfl ⟨trivial, trivial⟩ ?_
      refine tr_goto ?_
      exact t_77_43 N x1 x2 (1 : Int32) P3
    · refine tr_ifT (cd := .ne) h14 ?_
      refine tr_nil (rows2 := kb_77_42) rfl (List.cons_ne_nil _ _) ?_
      refine tr_blk 1 (pc' := 43) (rows' := kb_77_42.drop 1) (loc' := [.inr (12, 0, 0, 72), .inl (.int x1), .inl (.int x2)]) (st' := [.inl (.int (0 : Int32)), .inr (12, 0, 0, 72)]) (P1 := P3) rfl ⟨trivial, trivial⟩ ?_
      exact t_77_43 N x1 x2 (0 : Int32) P3
  · refine tr_ifT (cd := .ne) h13 ?_
    refine tr_nil (rows2 := kb_77_51) rfl (List.cons_ne_nil _ _) ?_
    refine tr_blk 1 (pc' := 52) (rows' := kb_77_51.drop 1) (loc' := [.inr (12, 0, 0, 72), .inl (.int x1), .inl (.int x2)]) (st' := [.inl (.int (0 : Int32))]) (P1 := P3) rfl ⟨trivial, trivial⟩ ?_
    exact tr_reI (z := km_77) rfl ⟨_, rfl, rfl⟩ rfl
def f_77 (N : Nat) (a1 : Int32) (a2 : Int32) (P : ab_P) : Option (Int32 × ab_P) :=
    ab_lt (ab_pI P 72 0 (0 : Int32)) fun P1 =>
    Option.bind (f_134 P1 a1) fun v2 =>
    if v2 = (0 : Int32) then
      f_77_19 N a1 a2 (1 : Int32) P1
    else
    f_77_19 N a1 a2 (0 : Int32) P1
theorem t_77 {xs : Nat × (Nat → Int32)} {d : Nat} (N : Nat) : ∀ (a1 : Int32) (a2 : Int32) (P : ab_P), ab_tr xs wI (d + 3) 77 0 [] [.inr (12, 0, 0, 72), .inl (.int a1), .inl (.int a2)] [] P (f_77 N a1 a2 P) := by
  intro a1 a2 P
  unfold f_77
  refine tr_nil (rows2 := kb_77_0) rfl (List.cons_ne_nil _ _) ?_
  refine tr_blk 3 (pc' := 5) (rows' := kb_77_0.drop 3) (loc' := [.inr (12, 0, 0, 72), .inl (.int a1), .inl (.int a2)]) (st' := []) (P1 := (ab_pI P 72 0 (0 : Int32))) rfl ⟨trivial, trivial, trivial, trivial⟩ ?_
  refine tr_lt (fun P1 => ?_)
  refine tr_blk 3 (pc' := 8) (rows' := kb_77_0.drop 6) (loc' := [.inr (12, 0, 0, 72), .inl (.int a1), .inl (.int a2)]) (st' := [.inl (.int a1), .inr (12, 0, 0, 72), .inr (12, 0, 0, 72)]) (P1 := P1) rfl ⟨trivial, trivial, trivial, trivial⟩ ?_
  refine tr_cRI (z := km_134) (av := [.inr (12, 0, 0, 72), .inl (.int a1)]) (st' := [.inr (12, 0, 0, 72)]) rfl rfl rfl (Nat.le_of_ble_eq_true rfl) ⟨rfl, Or.inl (by decide)⟩ rfl (Nat.le_of_ble_eq_true rfl) (t_134 P1 a1) (fun v2 => ?_)
  refine tr_if (fun h15 => ?_) (fun h15 => ?_)
  · refine tr_ifF (cd := .ne) (fun q => q h15) ?_
    refine tr_blk 1 (pc' := 15) (rows' := kb_77_0.drop 9) (loc' := [.inr (12, 0, 0, 72), .inl (.int a1), .inl (.int a2)]) (st' := [.inl (.int (1 : Int32)), .inr (12, 0, 0, 72)]) (P1 := P1) rfl ⟨trivial, trivial⟩ ?_
    refine tr_goto ?_
    exact t_77_19 N a1 a2 (1 : Int32) P1
  · refine tr_ifT (cd := .ne) h15 ?_
    refine tr_nil (rows2 := kb_77_18) rfl (List.cons_ne_nil _ _) ?_
    refine tr_blk 1 (pc' := 19) (rows' := kb_77_18.drop 1) (loc' := [.inr (12, 0, 0, 72), .inl (.int a1), .inl (.int a2)]) (st' := [.inl (.int (0 : Int32)), .inr (12, 0, 0, 72)]) (P1 := P1) rfl ⟨trivial, trivial⟩ ?_
    exact t_77_19 N a1 a2 (0 : Int32) P1
def f_78_4 (N : Nat) (P : ab_P) : Nat → Int32 → Int32 → Option Int32
  | 0, _, _ => none
  | n + 1, x1, x2 =>
    if x2 < (P.1 3 5) then
      Option.bind (f_186 43 N P x2 (0 : Int32)) fun v1 =>
      if v1 = (0 : Int32) then
        f_78_4 N P n (x1 ||| ((1 : Int32) <<< (x2 &&& 31))) (x2 + 1)
      else
      f_78_4 N P n x1 (x2 + 1)
    else
    some x1
theorem t_78_4 {xs : Nat × (Nat → Int32)} {d : Nat} (N : Nat) (P : ab_P) : ∀ n : Nat, ∀ (x1 : Int32) (x2 : Int32), ab_tr xs (rI P) (d + 3) 78 4 [] [.inr (11, 0, 0, 0), .inl (.int x1), .inl (.int x2)] [] P (f_78_4 N P n x1 x2) := by
  intro n
  induction n with
  | zero => intro x1 x2; exact tr_no
  | succ n ih =>
    intro x1 x2
    refine tr_nil (rows2 := kb_78_4) rfl (List.cons_ne_nil _ _) ?_
    refine tr_blk 4 (pc' := 12) (rows' := kb_78_4.drop 4) (loc' := [.inr (11, 0, 0, 0), .inl (.int x1), .inl (.int x2)]) (st' := [.inl (.int (P.1 3 5)), .inl (.int x2)]) (P1 := P) rfl ⟨trivial, trivial, trivial, trivial, trivial⟩ ?_
    refine tr_if (fun h2 => ?_) (fun h2 => ?_)
    · refine tr_icF (cd := .ge) (Int32.not_le.mpr h2) ?_
      refine tr_blk 4 (pc' := 21) (rows' := kb_78_4.drop 9) (loc' := [.inr (11, 0, 0, 0), .inl (.int x1), .inl (.int x2)]) (st' := [.inl (.int (0 : Int32)), .inl (.int x2), .inr (6, 0, 0, 43)]) (P1 := P) rfl ⟨trivial, trivial, trivial, trivial, trivial⟩ ?_
      refine tr_cRI (z := km_186) (av := [.inr (6, 0, 0, 43), .inl (.int x2), .inl (.int (0 : Int32))]) (st' := []) rfl rfl rfl (Nat.le_of_ble_eq_true rfl) ⟨rfl, Or.inl (by decide)⟩ rfl (Nat.le_of_ble_eq_true rfl) (t_186 43 N P x2 (0 : Int32)) (fun v1 => ?_)
      refine tr_if (fun h3 => ?_) (fun h3 => ?_)
      · refine tr_ifF (cd := .ne) (fun q => q h3) ?_
        refine tr_blk 6 (pc' := 33) (rows' := kb_78_4.drop 17) (loc' := [.inr (11, 0, 0, 0), .inl (.int (x1 ||| ((1 : Int32) <<< (x2 &&& 31)))), .inl (.int x2)]) (st' := []) (P1 := P) rfl ⟨trivial, trivial, trivial, trivial, trivial, trivial, trivial⟩ ?_
        refine tr_nil (rows2 := kb_78_33) rfl (List.cons_ne_nil _ _) ?_
        refine tr_blk 1 (pc' := 36) (rows' := kb_78_33.drop 1) (loc' := [.inr (11, 0, 0, 0), .inl (.int (x1 ||| ((1 : Int32) <<< (x2 &&& 31)))), .inl (.int (x2 + 1))]) (st' := []) (P1 := P) rfl ⟨trivial, trivial⟩ ?_
        refine tr_goto ?_
        exact ih (x1 ||| ((1 : Int32) <<< (x2 &&& 31))) (x2 + 1)
      · refine tr_ifT (cd := .ne) h3 ?_
        refine tr_nil (rows2 := kb_78_33) rfl (List.cons_ne_nil _ _) ?_
        refine tr_blk 1 (pc' := 36) (rows' := kb_78_33.drop 1) (loc' := [.inr (11, 0, 0, 0), .inl (.int x1), .inl (.int (x2 + 1))]) (st' := []) (P1 := P) rfl ⟨trivial, trivial⟩ ?_
        refine tr_goto ?_
        exact ih x1 (x2 + 1)
    · refine tr_icT (cd := .ge) (Int32.not_lt.mp h2) ?_
      refine tr_nil (rows2 := kb_78_39) rfl (List.cons_ne_nil _ _) ?_
      refine tr_blk 1 (pc' := 40) (rows' := kb_78_39.drop 1) (loc' := [.inr (11, 0, 0, 0), .inl (.int x1), .inl (.int x2)]) (st' := [.inl (.int x1)]) (P1 := P) rfl ⟨trivial, trivial⟩ ?_
      exact tr_reI (z := km_78) rfl ⟨_, rfl, rfl⟩ rfl
def f_78 (N : Nat) (P : ab_P) : Option Int32 :=
    f_78_4 N P N (0 : Int32) (0 : Int32)
theorem t_78 {xs : Nat × (Nat → Int32)} {d : Nat} (N : Nat) (P : ab_P) : ab_tr xs (rI P) (d + 3) 78 0 [] [.inr (11, 0, 0, 0), ab_top, ab_top] [] P (f_78 N P) := by
  unfold f_78
  refine tr_nil (rows2 := kb_78_0) rfl (List.cons_ne_nil _ _) ?_
  refine tr_blk 4 (pc' := 4) (rows' := kb_78_0.drop 4) (loc' := [.inr (11, 0, 0, 0), .inl (.int (0 : Int32)), .inl (.int (0 : Int32))]) (st' := []) (P1 := P) rfl ⟨trivial, trivial, trivial, trivial, trivial⟩ ?_
  exact t_78_4 N P N (0 : Int32) (0 : Int32)
def f_79_9 (N : Nat) : Nat → Int32 → Int32 → ab_P → Option (Int32 × ab_P)
  | 0, _, _, _ => none
  | n + 1, x1, x2, P =>
    if x2 < (P.1 76 0) then
      Option.bind (f_140_366 477 N P x2 (0 : Int32)) fun v2 =>
      if v2 = (0 : Int32) then
        f_79_9 N n (x1 ||| ((1 : Int32) <<< (x2 &&& 31))) (x2 + 1) P
      else
      f_79_9 N n (x1 ||| (0 : Int32)) (x2 + 1) P
    else
    some (x1, P)
theorem t_79_9 {xs : Nat × (Nat → Int32)} {d : Nat} (N : Nat) : ∀ n : Nat, ∀ (x1 : Int32) (x2 : Int32) (P : ab_P), ab_tr xs wI (d + 3) 79 9 [] [.inr (12, 0, 0, 72), .inl (.int x1), .inl (.int x2)] [] P (f_79_9 N n x1 x2 P) := by
  intro n
  induction n with
  | zero => intro x1 x2 P; exact tr_no
  | succ n ih =>
    intro x1 x2 P
    refine tr_nil (rows2 := kb_79_9) rfl (List.cons_ne_nil _ _) ?_
    refine tr_blk 5 (pc' := 16) (rows' := kb_79_9.drop 5) (loc' := [.inr (12, 0, 0, 72), .inl (.int x1), .inl (.int x2)]) (st' := [.inl (.int (P.1 76 0)), .inl (.int x2)]) (P1 := P) rfl ⟨trivial, trivial, trivial, trivial, (ab_vi (by decide)), trivial⟩ ?_
    refine tr_if (fun h3 => ?_) (fun h3 => ?_)
    · refine tr_icF (cd := .ge) (Int32.not_le.mpr h3) ?_
      refine tr_blk 5 (pc' := 26) (rows' := kb_79_9.drop 11) (loc' := [.inr (12, 0, 0, 72), .inl (.int x1), .inl (.int x2)]) (st' := [.inl (.int (0 : Int32)), .inl (.int x2), .inr (20, 366, 0, 477), .inl (.int x1)]) (P1 := P) rfl ⟨trivial, trivial, trivial, trivial, trivial, trivial⟩ ?_
      refine tr_cRI (z := km_140) (av := [.inr (20, 366, 0, 477), .inl (.int x2), .inl (.int (0 : Int32))]) (st' := [.inl (.int x1)]) rfl rfl rfl (Nat.le_of_ble_eq_true rfl) trivial rfl (Nat.le_of_ble_eq_true rfl) (t_140_366 477 N P x2 (0 : Int32)) (fun v2 => ?_)
      refine tr_if (fun h4 => ?_) (fun h4 => ?_)
      · refine tr_ifF (cd := .ne) (fun q => q h4) ?_
        refine tr_blk 3 (pc' := 35) (rows' := kb_79_9.drop 16) (loc' := [.inr (12, 0, 0, 72), .inl (.int x1), .inl (.int x2)]) (st' := [.inl (.int ((1 : Int32) <<< (x2 &&& 31))), .inl (.int x1)]) (P1 := P) rfl ⟨trivial, trivial, trivial, trivial⟩ ?_
        refine tr_goto ?_
        refine tr_nil (rows2 := kb_79_39) rfl (List.cons_ne_nil _ _) ?_
        refine tr_blk 3 (pc' := 44) (rows' := kb_79_39.drop 3) (loc' := [.inr (12, 0, 0, 72), .inl (.int (x1 ||| ((1 : Int32) <<< (x2 &&& 31)))), .inl (.int (x2 + 1))]) (st' := []) (P1 := P) rfl ⟨trivial, trivial, trivial, trivial⟩ ?_
        refine tr_goto ?_
        exact ih (x1 ||| ((1 : Int32) <<< (x2 &&& 31))) (x2 + 1) P
      · refine tr_ifT (cd := .ne) h4 ?_
        refine tr_nil (rows2 := kb_79_38) rfl (List.cons_ne_nil _ _) ?_
        refine tr_blk 1 (pc' := 39) (rows' := kb_79_38.drop 1) (loc' := [.inr (12, 0, 0, 72), .inl (.int x1), .inl (.int x2)]) (st' := [.inl (.int (0 : Int32)), .inl (.int x1)]) (P1 := P) rfl ⟨trivial, trivial⟩ ?_
        refine tr_nil (rows2 := kb_79_39) rfl (List.cons_ne_nil _ _) ?_
        refine tr_blk 3 (pc' := 44) (rows' := kb_79_39.drop 3) (loc' := [.inr (12, 0, 0, 72), .inl (.int (x1 ||| (0 : Int32))), .inl (.int (x2 + 1))]) (st' := []) (P1 := P) rfl ⟨trivial, trivial, trivial, trivial⟩ ?_
        refine tr_goto ?_
        exact ih (x1 ||| (0 : Int32)) (x2 + 1) P
    · refine tr_icT (cd := .ge) (Int32.not_lt.mp h3) ?_
      refine tr_nil (rows2 := kb_79_47) rfl (List.cons_ne_nil _ _) ?_
      refine tr_blk 1 (pc' := 48) (rows' := kb_79_47.drop 1) (loc' := [.inr (12, 0, 0, 72), .inl (.int x1), .inl (.int x2)]) (st' := [.inl (.int x1)]) (P1 := P) rfl ⟨trivial, trivial⟩ ?_
      exact tr_reI (z := km_79) rfl ⟨_, rfl, rfl⟩ rfl
def f_79 (N : Nat) (P : ab_P) : Option (Int32 × ab_P) :=
    ab_lt (ab_pI P 72 0 (0 : Int32)) fun P1 =>
    f_79_9 N N (0 : Int32) (0 : Int32) P1
theorem t_79 {xs : Nat × (Nat → Int32)} {d : Nat} (N : Nat) : ∀ (P : ab_P), ab_tr xs wI (d + 3) 79 0 [] [.inr (12, 0, 0, 72), ab_top, ab_top] [] P (f_79 N P) := by
  intro P
  unfold f_79
  refine tr_nil (rows2 := kb_79_0) rfl (List.cons_ne_nil _ _) ?_
  refine tr_blk 3 (pc' := 5) (rows' := kb_79_0.drop 3) (loc' := [.inr (12, 0, 0, 72), ab_top, ab_top]) (st' := []) (P1 := (ab_pI P 72 0 (0 : Int32))) rfl ⟨trivial, trivial, trivial, trivial⟩ ?_
  refine tr_lt (fun P1 => ?_)
  refine tr_blk 4 (pc' := 9) (rows' := kb_79_0.drop 7) (loc' := [.inr (12, 0, 0, 72), .inl (.int (0 : Int32)), .inl (.int (0 : Int32))]) (st' := []) (P1 := P1) rfl ⟨trivial, trivial, trivial, trivial, trivial⟩ ?_
  exact t_79_9 N N (0 : Int32) (0 : Int32) P1
def f_272_5 (i0 : Nat) (P : ab_P) : Nat → Int32 → Int64 → Int32 → Option Int64
  | 0, _, _, _ => none
  | n + 1, x1, x2, x4 =>
    if x4 < (P.1 i0 2) then
      Option.bind (f_263 i0 P x4) fun v1 =>
      if v1 = (0 : Int32) then
        f_272_5 i0 P n x1 x2 (x4 + 1)
      else
      Option.bind (f_231 i0 P (3 : Int32) x4) fun v2 =>
      if ((P.1 i0 3) - v2) < x1 then
        f_272_5 i0 P n x1 x2 (x4 + 1)
      else
      f_272_5 i0 P n x1 (x2 ||| ((1 : Int64) <<< ((x4).toInt64 &&& 63))) (x4 + 1)
    else
    some x2
theorem t_272_5 {xs : Nat × (Nat → Int32)} {d : Nat} (i0 : Nat) (P : ab_P) : ∀ n : Nat, ∀ (x1 : Int32) (x2 : Int64) (x4 : Int32), ab_tr xs (rL P) (d + 2) 272 5 [] [.inr (6, 0, 0, i0), .inl (.int x1), .inl (.long x2), ab_top, .inl (.int x4)] [] P (f_272_5 i0 P n x1 x2 x4) := by
  intro n
  induction n with
  | zero => intro x1 x2 x4; exact tr_no
  | succ n ih =>
    intro x1 x2 x4
    refine tr_nil (rows2 := kb_272_5) rfl (List.cons_ne_nil _ _) ?_
    refine tr_blk 3 (pc' := 11) (rows' := kb_272_5.drop 3) (loc' := [.inr (6, 0, 0, i0), .inl (.int x1), .inl (.long x2), ab_top, .inl (.int x4)]) (st' := [.inl (.int (P.1 i0 2)), .inl (.int x4)]) (P1 := P) rfl ⟨trivial, trivial, trivial, trivial⟩ ?_
    refine tr_if (fun h3 => ?_) (fun h3 => ?_)
    · refine tr_icF (cd := .ge) (Int32.not_le.mpr h3) ?_
      refine tr_blk 2 (pc' := 17) (rows' := kb_272_5.drop 6) (loc' := [.inr (6, 0, 0, i0), .inl (.int x1), .inl (.long x2), ab_top, .inl (.int x4)]) (st' := [.inl (.int x4), .inr (6, 0, 0, i0)]) (P1 := P) rfl ⟨trivial, trivial, trivial⟩ ?_
      refine tr_cRI (z := km_263) (av := [.inr (6, 0, 0, i0), .inl (.int x4)]) (st' := []) rfl rfl rfl (Nat.le_of_ble_eq_true rfl) ⟨rfl, Or.inl (by decide)⟩ rfl (Nat.le_of_ble_eq_true rfl) (t_263 i0 P x4) (fun v1 => ?_)
      refine tr_if (fun h4 => ?_) (fun h4 => ?_)
      · refine tr_ifT (cd := .eq) h4 ?_
        refine tr_nil (rows2 := kb_272_46) rfl (List.cons_ne_nil _ _) ?_
        refine tr_blk 1 (pc' := 49) (rows' := kb_272_46.drop 1) (loc' := [.inr (6, 0, 0, i0), .inl (.int x1), .inl (.long x2), ab_top, .inl (.int (x4 + 1))]) (st' := []) (P1 := P) rfl ⟨trivial, trivial⟩ ?_
        refine tr_goto ?_
        exact ih x1 x2 (x4 + 1)
      · refine tr_ifF (cd := .eq) h4 ?_
        refine tr_blk 5 (pc' := 31) (rows' := kb_272_5.drop 13) (loc' := [.inr (6, 0, 0, i0), .inl (.int x1), .inl (.long x2), ab_top, .inl (.int x4)]) (st' := [.inl (.int x4), .inl (.int (3 : Int32)), .inr (6, 0, 0, i0), .inl (.int (P.1 i0 3))]) (P1 := P) rfl ⟨trivial, trivial, trivial, trivial, trivial, trivial⟩ ?_
        refine tr_cRI (z := km_231) (av := [.inr (6, 0, 0, i0), .inl (.int (3 : Int32)), .inl (.int x4)]) (st' := [.inl (.int (P.1 i0 3))]) rfl rfl rfl (Nat.le_of_ble_eq_true rfl) ⟨rfl, Or.inl (by decide)⟩ rfl (Nat.le_of_ble_eq_true rfl) (t_231 i0 P (3 : Int32) x4) (fun v2 => ?_)
        refine tr_blk 2 (pc' := 36) (rows' := kb_272_5.drop 16) (loc' := [.inr (6, 0, 0, i0), .inl (.int x1), .inl (.long x2), ab_top, .inl (.int x4)]) (st' := [.inl (.int x1), .inl (.int ((P.1 i0 3) - v2))]) (P1 := P) rfl ⟨trivial, trivial, trivial⟩ ?_
        refine tr_if (fun h5 => ?_) (fun h5 => ?_)
        · refine tr_icT (cd := .lt) h5 ?_
          refine tr_nil (rows2 := kb_272_46) rfl (List.cons_ne_nil _ _) ?_
          refine tr_blk 1 (pc' := 49) (rows' := kb_272_46.drop 1) (loc' := [.inr (6, 0, 0, i0), .inl (.int x1), .inl (.long x2), ab_top, .inl (.int (x4 + 1))]) (st' := []) (P1 := P) rfl ⟨trivial, trivial⟩ ?_
          refine tr_goto ?_
          exact ih x1 x2 (x4 + 1)
        · refine tr_icF (cd := .lt) h5 ?_
          refine tr_blk 6 (pc' := 46) (rows' := kb_272_5.drop 23) (loc' := [.inr (6, 0, 0, i0), .inl (.int x1), .inl (.long (x2 ||| ((1 : Int64) <<< ((x4).toInt64 &&& 63)))), ab_top, .inl (.int x4)]) (st' := []) (P1 := P) rfl ⟨trivial, trivial, trivial, trivial, trivial, trivial, trivial⟩ ?_
          refine tr_nil (rows2 := kb_272_46) rfl (List.cons_ne_nil _ _) ?_
          refine tr_blk 1 (pc' := 49) (rows' := kb_272_46.drop 1) (loc' := [.inr (6, 0, 0, i0), .inl (.int x1), .inl (.long (x2 ||| ((1 : Int64) <<< ((x4).toInt64 &&& 63)))), ab_top, .inl (.int (x4 + 1))]) (st' := []) (P1 := P) rfl ⟨trivial, trivial⟩ ?_
          refine tr_goto ?_
          exact ih x1 (x2 ||| ((1 : Int64) <<< ((x4).toInt64 &&& 63))) (x4 + 1)
    · refine tr_icT (cd := .ge) (Int32.not_lt.mp h3) ?_
      refine tr_nil (rows2 := kb_272_52) rfl (List.cons_ne_nil _ _) ?_
      refine tr_blk 1 (pc' := 53) (rows' := kb_272_52.drop 1) (loc' := [.inr (6, 0, 0, i0), .inl (.int x1), .inl (.long x2), ab_top, .inl (.int x4)]) (st' := [.inl (.long x2)]) (P1 := P) rfl ⟨trivial, trivial⟩ ?_
      exact tr_reL (z := km_272) rfl rfl rfl
def f_272 (i0 : Nat) (N : Nat) (P : ab_P) (a1 : Int32) : Option Int64 :=
    f_272_5 i0 P N a1 (0 : Int64) (0 : Int32)
theorem t_272 {xs : Nat × (Nat → Int32)} {d : Nat} (i0 : Nat) (N : Nat) (P : ab_P) : ∀ (a1 : Int32), ab_tr xs (rL P) (d + 2) 272 0 [] [.inr (6, 0, 0, i0), .inl (.int a1), ab_top, ab_top, ab_top] [] P (f_272 i0 N P a1) := by
  intro a1
  unfold f_272
  refine tr_nil (rows2 := kb_272_0) rfl (List.cons_ne_nil _ _) ?_
  refine tr_blk 4 (pc' := 5) (rows' := kb_272_0.drop 4) (loc' := [.inr (6, 0, 0, i0), .inl (.int a1), .inl (.long (0 : Int64)), ab_top, .inl (.int (0 : Int32))]) (st' := []) (P1 := P) rfl ⟨trivial, trivial, trivial, trivial, trivial⟩ ?_
  exact t_272_5 i0 P N a1 (0 : Int64) (0 : Int32)
def f_187 (N : Nat) (a1 : Int32) (P : ab_P) : Option ((Int64 ⊕ Fin 3) × ab_P) :=
    Option.bind (f_240 P a1 (0 : Int32) (9999 : Int32)) fun v1 =>
    ab_x2 (f_228 v1 P) (fun _ P2 =>
    Option.bind (f_272 43 N P2 a1) fun v3 =>
    some (.inl v3, P2)) (fun q => q)
theorem t_187 {xs : Nat × (Nat → Int32)} {d : Nat} (N : Nat) : ∀ (a1 : Int32) (P : ab_P), ab_tr xs xL (d + 3) 187 0 [] [.inr (11, 0, 0, 0), .inl (.int a1)] [] P (f_187 N a1 P) := by
  intro a1 P
  unfold f_187
  refine tr_nil (rows2 := kb_187_0) rfl (List.cons_ne_nil _ _) ?_
  refine tr_blk 4 (pc' := 6) (rows' := kb_187_0.drop 4) (loc' := [.inr (11, 0, 0, 0), .inl (.int a1)]) (st' := [.inl (.int (9999 : Int32)), .inl (.int (0 : Int32)), .inl (.int a1), .inr (11, 0, 0, 0)]) (P1 := P) rfl ⟨trivial, trivial, trivial, trivial, trivial⟩ ?_
  refine tr_cRI (z := km_240) (av := [.inl (.int a1), .inl (.int (0 : Int32)), .inl (.int (9999 : Int32))]) (st' := [.inr (11, 0, 0, 0)]) rfl rfl rfl (Nat.le_of_ble_eq_true rfl) trivial rfl (Nat.le_of_ble_eq_true rfl) (t_240 P a1 (0 : Int32) (9999 : Int32)) (fun v1 => ?_)
  refine tr_cax (fun _ => none) (zi := km_187) (fun _ => rfl) (fun _ _ => rfl) rfl rfl (z := km_228) (av := [.inr (11, 0, 0, 0), .inl (.int v1)]) (st' := []) rfl rfl rfl (Nat.le_of_ble_eq_true rfl) ⟨rfl, Or.inl (by decide)⟩ rfl (Nat.le_of_ble_eq_true rfl) (t_228 v1 P) (fun _ P2 => ?_)
  refine tr_blk 3 (pc' := 17) (rows' := kb_187_0.drop 9) (loc' := [.inr (11, 0, 0, 0), .inl (.int a1)]) (st' := [.inl (.int a1), .inr (6, 0, 0, 43)]) (P1 := P2) rfl ⟨trivial, trivial, trivial, trivial⟩ ?_
  refine tr_cRL (z := km_272) (av := [.inr (6, 0, 0, 43), .inl (.int a1)]) (st' := []) rfl rfl rfl (Nat.le_of_ble_eq_true rfl) ⟨rfl, Or.inl (by decide)⟩ rfl (Nat.le_of_ble_eq_true rfl) (t_272 43 N P2 a1) (fun v3 => ?_)
  exact tr_reL (z := km_187) rfl rfl rfl
def f_80_1 (N : Nat) (a1 : Int32) (P : ab_P) : Option (Int32 × ab_P) :=
    ab_h2 (f_187 N a1 P) (fun v2 P1 =>
    ab_lt (ab_pL P1 570 0 v2) fun P3 =>
    some ((0 : Int32), P3))
    (fun _ => none) (fun P9 => some ((1 : Int32), P9)) (fun _ => none)
theorem t_80_1 {xs : Nat × (Nat → Int32)} {d : Nat} (N : Nat) : ∀ (a1 : Int32) (P : ab_P), ab_tr xs wI (d + 4) 80 0 [] [.inr (11, 0, 0, 0), .inl (.int a1), .inr (22, 1, 0, 570), ab_top] [] P (f_80_1 N a1 P) := by
  intro a1 P
  unfold f_80_1
  refine tr_nil (rows2 := kb_80_0) rfl (List.cons_ne_nil _ _) ?_
  refine tr_blk 4 (pc' := 4) (rows' := kb_80_0.drop 4) (loc' := [.inr (11, 0, 0, 0), .inl (.int a1), .inr (22, 1, 0, 570), ab_top]) (st' := [.inl (.int a1), .inr (11, 0, 0, 0), .inl (.int (0 : Int32)), .inr (22, 1, 0, 570)]) (P1 := P) rfl ⟨trivial, trivial, trivial, trivial, trivial⟩ ?_
  refine tr_cah (fun b => some (.inl (.long b))) (zi := km_80) (fun _ => rfl) rfl (z := km_187) (av := [.inr (11, 0, 0, 0), .inl (.int a1)]) (st' := [.inl (.int (0 : Int32)), .inr (22, 1, 0, 570)]) rfl rfl rfl (Nat.le_of_ble_eq_true rfl) ⟨rfl, Or.inl (by decide)⟩ rfl (Nat.le_of_ble_eq_true rfl) (t_187 N a1 P) (fun v2 P1 => ?_) ?_ ?_ ?_
  · refine tr_blk 1 (pc' := 8) (rows' := kb_80_0.drop 6) (loc' := [.inr (11, 0, 0, 0), .inl (.int a1), .inr (22, 1, 0, 570), ab_top]) (st' := []) (P1 := (ab_pL P1 570 0 v2)) rfl ⟨(ab_vi (by decide)), trivial⟩ ?_
    refine tr_lt (fun P3 => ?_)
    refine tr_goto ?_
    refine tr_nil (rows2 := kb_80_14) rfl (List.cons_ne_nil _ _) ?_
    refine tr_blk 1 (pc' := 15) (rows' := kb_80_14.drop 1) (loc' := [.inr (11, 0, 0, 0), .inl (.int a1), .inr (22, 1, 0, 570), ab_top]) (st' := [.inl (.int (0 : Int32))]) (P1 := P3) rfl ⟨trivial, trivial⟩ ?_
    exact tr_reI (z := km_80) rfl ⟨_, rfl, rfl⟩ rfl
  · exact fun _ => rfl
  · exact fun _ => tr_han (rows2 := kb_80_11) (z := km_80) _ (fun q => [.inr (11, 0, 0, 0), .inl (.int a1), .inr (22, 1, 0, 570), .inr (40, 1, 0, q)]) rfl (List.cons_ne_nil _ _) (fun q => rfl) ⟨trivial, trivial, trivial⟩ rfl ⟨_, rfl, rfl⟩ rfl
  · exact fun _ => rfl
def f_81_37 : Nat → Int32 → Int64 → Int32 → ab_P → Option (Int64 × ab_P)
  | 0, _, _, _, _ => none
  | n + 1, x1, x2, x4, P =>
    if x4 < (P.1 477 360) then
      Option.bind (f_144_366 477 P x4) fun v5 =>
      if v5 = (0 : Int32) then
        f_81_37 n x1 (x2 ||| (0 : Int64)) (x4 + 1) P
      else
      Option.bind (f_135_366 477 P x4 (3 : Int32)) fun v6 =>
      if ((P.1 477 361) - v6) < x1 then
        f_81_37 n x1 (x2 ||| (0 : Int64)) (x4 + 1) P
      else
      f_81_37 n x1 (x2 ||| ((1 : Int64) <<< ((x4).toInt64 &&& 63))) (x4 + 1) P
    else
    some (x2, P)
theorem t_81_37 {xs : Nat × (Nat → Int32)} {d : Nat} : ∀ n : Nat, ∀ (x1 : Int32) (x2 : Int64) (x4 : Int32) (P : ab_P), ab_tr xs wL (d + 2) 81 37 [] [.inr (12, 0, 0, 72), .inl (.int x1), .inl (.long x2), ab_top, .inl (.int x4)] [] P (f_81_37 n x1 x2 x4 P) := by
  intro n
  induction n with
  | zero => intro x1 x2 x4 P; exact tr_no
  | succ n ih =>
    intro x1 x2 x4 P
    refine tr_nil (rows2 := kb_81_37) rfl (List.cons_ne_nil _ _) ?_
    refine tr_blk 5 (pc' := 47) (rows' := kb_81_37.drop 5) (loc' := [.inr (12, 0, 0, 72), .inl (.int x1), .inl (.long x2), ab_top, .inl (.int x4)]) (st' := [.inl (.int (P.1 477 360)), .inl (.int x4)]) (P1 := P) rfl ⟨trivial, trivial, trivial, trivial, (ab_vi (by decide)), trivial⟩ ?_
    refine tr_if (fun h7 => ?_) (fun h7 => ?_)
    · refine tr_icF (cd := .ge) (Int32.not_le.mpr h7) ?_
      refine tr_blk 4 (pc' := 57) (rows' := kb_81_37.drop 10) (loc' := [.inr (12, 0, 0, 72), .inl (.int x1), .inl (.long x2), ab_top, .inl (.int x4)]) (st' := [.inl (.int x4), .inr (20, 366, 0, 477), .inl (.long x2)]) (P1 := P) rfl ⟨trivial, trivial, trivial, trivial, trivial⟩ ?_
      refine tr_cRI (z := km_144) (av := [.inr (20, 366, 0, 477), .inl (.int x4)]) (st' := [.inl (.long x2)]) rfl rfl rfl (Nat.le_of_ble_eq_true rfl) trivial rfl (Nat.le_of_ble_eq_true rfl) (t_144_366 477 P x4) (fun v5 => ?_)
      refine tr_if (fun h8 => ?_) (fun h8 => ?_)
      · refine tr_ifT (cd := .eq) h8 ?_
        refine tr_nil (rows2 := kb_81_93) rfl (List.cons_ne_nil _ _) ?_
        refine tr_blk 1 (pc' := 94) (rows' := kb_81_93.drop 1) (loc' := [.inr (12, 0, 0, 72), .inl (.int x1), .inl (.long x2), ab_top, .inl (.int x4)]) (st' := [.inl (.long (0 : Int64)), .inl (.long x2)]) (P1 := P) rfl ⟨trivial, trivial⟩ ?_
        refine tr_nil (rows2 := kb_81_94) rfl (List.cons_ne_nil _ _) ?_
        refine tr_blk 3 (pc' := 99) (rows' := kb_81_94.drop 3) (loc' := [.inr (12, 0, 0, 72), .inl (.int x1), .inl (.long (x2 ||| (0 : Int64))), ab_top, .inl (.int (x4 + 1))]) (st' := []) (P1 := P) rfl ⟨trivial, trivial, trivial, trivial⟩ ?_
        refine tr_goto ?_
        exact ih x1 (x2 ||| (0 : Int64)) (x4 + 1) P
      · refine tr_ifF (cd := .eq) h8 ?_
        refine tr_blk 8 (pc' := 78) (rows' := kb_81_37.drop 20) (loc' := [.inr (12, 0, 0, 72), .inl (.int x1), .inl (.long x2), ab_top, .inl (.int x4)]) (st' := [.inl (.int (3 : Int32)), .inl (.int x4), .inr (20, 366, 0, 477), .inl (.int (P.1 477 361)), .inl (.long x2)]) (P1 := P) rfl ⟨trivial, trivial, trivial, (ab_vi (by decide)), trivial, trivial, trivial, trivial, trivial⟩ ?_
        refine tr_cRI (z := km_135) (av := [.inr (20, 366, 0, 477), .inl (.int x4), .inl (.int (3 : Int32))]) (st' := [.inl (.int (P.1 477 361)), .inl (.long x2)]) rfl rfl rfl (Nat.le_of_ble_eq_true rfl) trivial rfl (Nat.le_of_ble_eq_true rfl) (t_135_366 477 P x4 (3 : Int32)) (fun v6 => ?_)
        refine tr_blk 2 (pc' := 83) (rows' := kb_81_37.drop 23) (loc' := [.inr (12, 0, 0, 72), .inl (.int x1), .inl (.long x2), ab_top, .inl (.int x4)]) (st' := [.inl (.int x1), .inl (.int ((P.1 477 361) - v6)), .inl (.long x2)]) (P1 := P) rfl ⟨trivial, trivial, trivial⟩ ?_
        refine tr_if (fun h9 => ?_) (fun h9 => ?_)
        · refine tr_icT (cd := .lt) h9 ?_
          refine tr_nil (rows2 := kb_81_93) rfl (List.cons_ne_nil _ _) ?_
          refine tr_blk 1 (pc' := 94) (rows' := kb_81_93.drop 1) (loc' := [.inr (12, 0, 0, 72), .inl (.int x1), .inl (.long x2), ab_top, .inl (.int x4)]) (st' := [.inl (.long (0 : Int64)), .inl (.long x2)]) (P1 := P) rfl ⟨trivial, trivial⟩ ?_
          refine tr_nil (rows2 := kb_81_94) rfl (List.cons_ne_nil _ _) ?_
          refine tr_blk 3 (pc' := 99) (rows' := kb_81_94.drop 3) (loc' := [.inr (12, 0, 0, 72), .inl (.int x1), .inl (.long (x2 ||| (0 : Int64))), ab_top, .inl (.int (x4 + 1))]) (st' := []) (P1 := P) rfl ⟨trivial, trivial, trivial, trivial⟩ ?_
          refine tr_goto ?_
          exact ih x1 (x2 ||| (0 : Int64)) (x4 + 1) P
        · refine tr_icF (cd := .lt) h9 ?_
          refine tr_blk 3 (pc' := 90) (rows' := kb_81_37.drop 27) (loc' := [.inr (12, 0, 0, 72), .inl (.int x1), .inl (.long x2), ab_top, .inl (.int x4)]) (st' := [.inl (.long ((1 : Int64) <<< ((x4).toInt64 &&& 63))), .inl (.long x2)]) (P1 := P) rfl ⟨trivial, trivial, trivial, trivial⟩ ?_
          refine tr_goto ?_
          refine tr_nil (rows2 := kb_81_94) rfl (List.cons_ne_nil _ _) ?_
          refine tr_blk 3 (pc' := 99) (rows' := kb_81_94.drop 3) (loc' := [.inr (12, 0, 0, 72), .inl (.int x1), .inl (.long (x2 ||| ((1 : Int64) <<< ((x4).toInt64 &&& 63)))), ab_top, .inl (.int (x4 + 1))]) (st' := []) (P1 := P) rfl ⟨trivial, trivial, trivial, trivial⟩ ?_
          refine tr_goto ?_
          exact ih x1 (x2 ||| ((1 : Int64) <<< ((x4).toInt64 &&& 63))) (x4 + 1) P
    · refine tr_icT (cd := .ge) (Int32.not_lt.mp h7) ?_
      refine tr_nil (rows2 := kb_81_102) rfl (List.cons_ne_nil _ _) ?_
      refine tr_blk 1 (pc' := 103) (rows' := kb_81_102.drop 1) (loc' := [.inr (12, 0, 0, 72), .inl (.int x1), .inl (.long x2), ab_top, .inl (.int x4)]) (st' := [.inl (.long x2)]) (P1 := P) rfl ⟨trivial, trivial⟩ ?_
      exact tr_reL (z := km_81) rfl rfl rfl
def f_81_22 (N : Nat) (x1 : Int32) (s0 : Int32) (P : ab_P) : Option (Int64 × ab_P) :=
    ab_b2 (f_113 s0 (1 : Int32) (1 : Int32) P) fun v4 P3 =>
    if v4 = (0 : Int32) then
      f_81_37 N x1 (0 : Int64) (0 : Int32) P3
    else
    some ((0 : Int64), P3)
theorem t_81_22 {xs : Nat × (Nat → Int32)} {d : Nat} (N : Nat) : ∀ (x1 : Int32) (s0 : Int32) (P : ab_P), ab_tr xs wL (d + 2) 81 22 [] [.inr (12, 0, 0, 72), .inl (.int x1), ab_top, ab_top, ab_top] [.inl (.int s0), .inr (12, 0, 0, 72)] P (f_81_22 N x1 s0 P) := by
  intro x1 s0 P
  unfold f_81_22
  refine tr_nil (rows2 := kb_81_22) rfl (List.cons_ne_nil _ _) ?_
  refine tr_blk 2 (pc' := 24) (rows' := kb_81_22.drop 2) (loc' := [.inr (12, 0, 0, 72), .inl (.int x1), ab_top, ab_top, ab_top]) (st' := [.inl (.int (1 : Int32)), .inl (.int (1 : Int32)), .inl (.int s0), .inr (12, 0, 0, 72)]) (P1 := P) rfl ⟨trivial, trivial, trivial⟩ ?_
  refine tr_cWI (z := km_113) (av := [.inr (12, 0, 0, 72), .inl (.int s0), .inl (.int (1 : Int32)), .inl (.int (1 : Int32))]) (st' := []) rfl rfl rfl (Nat.le_of_ble_eq_true rfl) ⟨rfl, Or.inl (by decide)⟩ rfl (Nat.le_of_ble_eq_true rfl) (t_113 s0 (1 : Int32) (1 : Int32) P) (fun v4 P3 => ?_)
  refine tr_if (fun h10 => ?_) (fun h10 => ?_)
  · refine tr_ifT (cd := .eq) h10 ?_
    refine tr_nil (rows2 := kb_81_32) rfl (List.cons_ne_nil _ _) ?_
    refine tr_blk 4 (pc' := 37) (rows' := kb_81_32.drop 4) (loc' := [.inr (12, 0, 0, 72), .inl (.int x1), .inl (.long (0 : Int64)), ab_top, .inl (.int (0 : Int32))]) (st' := []) (P1 := P3) rfl ⟨trivial, trivial, trivial, trivial, trivial⟩ ?_
    exact t_81_37 N x1 (0 : Int64) (0 : Int32) P3
  · refine tr_ifF (cd := .eq) h10 ?_
    refine tr_blk 1 (pc' := 31) (rows' := kb_81_22.drop 5) (loc' := [.inr (12, 0, 0, 72), .inl (.int x1), ab_top, ab_top, ab_top]) (st' := [.inl (.long (0 : Int64))]) (P1 := P3) rfl ⟨trivial, trivial⟩ ?_
    exact tr_reL (z := km_81) rfl rfl rfl
def f_81 (N : Nat) (a1 : Int32) (P : ab_P) : Option (Int64 × ab_P) :=
    ab_lt (ab_pI P 72 0 (0 : Int32)) fun P1 =>
    Option.bind (f_112 P1 a1 (0 : Int32) (9999 : Int32)) fun v2 =>
    if v2 = (0 : Int32) then
      f_81_22 N a1 (1 : Int32) P1
    else
    f_81_22 N a1 (0 : Int32) P1
theorem t_81 {xs : Nat × (Nat → Int32)} {d : Nat} (N : Nat) : ∀ (a1 : Int32) (P : ab_P), ab_tr xs wL (d + 2) 81 0 [] [.inr (12, 0, 0, 72), .inl (.int a1), ab_top, ab_top, ab_top] [] P (f_81 N a1 P) := by
  intro a1 P
  unfold f_81
  refine tr_nil (rows2 := kb_81_0) rfl (List.cons_ne_nil _ _) ?_
  refine tr_blk 3 (pc' := 5) (rows' := kb_81_0.drop 3) (loc' := [.inr (12, 0, 0, 72), .inl (.int a1), ab_top, ab_top, ab_top]) (st' := []) (P1 := (ab_pI P 72 0 (0 : Int32))) rfl ⟨trivial, trivial, trivial, trivial⟩ ?_
  refine tr_lt (fun P1 => ?_)
  refine tr_blk 4 (pc' := 11) (rows' := kb_81_0.drop 7) (loc' := [.inr (12, 0, 0, 72), .inl (.int a1), ab_top, ab_top, ab_top]) (st' := [.inl (.int (9999 : Int32)), .inl (.int (0 : Int32)), .inl (.int a1), .inr (12, 0, 0, 72)]) (P1 := P1) rfl ⟨trivial, trivial, trivial, trivial, trivial⟩ ?_
  refine tr_cRI (z := km_112) (av := [.inl (.int a1), .inl (.int (0 : Int32)), .inl (.int (9999 : Int32))]) (st' := [.inr (12, 0, 0, 72)]) rfl rfl rfl (Nat.le_of_ble_eq_true rfl) trivial rfl (Nat.le_of_ble_eq_true rfl) (t_112 P1 a1 (0 : Int32) (9999 : Int32)) (fun v2 => ?_)
  refine tr_if (fun h11 => ?_) (fun h11 => ?_)
  · refine tr_ifF (cd := .ne) (fun q => q h11) ?_
    refine tr_blk 1 (pc' := 18) (rows' := kb_81_0.drop 10) (loc' := [.inr (12, 0, 0, 72), .inl (.int a1), ab_top, ab_top, ab_top]) (st' := [.inl (.int (1 : Int32)), .inr (12, 0, 0, 72)]) (P1 := P1) rfl ⟨trivial, trivial⟩ ?_
    refine tr_goto ?_
    exact t_81_22 N a1 (1 : Int32) P1
  · refine tr_ifT (cd := .ne) h11 ?_
    refine tr_nil (rows2 := kb_81_21) rfl (List.cons_ne_nil _ _) ?_
    refine tr_blk 1 (pc' := 22) (rows' := kb_81_21.drop 1) (loc' := [.inr (12, 0, 0, 72), .inl (.int a1), ab_top, ab_top, ab_top]) (st' := [.inl (.int (0 : Int32)), .inr (12, 0, 0, 72)]) (P1 := P1) rfl ⟨trivial, trivial⟩ ?_
    exact t_81_22 N a1 (0 : Int32) P1
def f_188_12 (N : Nat) : Nat → Int32 → Int32 → Int32 → Int32 → ab_P → Option ((Int32 ⊕ Fin 3) × ab_P)
  | 0, _, _, _, _, _ => none
  | n + 1, x1, x2, x3, x4, P =>
    if x4 < (P.1 3 5) then
      Option.bind (f_238 43 N P x1 x4) fun v2 =>
      if x3 < v2 then
        f_188_12 N n x1 x4 v2 (x4 + 1) P
      else
      f_188_12 N n x1 x2 x3 (x4 + 1) P
    else
    some (.inl x2, P)
theorem t_188_12 {xs : Nat × (Nat → Int32)} {d : Nat} (N : Nat) : ∀ n : Nat, ∀ (x1 : Int32) (x2 : Int32) (x3 : Int32) (x4 : Int32) (d5 : ab_V) (P : ab_P), ab_tr xs xI (d + 3) 188 12 [] [.inr (11, 0, 0, 0), .inl (.int x1), .inl (.int x2), .inl (.int x3), .inl (.int x4), d5] [] P (f_188_12 N n x1 x2 x3 x4 P) := by
  intro n
  induction n with
  | zero => intro x1 x2 x3 x4 d5 P; exact tr_no
  | succ n ih =>
    intro x1 x2 x3 x4 d5 P
    refine tr_nil (rows2 := kb_188_12) rfl (List.cons_ne_nil _ _) ?_
    refine tr_blk 4 (pc' := 21) (rows' := kb_188_12.drop 4) (loc' := [.inr (11, 0, 0, 0), .inl (.int x1), .inl (.int x2), .inl (.int x3), .inl (.int x4), d5]) (st' := [.inl (.int (P.1 3 5)), .inl (.int x4)]) (P1 := P) rfl ⟨trivial, trivial, trivial, trivial, trivial⟩ ?_
    refine tr_if (fun h3 => ?_) (fun h3 => ?_)
    · refine tr_icF (cd := .ge) (Int32.not_le.mpr h3) ?_
      refine tr_blk 4 (pc' := 31) (rows' := kb_188_12.drop 9) (loc' := [.inr (11, 0, 0, 0), .inl (.int x1), .inl (.int x2), .inl (.int x3), .inl (.int x4), d5]) (st' := [.inl (.int x4), .inl (.int x1), .inr (6, 0, 0, 43)]) (P1 := P) rfl ⟨trivial, trivial, trivial, trivial, trivial⟩ ?_
      refine tr_cRI (z := km_238) (av := [.inr (6, 0, 0, 43), .inl (.int x1), .inl (.int x4)]) (st' := []) rfl rfl rfl (Nat.le_of_ble_eq_true rfl) ⟨rfl, Or.inl (by decide)⟩ rfl (Nat.le_of_ble_eq_true rfl) (t_238 43 N P x1 x4) (fun v2 => ?_)
      refine tr_blk 3 (pc' := 39) (rows' := kb_188_12.drop 13) (loc' := [.inr (11, 0, 0, 0), .inl (.int x1), .inl (.int x2), .inl (.int x3), .inl (.int x4), .inl (.int v2)]) (st' := [.inl (.int x3), .inl (.int v2)]) (P1 := P) rfl ⟨trivial, trivial, trivial, trivial⟩ ?_
      refine tr_if (fun h4 => ?_) (fun h4 => ?_)
      · refine tr_icF (cd := .le) (Int32.not_le.mpr h4) ?_
        refine tr_blk 4 (pc' := 48) (rows' := kb_188_12.drop 18) (loc' := [.inr (11, 0, 0, 0), .inl (.int x1), .inl (.int x4), .inl (.int v2), .inl (.int x4), .inl (.int v2)]) (st' := []) (P1 := P) rfl ⟨trivial, trivial, trivial, trivial, trivial⟩ ?_
        refine tr_nil (rows2 := kb_188_48) rfl (List.cons_ne_nil _ _) ?_
        refine tr_blk 1 (pc' := 51) (rows' := kb_188_48.drop 1) (loc' := [.inr (11, 0, 0, 0), .inl (.int x1), .inl (.int x4), .inl (.int v2), .inl (.int (x4 + 1)), .inl (.int v2)]) (st' := []) (P1 := P) rfl ⟨trivial, trivial⟩ ?_
        refine tr_goto ?_
        exact ih x1 x4 v2 (x4 + 1) (.inl (.int v2)) P
      · refine tr_icT (cd := .le) (Int32.not_lt.mp h4) ?_
        refine tr_nil (rows2 := kb_188_48) rfl (List.cons_ne_nil _ _) ?_
        refine tr_blk 1 (pc' := 51) (rows' := kb_188_48.drop 1) (loc' := [.inr (11, 0, 0, 0), .inl (.int x1), .inl (.int x2), .inl (.int x3), .inl (.int (x4 + 1)), .inl (.int v2)]) (st' := []) (P1 := P) rfl ⟨trivial, trivial⟩ ?_
        refine tr_goto ?_
        exact ih x1 x2 x3 (x4 + 1) (.inl (.int v2)) P
    · refine tr_icT (cd := .ge) (Int32.not_lt.mp h3) ?_
      refine tr_nil (rows2 := kb_188_54) rfl (List.cons_ne_nil _ _) ?_
      refine tr_blk 1 (pc' := 55) (rows' := kb_188_54.drop 1) (loc' := [.inr (11, 0, 0, 0), .inl (.int x1), .inl (.int x2), .inl (.int x3), .inl (.int x4), d5]) (st' := [.inl (.int x2)]) (P1 := P) rfl ⟨trivial, trivial⟩ ?_
      exact tr_reI (z := km_188) rfl ⟨_, rfl, rfl⟩ rfl
def f_188 (N : Nat) (a1 : Int32) (P : ab_P) : Option ((Int32 ⊕ Fin 3) × ab_P) :=
    ab_x2 (f_232 a1 P) (fun _ P1 =>
    f_188_12 N N a1 (-1 : Int32) (0 : Int32) (0 : Int32) P1) (fun q => q)
theorem t_188 {xs : Nat × (Nat → Int32)} {d : Nat} (N : Nat) : ∀ (a1 : Int32) (P : ab_P), ab_tr xs xI (d + 3) 188 0 [] [.inr (11, 0, 0, 0), .inl (.int a1), ab_top, ab_top, ab_top, ab_top] [] P (f_188 N a1 P) := by
  intro a1 P
  unfold f_188
  refine tr_nil (rows2 := kb_188_0) rfl (List.cons_ne_nil _ _) ?_
  refine tr_blk 2 (pc' := 2) (rows' := kb_188_0.drop 2) (loc' := [.inr (11, 0, 0, 0), .inl (.int a1), ab_top, ab_top, ab_top, ab_top]) (st' := [.inl (.int a1), .inr (11, 0, 0, 0)]) (P1 := P) rfl ⟨trivial, trivial, trivial⟩ ?_
  refine tr_cax (fun _ => none) (zi := km_188) (fun _ => rfl) (fun _ _ => rfl) rfl rfl (z := km_232) (av := [.inr (11, 0, 0, 0), .inl (.int a1)]) (st' := []) rfl rfl rfl (Nat.le_of_ble_eq_true rfl) ⟨rfl, Or.inl (by decide)⟩ rfl (Nat.le_of_ble_eq_true rfl) (t_232 a1 P) (fun _ P1 => ?_)
  refine tr_blk 6 (pc' := 12) (rows' := kb_188_0.drop 9) (loc' := [.inr (11, 0, 0, 0), .inl (.int a1), .inl (.int (-1 : Int32)), .inl (.int (0 : Int32)), .inl (.int (0 : Int32)), ab_top]) (st' := []) (P1 := P1) rfl ⟨trivial, trivial, trivial, trivial, trivial, trivial, trivial⟩ ?_
  exact t_188_12 N N a1 (-1 : Int32) (0 : Int32) (0 : Int32) (ab_top) P1
def f_82_1 (N : Nat) (a1 : Int32) (P : ab_P) : Option (Int32 × ab_P) :=
    ab_h2 (f_188 N a1 P) (fun v2 P1 =>
    ab_lt (ab_pL P1 570 0 (v2).toInt64) fun P3 =>
    some ((0 : Int32), P3))
    (fun P9 => some ((1 : Int32), P9)) (fun _ => none) (fun _ => none)
theorem t_82_1 {xs : Nat × (Nat → Int32)} {d : Nat} (N : Nat) : ∀ (a1 : Int32) (P : ab_P), ab_tr xs wI (d + 4) 82 0 [] [.inr (11, 0, 0, 0), .inl (.int a1), .inr (22, 1, 0, 570), ab_top] [] P (f_82_1 N a1 P) := by
  intro a1 P
  unfold f_82_1
  refine tr_nil (rows2 := kb_82_0) rfl (List.cons_ne_nil _ _) ?_
  refine tr_blk 4 (pc' := 4) (rows' := kb_82_0.drop 4) (loc' := [.inr (11, 0, 0, 0), .inl (.int a1), .inr (22, 1, 0, 570), ab_top]) (st' := [.inl (.int a1), .inr (11, 0, 0, 0), .inl (.int (0 : Int32)), .inr (22, 1, 0, 570)]) (P1 := P) rfl ⟨trivial, trivial, trivial, trivial, trivial⟩ ?_
  refine tr_cah (fun b => some (.inl (.int b))) (zi := km_82) (fun _ => rfl) rfl (z := km_188) (av := [.inr (11, 0, 0, 0), .inl (.int a1)]) (st' := [.inl (.int (0 : Int32)), .inr (22, 1, 0, 570)]) rfl rfl rfl (Nat.le_of_ble_eq_true rfl) ⟨rfl, Or.inl (by decide)⟩ rfl (Nat.le_of_ble_eq_true rfl) (t_188 N a1 P) (fun v2 P1 => ?_) ?_ ?_ ?_
  · refine tr_blk 2 (pc' := 9) (rows' := kb_82_0.drop 7) (loc' := [.inr (11, 0, 0, 0), .inl (.int a1), .inr (22, 1, 0, 570), ab_top]) (st' := []) (P1 := (ab_pL P1 570 0 (v2).toInt64)) rfl ⟨trivial, (ab_vi (by decide)), trivial⟩ ?_
    refine tr_lt (fun P3 => ?_)
    refine tr_goto ?_
    refine tr_nil (rows2 := kb_82_15) rfl (List.cons_ne_nil _ _) ?_
    refine tr_blk 1 (pc' := 16) (rows' := kb_82_15.drop 1) (loc' := [.inr (11, 0, 0, 0), .inl (.int a1), .inr (22, 1, 0, 570), ab_top]) (st' := [.inl (.int (0 : Int32))]) (P1 := P3) rfl ⟨trivial, trivial⟩ ?_
    exact tr_reI (z := km_82) rfl ⟨_, rfl, rfl⟩ rfl
  · exact fun _ => tr_han (rows2 := kb_82_12) (z := km_82) _ (fun q => [.inr (11, 0, 0, 0), .inl (.int a1), .inr (22, 1, 0, 570), .inr (40, 0, 0, q)]) rfl (List.cons_ne_nil _ _) (fun q => rfl) ⟨trivial, trivial, trivial⟩ rfl ⟨_, rfl, rfl⟩ rfl
  · exact fun _ => rfl
  · exact fun _ => rfl
def f_83_53 (H36 : Int32 → Int32 → Int32 → Int32 → ab_P → Option (Int32 × ab_P)) : Nat → Int32 → Int32 → Int32 → Int32 → Int32 → Int32 → ab_P → Option (Int32 × ab_P)
  | 0, _, _, _, _, _, _, _ => none
  | n + 1, x1, x2, x3, x4, x5, x6, P =>
    if x6 < (P.1 477 360) then
      Option.bind (f_144_366 477 P x6) fun v5 =>
      if v5 = (0 : Int32) then
        f_83_53 H36 n x1 x2 x3 x4 (x5 + (0 : Int32)) (x6 + 1) P
      else
      Option.bind (f_135_366 477 P x6 (0 : Int32)) fun v6 =>
      if v6 = x1 then
        Option.bind (f_135_366 477 P x6 (1 : Int32)) fun v7 =>
        if v7 = x4 then
          Option.bind (f_135_366 477 P x6 (2 : Int32)) fun v8 =>
          f_83_53 H36 n x1 x2 x3 x4 (x5 + v8) (x6 + 1) P
        else
        f_83_53 H36 n x1 x2 x3 x4 (x5 + (0 : Int32)) (x6 + 1) P
      else
      f_83_53 H36 n x1 x2 x3 x4 (x5 + (0 : Int32)) (x6 + 1) P
    else
    if x3 < x5 then
      H36 x1 x4 x5 (x4 + 1) P
    else
    H36 x1 x2 x3 (x4 + 1) P
theorem t_83_53 {xs : Nat × (Nat → Int32)} {d : Nat} (H36 : Int32 → Int32 → Int32 → Int32 → ab_P → Option (Int32 × ab_P)) (hH36 : ∀ (x1 : Int32) (x2 : Int32) (x3 : Int32) (x4 : Int32) (d5 : ab_V) (d6 : ab_V) (P : ab_P), ab_tr xs wI (d + 2) 83 36 [] [.inr (12, 0, 0, 72), .inl (.int x1), .inl (.int x2), .inl (.int x3), .inl (.int x4), d5, d6] [] P (H36 x1 x2 x3 x4 P)) : ∀ n : Nat, ∀ (x1 : Int32) (x2 : Int32) (x3 : Int32) (x4 : Int32) (x5 : Int32) (x6 : Int32) (P : ab_P), ab_tr xs wI (d + 2) 83 53 [] [.inr (12, 0, 0, 72), .inl (.int x1), .inl (.int x2), .inl (.int x3), .inl (.int x4), .inl (.int x5), .inl (.int x6)] [] P (f_83_53 H36 n x1 x2 x3 x4 x5 x6 P) := by
  intro n
  induction n with
  | zero => intro x1 x2 x3 x4 x5 x6 P; exact tr_no
  | succ n ih =>
    intro x1 x2 x3 x4 x5 x6 P
    refine tr_nil (rows2 := kb_83_53) rfl (List.cons_ne_nil _ _) ?_
    refine tr_blk 5 (pc' := 63) (rows' := kb_83_53.drop 5) (loc' := [.inr (12, 0, 0, 72), .inl (.int x1), .inl (.int x2), .inl (.int x3), .inl (.int x4), .inl (.int x5), .inl (.int x6)]) (st' := [.inl (.int (P.1 477 360)), .inl (.int x6)]) (P1 := P) rfl ⟨trivial, trivial, trivial, trivial, (ab_vi (by decide)), trivial⟩ ?_
    refine tr_if (fun h9 => ?_) (fun h9 => ?_)
    · refine tr_icF (cd := .ge) (Int32.not_le.mpr h9) ?_
      refine tr_blk 4 (pc' := 74) (rows' := kb_83_53.drop 10) (loc' := [.inr (12, 0, 0, 72), .inl (.int x1), .inl (.int x2), .inl (.int x3), .inl (.int x4), .inl (.int x5), .inl (.int x6)]) (st' := [.inl (.int x6), .inr (20, 366, 0, 477), .inl (.int x5)]) (P1 := P) rfl ⟨trivial, trivial, trivial, trivial, trivial⟩ ?_
      refine tr_cRI (z := km_144) (av := [.inr (20, 366, 0, 477), .inl (.int x6)]) (st' := [.inl (.int x5)]) rfl rfl rfl (Nat.le_of_ble_eq_true rfl) trivial rfl (Nat.le_of_ble_eq_true rfl) (t_144_366 477 P x6) (fun v5 => ?_)
      refine tr_if (fun h11 => ?_) (fun h11 => ?_)
      · refine tr_ifT (cd := .eq) h11 ?_
        refine tr_nil (rows2 := kb_83_122) rfl (List.cons_ne_nil _ _) ?_
        refine tr_blk 1 (pc' := 123) (rows' := kb_83_122.drop 1) (loc' := [.inr (12, 0, 0, 72), .inl (.int x1), .inl (.int x2), .inl (.int x3), .inl (.int x4), .inl (.int x5), .inl (.int x6)]) (st' := [.inl (.int (0 : Int32)), .inl (.int x5)]) (P1 := P) rfl ⟨trivial, trivial⟩ ?_
        refine tr_nil (rows2 := kb_83_123) rfl (List.cons_ne_nil _ _) ?_
        refine tr_blk 3 (pc' := 129) (rows' := kb_83_123.drop 3) (loc' := [.inr (12, 0, 0, 72), .inl (.int x1), .inl (.int x2), .inl (.int x3), .inl (.int x4), .inl (.int (x5 + (0 : Int32))), .inl (.int (x6 + 1))]) (st' := []) (P1 := P) rfl ⟨trivial, trivial, trivial, trivial⟩ ?_
        refine tr_goto ?_
        exact ih x1 x2 x3 x4 (x5 + (0 : Int32)) (x6 + 1) P
      · refine tr_ifF (cd := .eq) h11 ?_
        refine tr_blk 4 (pc' := 87) (rows' := kb_83_53.drop 16) (loc' := [.inr (12, 0, 0, 72), .inl (.int x1), .inl (.int x2), .inl (.int x3), .inl (.int x4), .inl (.int x5), .inl (.int x6)]) (st' := [.inl (.int (0 : Int32)), .inl (.int x6), .inr (20, 366, 0, 477), .inl (.int x5)]) (P1 := P) rfl ⟨trivial, trivial, trivial, trivial, trivial⟩ ?_
        refine tr_cRI (z := km_135) (av := [.inr (20, 366, 0, 477), .inl (.int x6), .inl (.int (0 : Int32))]) (st' := [.inl (.int x5)]) rfl rfl rfl (Nat.le_of_ble_eq_true rfl) trivial rfl (Nat.le_of_ble_eq_true rfl) (t_135_366 477 P x6 (0 : Int32)) (fun v6 => ?_)
        refine tr_blk 1 (pc' := 91) (rows' := kb_83_53.drop 18) (loc' := [.inr (12, 0, 0, 72), .inl (.int x1), .inl (.int x2), .inl (.int x3), .inl (.int x4), .inl (.int x5), .inl (.int x6)]) (st' := [.inl (.int x1), .inl (.int v6), .inl (.int x5)]) (P1 := P) rfl ⟨trivial, trivial⟩ ?_
        refine tr_if (fun h12 => ?_) (fun h12 => ?_)
        · refine tr_icF (cd := .ne) (fun q => q h12) ?_
          refine tr_blk 4 (pc' := 101) (rows' := kb_83_53.drop 23) (loc' := [.inr (12, 0, 0, 72), .inl (.int x1), .inl (.int x2), .inl (.int x3), .inl (.int x4), .inl (.int x5), .inl (.int x6)]) (st' := [.inl (.int (1 : Int32)), .inl (.int x6), .inr (20, 366, 0, 477), .inl (.int x5)]) (P1 := P) rfl ⟨trivial, trivial, trivial, trivial, trivial⟩ ?_
          refine tr_cRI (z := km_135) (av := [.inr (20, 366, 0, 477), .inl (.int x6), .inl (.int (1 : Int32))]) (st' := [.inl (.int x5)]) rfl rfl rfl (Nat.le_of_ble_eq_true rfl) trivial rfl (Nat.le_of_ble_eq_true rfl) (t_135_366 477 P x6 (1 : Int32)) (fun v7 => ?_)
          refine tr_blk 1 (pc' := 106) (rows' := kb_83_53.drop 25) (loc' := [.inr (12, 0, 0, 72), .inl (.int x1), .inl (.int x2), .inl (.int x3), .inl (.int x4), .inl (.int x5), .inl (.int x6)]) (st' := [.inl (.int x4), .inl (.int v7), .inl (.int x5)]) (P1 := P) rfl ⟨trivial, trivial⟩ ?_
          refine tr_if (fun h13 => ?_) (fun h13 => ?_)
          · refine tr_icF (cd := .ne) (fun q => q h13) ?_
            refine tr_blk 4 (pc' := 116) (rows' := kb_83_53.drop 30) (loc' := [.inr (12, 0, 0, 72), .inl (.int x1), .inl (.int x2), .inl (.int x3), .inl (.int x4), .inl (.int x5), .inl (.int x6)]) (st' := [.inl (.int (2 : Int32)), .inl (.int x6), .inr (20, 366, 0, 477), .inl (.int x5)]) (P1 := P) rfl ⟨trivial, trivial, trivial, trivial, trivial⟩ ?_
            refine tr_cRI (z := km_135) (av := [.inr (20, 366, 0, 477), .inl (.int x6), .inl (.int (2 : Int32))]) (st' := [.inl (.int x5)]) rfl rfl rfl (Nat.le_of_ble_eq_true rfl) trivial rfl (Nat.le_of_ble_eq_true rfl) (t_135_366 477 P x6 (2 : Int32)) (fun v8 => ?_)
            refine tr_goto ?_
            refine tr_nil (rows2 := kb_83_123) rfl (List.cons_ne_nil _ _) ?_
            refine tr_blk 3 (pc' := 129) (rows' := kb_83_123.drop 3) (loc' := [.inr (12, 0, 0, 72), .inl (.int x1), .inl (.int x2), .inl (.int x3), .inl (.int x4), .inl (.int (x5 + v8)), .inl (.int (x6 + 1))]) (st' := []) (P1 := P) rfl ⟨trivial, trivial, trivial, trivial⟩ ?_
            refine tr_goto ?_
            exact ih x1 x2 x3 x4 (x5 + v8) (x6 + 1) P
          · refine tr_icT (cd := .ne) h13 ?_
            refine tr_nil (rows2 := kb_83_122) rfl (List.cons_ne_nil _ _) ?_
            refine tr_blk 1 (pc' := 123) (rows' := kb_83_122.drop 1) (loc' := [.inr (12, 0, 0, 72), .inl (.int x1), .inl (.int x2), .inl (.int x3), .inl (.int x4), .inl (.int x5), .inl (.int x6)]) (st' := [.inl (.int (0 : Int32)), .inl (.int x5)]) (P1 := P) rfl ⟨trivial, trivial⟩ ?_
            refine tr_nil (rows2 := kb_83_123) rfl (List.cons_ne_nil _ _) ?_
            refine tr_blk 3 (pc' := 129) (rows' := kb_83_123.drop 3) (loc' := [.inr (12, 0, 0, 72), .inl (.int x1), .inl (.int x2), .inl (.int x3), .inl (.int x4), .inl (.int (x5 + (0 : Int32))), .inl (.int (x6 + 1))]) (st' := []) (P1 := P) rfl ⟨trivial, trivial, trivial, trivial⟩ ?_
            refine tr_goto ?_
            exact ih x1 x2 x3 x4 (x5 + (0 : Int32)) (x6 + 1) P
        · refine tr_icT (cd := .ne) h12 ?_
          refine tr_nil (rows2 := kb_83_122) rfl (List.cons_ne_nil _ _) ?_
          refine tr_blk 1 (pc' := 123) (rows' := kb_83_122.drop 1) (loc' := [.inr (12, 0, 0, 72), .inl (.int x1), .inl (.int x2), .inl (.int x3), .inl (.int x4), .inl (.int x5), .inl (.int x6)]) (st' := [.inl (.int (0 : Int32)), .inl (.int x5)]) (P1 := P) rfl ⟨trivial, trivial⟩ ?_
          refine tr_nil (rows2 := kb_83_123) rfl (List.cons_ne_nil _ _) ?_
          refine tr_blk 3 (pc' := 129) (rows' := kb_83_123.drop 3) (loc' := [.inr (12, 0, 0, 72), .inl (.int x1), .inl (.int x2), .inl (.int x3), .inl (.int x4), .inl (.int (x5 + (0 : Int32))), .inl (.int (x6 + 1))]) (st' := []) (P1 := P) rfl ⟨trivial, trivial, trivial, trivial⟩ ?_
          refine tr_goto ?_
          exact ih x1 x2 x3 x4 (x5 + (0 : Int32)) (x6 + 1) P
    · refine tr_icT (cd := .ge) (Int32.not_lt.mp h9) ?_
      refine tr_nil (rows2 := kb_83_132) rfl (List.cons_ne_nil _ _) ?_
      refine tr_blk 2 (pc' := 135) (rows' := kb_83_132.drop 2) (loc' := [.inr (12, 0, 0, 72), .inl (.int x1), .inl (.int x2), .inl (.int x3), .inl (.int x4), .inl (.int x5), .inl (.int x6)]) (st' := [.inl (.int x3), .inl (.int x5)]) (P1 := P) rfl ⟨trivial, trivial, trivial⟩ ?_
      refine tr_if (fun h10 => ?_) (fun h10 => ?_)
      · refine tr_icT (cd := .gt) h10 ?_
        refine tr_nil (rows2 := kb_83_141) rfl (List.cons_ne_nil _ _) ?_
        refine tr_blk 4 (pc' := 147) (rows' := kb_83_141.drop 4) (loc' := [.inr (12, 0, 0, 72), .inl (.int x1), .inl (.int x4), .inl (.int x5), .inl (.int x4), .inl (.int x5), .inl (.int x6)]) (st' := []) (P1 := P) rfl ⟨trivial, trivial, trivial, trivial, trivial⟩ ?_
        refine tr_nil (rows2 := kb_83_147) rfl (List.cons_ne_nil _ _) ?_
        refine tr_blk 1 (pc' := 150) (rows' := kb_83_147.drop 1) (loc' := [.inr (12, 0, 0, 72), .inl (.int x1), .inl (.int x4), .inl (.int x5), .inl (.int (x4 + 1)), .inl (.int x5), .inl (.int x6)]) (st' := []) (P1 := P) rfl ⟨trivial, trivial⟩ ?_
        refine tr_goto ?_
        exact hH36 x1 x4 x5 (x4 + 1) (.inl (.int x5)) (.inl (.int x6)) P
      · refine tr_icF (cd := .gt) h10 ?_
        refine tr_goto ?_
        refine tr_nil (rows2 := kb_83_147) rfl (List.cons_ne_nil _ _) ?_
        refine tr_blk 1 (pc' := 150) (rows' := kb_83_147.drop 1) (loc' := [.inr (12, 0, 0, 72), .inl (.int x1), .inl (.int x2), .inl (.int x3), .inl (.int (x4 + 1)), .inl (.int x5), .inl (.int x6)]) (st' := []) (P1 := P) rfl ⟨trivial, trivial⟩ ?_
        refine tr_goto ?_
        exact hH36 x1 x2 x3 (x4 + 1) (.inl (.int x5)) (.inl (.int x6)) P
def f_83_36 (N : Nat) : Nat → Int32 → Int32 → Int32 → Int32 → ab_P → Option (Int32 × ab_P)
  | 0, _, _, _, _, _ => none
  | n + 1, x1, x2, x3, x4, P =>
    if x4 < (P.1 76 0) then
      f_83_53 (fun y0 y1 y2 y3 y4 => f_83_36 N n y0 y1 y2 y3 y4) N x1 x2 x3 x4 (0 : Int32) (0 : Int32) P
    else
    some (x2, P)
theorem t_83_36 {xs : Nat × (Nat → Int32)} {d : Nat} (N : Nat) : ∀ n : Nat, ∀ (x1 : Int32) (x2 : Int32) (x3 : Int32) (x4 : Int32) (d5 : ab_V) (d6 : ab_V) (P : ab_P), ab_tr xs wI (d + 2) 83 36 [] [.inr (12, 0, 0, 72), .inl (.int x1), .inl (.int x2), .inl (.int x3), .inl (.int x4), d5, d6] [] P (f_83_36 N n x1 x2 x3 x4 P) := by
  intro n
  induction n with
  | zero => intro x1 x2 x3 x4 d5 d6 P; exact tr_no
  | succ n ih =>
    intro x1 x2 x3 x4 d5 d6 P
    refine tr_nil (rows2 := kb_83_36) rfl (List.cons_ne_nil _ _) ?_
    refine tr_blk 5 (pc' := 44) (rows' := kb_83_36.drop 5) (loc' := [.inr (12, 0, 0, 72), .inl (.int x1), .inl (.int x2), .inl (.int x3), .inl (.int x4), d5, d6]) (st' := [.inl (.int (P.1 76 0)), .inl (.int x4)]) (P1 := P) rfl ⟨trivial, trivial, trivial, trivial, (ab_vi (by decide)), trivial⟩ ?_
    refine tr_if (fun h14 => ?_) (fun h14 => ?_)
    · refine tr_icF (cd := .ge) (Int32.not_le.mpr h14) ?_
      refine tr_blk 4 (pc' := 53) (rows' := kb_83_36.drop 10) (loc' := [.inr (12, 0, 0, 72), .inl (.int x1), .inl (.int x2), .inl (.int x3), .inl (.int x4), .inl (.int (0 : Int32)), .inl (.int (0 : Int32))]) (st' := []) (P1 := P) rfl ⟨trivial, trivial, trivial, trivial, trivial⟩ ?_
      exact t_83_53 _ ih N x1 x2 x3 x4 (0 : Int32) (0 : Int32) P
    · refine tr_icT (cd := .ge) (Int32.not_lt.mp h14) ?_
      refine tr_nil (rows2 := kb_83_153) rfl (List.cons_ne_nil _ _) ?_
      refine tr_blk 1 (pc' := 154) (rows' := kb_83_153.drop 1) (loc' := [.inr (12, 0, 0, 72), .inl (.int x1), .inl (.int x2), .inl (.int x3), .inl (.int x4), d5, d6]) (st' := [.inl (.int x2)]) (P1 := P) rfl ⟨trivial, trivial⟩ ?_
      exact tr_reI (z := km_83) rfl ⟨_, rfl, rfl⟩ rfl
def f_83_19 (N : Nat) (x1 : Int32) (s0 : Int32) (P : ab_P) : Option (Int32 × ab_P) :=
    ab_b2 (f_113 s0 (1 : Int32) (0 : Int32) P) fun v4 P3 =>
    if v4 = (0 : Int32) then
      f_83_36 N N x1 (-1 : Int32) (0 : Int32) (0 : Int32) P3
    else
    some ((0 : Int32), P3)
theorem t_83_19 {xs : Nat × (Nat → Int32)} {d : Nat} (N : Nat) : ∀ (x1 : Int32) (s0 : Int32) (P : ab_P), ab_tr xs wI (d + 2) 83 19 [] [.inr (12, 0, 0, 72), .inl (.int x1), ab_top, ab_top, ab_top, ab_top, ab_top] [.inl (.int s0), .inr (12, 0, 0, 72)] P (f_83_19 N x1 s0 P) := by
  intro x1 s0 P
  unfold f_83_19
  refine tr_nil (rows2 := kb_83_19) rfl (List.cons_ne_nil _ _) ?_
  refine tr_blk 2 (pc' := 21) (rows' := kb_83_19.drop 2) (loc' := [.inr (12, 0, 0, 72), .inl (.int x1), ab_top, ab_top, ab_top, ab_top, ab_top]) (st' := [.inl (.int (0 : Int32)), .inl (.int (1 : Int32)), .inl (.int s0), .inr (12, 0, 0, 72)]) (P1 := P) rfl ⟨trivial, trivial, trivial⟩ ?_
  refine tr_cWI (z := km_113) (av := [.inr (12, 0, 0, 72), .inl (.int s0), .inl (.int (1 : Int32)), .inl (.int (0 : Int32))]) (st' := []) rfl rfl rfl (Nat.le_of_ble_eq_true rfl) ⟨rfl, Or.inl (by decide)⟩ rfl (Nat.le_of_ble_eq_true rfl) (t_113 s0 (1 : Int32) (0 : Int32) P) (fun v4 P3 => ?_)
  refine tr_if (fun h15 => ?_) (fun h15 => ?_)
  · refine tr_ifT (cd := .eq) h15 ?_
    refine tr_nil (rows2 := kb_83_29) rfl (List.cons_ne_nil _ _) ?_
    refine tr_blk 6 (pc' := 36) (rows' := kb_83_29.drop 6) (loc' := [.inr (12, 0, 0, 72), .inl (.int x1), .inl (.int (-1 : Int32)), .inl (.int (0 : Int32)), .inl (.int (0 : Int32)), ab_top, ab_top]) (st' := []) (P1 := P3) rfl ⟨trivial, trivial, trivial, trivial, trivial, trivial, trivial⟩ ?_
    exact t_83_36 N N x1 (-1 : Int32) (0 : Int32) (0 : Int32) (ab_top) (ab_top) P3
  · refine tr_ifF (cd := .eq) h15 ?_
    refine tr_blk 1 (pc' := 28) (rows' := kb_83_19.drop 5) (loc' := [.inr (12, 0, 0, 72), .inl (.int x1), ab_top, ab_top, ab_top, ab_top, ab_top]) (st' := [.inl (.int (0 : Int32))]) (P1 := P3) rfl ⟨trivial, trivial⟩ ?_
    exact tr_reI (z := km_83) rfl ⟨_, rfl, rfl⟩ rfl
def f_83 (N : Nat) (a1 : Int32) (P : ab_P) : Option (Int32 × ab_P) :=
    ab_lt (ab_pI P 72 0 (0 : Int32)) fun P1 =>
    Option.bind (f_137 P1 a1) fun v2 =>
    if v2 = (0 : Int32) then
      f_83_19 N a1 (1 : Int32) P1
    else
    f_83_19 N a1 (0 : Int32) P1
theorem t_83 {xs : Nat × (Nat → Int32)} {d : Nat} (N : Nat) : ∀ (a1 : Int32) (P : ab_P), ab_tr xs wI (d + 2) 83 0 [] [.inr (12, 0, 0, 72), .inl (.int a1), ab_top, ab_top, ab_top, ab_top, ab_top] [] P (f_83 N a1 P) := by
  intro a1 P
  unfold f_83
  refine tr_nil (rows2 := kb_83_0) rfl (List.cons_ne_nil _ _) ?_
  refine tr_blk 3 (pc' := 5) (rows' := kb_83_0.drop 3) (loc' := [.inr (12, 0, 0, 72), .inl (.int a1), ab_top, ab_top, ab_top, ab_top, ab_top]) (st' := []) (P1 := (ab_pI P 72 0 (0 : Int32))) rfl ⟨trivial, trivial, trivial, trivial⟩ ?_
  refine tr_lt (fun P1 => ?_)
  refine tr_blk 3 (pc' := 8) (rows' := kb_83_0.drop 6) (loc' := [.inr (12, 0, 0, 72), .inl (.int a1), ab_top, ab_top, ab_top, ab_top, ab_top]) (st' := [.inl (.int a1), .inr (12, 0, 0, 72), .inr (12, 0, 0, 72)]) (P1 := P1) rfl ⟨trivial, trivial, trivial, trivial⟩ ?_
  refine tr_cRI (z := km_137) (av := [.inr (12, 0, 0, 72), .inl (.int a1)]) (st' := [.inr (12, 0, 0, 72)]) rfl rfl rfl (Nat.le_of_ble_eq_true rfl) ⟨rfl, Or.inl (by decide)⟩ rfl (Nat.le_of_ble_eq_true rfl) (t_137 P1 a1) (fun v2 => ?_)
  refine tr_if (fun h16 => ?_) (fun h16 => ?_)
  · refine tr_ifF (cd := .ne) (fun q => q h16) ?_
    refine tr_blk 1 (pc' := 15) (rows' := kb_83_0.drop 9) (loc' := [.inr (12, 0, 0, 72), .inl (.int a1), ab_top, ab_top, ab_top, ab_top, ab_top]) (st' := [.inl (.int (1 : Int32)), .inr (12, 0, 0, 72)]) (P1 := P1) rfl ⟨trivial, trivial⟩ ?_
    refine tr_goto ?_
    exact t_83_19 N a1 (1 : Int32) P1
  · refine tr_ifT (cd := .ne) h16 ?_
    refine tr_nil (rows2 := kb_83_18) rfl (List.cons_ne_nil _ _) ?_
    refine tr_blk 1 (pc' := 19) (rows' := kb_83_18.drop 1) (loc' := [.inr (12, 0, 0, 72), .inl (.int a1), ab_top, ab_top, ab_top, ab_top, ab_top]) (st' := [.inl (.int (0 : Int32)), .inr (12, 0, 0, 72)]) (P1 := P1) rfl ⟨trivial, trivial⟩ ?_
    exact t_83_19 N a1 (0 : Int32) P1
def f_273 (a1 : Int32) (a2 : Int32) (a3 : Int32) (P : ab_P) : Option ((Unit ⊕ Fin 3) × ab_P) :=
    Option.bind (f_240 P a1 (1 : Int32) (30 : Int32)) fun v1 =>
    if v1 = (0 : Int32) then
      ab_x2 (f_228 (0 : Int32) P) (fun _ P2 =>
      some (.inl (), P2)) (fun q => q)
    else
    Option.bind (f_240 P a2 (0 : Int32) (16 : Int32)) fun v3 =>
    if v3 = (0 : Int32) then
      ab_x2 (f_228 (0 : Int32) P) (fun _ P4 =>
      some (.inl (), P4)) (fun q => q)
    else
    Option.bind (f_240 P a3 (0 : Int32) (16 : Int32)) fun v5 =>
    if v5 = (0 : Int32) then
      ab_x2 (f_228 (0 : Int32) P) (fun _ P6 =>
      some (.inl (), P6)) (fun q => q)
    else
    ab_x2 (f_228 (1 : Int32) P) (fun _ P7 =>
    some (.inl (), P7)) (fun q => q)
theorem t_273 {xs : Nat × (Nat → Int32)} {d : Nat} : ∀ (a1 : Int32) (a2 : Int32) (a3 : Int32) (P : ab_P), ab_tr xs xV (d + 1) 273 0 [] [.inr (11, 0, 0, 0), .inl (.int a1), .inl (.int a2), .inl (.int a3)] [] P (f_273 a1 a2 a3 P) := by
  intro a1 a2 a3 P
  unfold f_273
  refine tr_nil (rows2 := kb_273_0) rfl (List.cons_ne_nil _ _) ?_
  refine tr_blk 4 (pc' := 5) (rows' := kb_273_0.drop 4) (loc' := [.inr (11, 0, 0, 0), .inl (.int a1), .inl (.int a2), .inl (.int a3)]) (st' := [.inl (.int (30 : Int32)), .inl (.int (1 : Int32)), .inl (.int a1), .inr (11, 0, 0, 0)]) (P1 := P) rfl ⟨trivial, trivial, trivial, trivial, trivial⟩ ?_
  refine tr_cRI (z := km_240) (av := [.inl (.int a1), .inl (.int (1 : Int32)), .inl (.int (30 : Int32))]) (st' := [.inr (11, 0, 0, 0)]) rfl rfl rfl (Nat.le_of_ble_eq_true rfl) trivial rfl (Nat.le_of_ble_eq_true rfl) (t_240 P a1 (1 : Int32) (30 : Int32)) (fun v1 => ?_)
  refine tr_if (fun h8 => ?_) (fun h8 => ?_)
  · refine tr_ifT (cd := .eq) h8 ?_
    refine tr_nil (rows2 := kb_273_35) rfl (List.cons_ne_nil _ _) ?_
    refine tr_blk 1 (pc' := 36) (rows' := kb_273_35.drop 1) (loc' := [.inr (11, 0, 0, 0), .inl (.int a1), .inl (.int a2), .inl (.int a3)]) (st' := [.inl (.int (0 : Int32)), .inr (11, 0, 0, 0)]) (P1 := P) rfl ⟨trivial, trivial⟩ ?_
    refine tr_nil (rows2 := kb_273_36) rfl (List.cons_ne_nil _ _) ?_
    refine tr_cax (fun _ => none) (zi := km_273) (fun _ => rfl) (fun _ _ => rfl) rfl rfl (z := km_228) (av := [.inr (11, 0, 0, 0), .inl (.int (0 : Int32))]) (st' := []) rfl rfl rfl (Nat.le_of_ble_eq_true rfl) ⟨rfl, Or.inl (by decide)⟩ rfl (Nat.le_of_ble_eq_true rfl) (t_228 (0 : Int32) P) (fun _ P2 => ?_)
    exact tr_reV (z := km_273) rfl rfl rfl
  · refine tr_ifF (cd := .eq) h8 ?_
    refine tr_blk 3 (pc' := 15) (rows' := kb_273_0.drop 9) (loc' := [.inr (11, 0, 0, 0), .inl (.int a1), .inl (.int a2), .inl (.int a3)]) (st' := [.inl (.int (16 : Int32)), .inl (.int (0 : Int32)), .inl (.int a2), .inr (11, 0, 0, 0)]) (P1 := P) rfl ⟨trivial, trivial, trivial, trivial⟩ ?_
    refine tr_cRI (z := km_240) (av := [.inl (.int a2), .inl (.int (0 : Int32)), .inl (.int (16 : Int32))]) (st' := [.inr (11, 0, 0, 0)]) rfl rfl rfl (Nat.le_of_ble_eq_true rfl) trivial rfl (Nat.le_of_ble_eq_true rfl) (t_240 P a2 (0 : Int32) (16 : Int32)) (fun v3 => ?_)
    refine tr_if (fun h9 => ?_) (fun h9 => ?_)
    · refine tr_ifT (cd := .eq) h9 ?_
      refine tr_nil (rows2 := kb_273_35) rfl (List.cons_ne_nil _ _) ?_
      refine tr_blk 1 (pc' := 36) (rows' := kb_273_35.drop 1) (loc' := [.inr (11, 0, 0, 0), .inl (.int a1), .inl (.int a2), .inl (.int a3)]) (st' := [.inl (.int (0 : Int32)), .inr (11, 0, 0, 0)]) (P1 := P) rfl ⟨trivial, trivial⟩ ?_
      refine tr_nil (rows2 := kb_273_36) rfl (List.cons_ne_nil _ _) ?_
      refine tr_cax (fun _ => none) (zi := km_273) (fun _ => rfl) (fun _ _ => rfl) rfl rfl (z := km_228) (av := [.inr (11, 0, 0, 0), .inl (.int (0 : Int32))]) (st' := []) rfl rfl rfl (Nat.le_of_ble_eq_true rfl) ⟨rfl, Or.inl (by decide)⟩ rfl (Nat.le_of_ble_eq_true rfl) (t_228 (0 : Int32) P) (fun _ P4 => ?_)
      exact tr_reV (z := km_273) rfl rfl rfl
    · refine tr_ifF (cd := .eq) h9 ?_
      refine tr_blk 3 (pc' := 25) (rows' := kb_273_0.drop 14) (loc' := [.inr (11, 0, 0, 0), .inl (.int a1), .inl (.int a2), .inl (.int a3)]) (st' := [.inl (.int (16 : Int32)), .inl (.int (0 : Int32)), .inl (.int a3), .inr (11, 0, 0, 0)]) (P1 := P) rfl ⟨trivial, trivial, trivial, trivial⟩ ?_
      refine tr_cRI (z := km_240) (av := [.inl (.int a3), .inl (.int (0 : Int32)), .inl (.int (16 : Int32))]) (st' := [.inr (11, 0, 0, 0)]) rfl rfl rfl (Nat.le_of_ble_eq_true rfl) trivial rfl (Nat.le_of_ble_eq_true rfl) (t_240 P a3 (0 : Int32) (16 : Int32)) (fun v5 => ?_)
      refine tr_if (fun h10 => ?_) (fun h10 => ?_)
      · refine tr_ifT (cd := .eq) h10 ?_
        refine tr_nil (rows2 := kb_273_35) rfl (List.cons_ne_nil _ _) ?_
        refine tr_blk 1 (pc' := 36) (rows' := kb_273_35.drop 1) (loc' := [.inr (11, 0, 0, 0), .inl (.int a1), .inl (.int a2), .inl (.int a3)]) (st' := [.inl (.int (0 : Int32)), .inr (11, 0, 0, 0)]) (P1 := P) rfl ⟨trivial, trivial⟩ ?_
        refine tr_nil (rows2 := kb_273_36) rfl (List.cons_ne_nil _ _) ?_
        refine tr_cax (fun _ => none) (zi := km_273) (fun _ => rfl) (fun _ _ => rfl) rfl rfl (z := km_228) (av := [.inr (11, 0, 0, 0), .inl (.int (0 : Int32))]) (st' := []) rfl rfl rfl (Nat.le_of_ble_eq_true rfl) ⟨rfl, Or.inl (by decide)⟩ rfl (Nat.le_of_ble_eq_true rfl) (t_228 (0 : Int32) P) (fun _ P6 => ?_)
        exact tr_reV (z := km_273) rfl rfl rfl
      · refine tr_ifF (cd := .eq) h10 ?_
        refine tr_blk 1 (pc' := 32) (rows' := kb_273_0.drop 17) (loc' := [.inr (11, 0, 0, 0), .inl (.int a1), .inl (.int a2), .inl (.int a3)]) (st' := [.inl (.int (1 : Int32)), .inr (11, 0, 0, 0)]) (P1 := P) rfl ⟨trivial, trivial⟩ ?_
        refine tr_goto ?_
        refine tr_nil (rows2 := kb_273_36) rfl (List.cons_ne_nil _ _) ?_
        refine tr_cax (fun _ => none) (zi := km_273) (fun _ => rfl) (fun _ _ => rfl) rfl rfl (z := km_228) (av := [.inr (11, 0, 0, 0), .inl (.int (1 : Int32))]) (st' := []) rfl rfl rfl (Nat.le_of_ble_eq_true rfl) ⟨rfl, Or.inl (by decide)⟩ rfl (Nat.le_of_ble_eq_true rfl) (t_228 (1 : Int32) P) (fun _ P7 => ?_)
        exact tr_reV (z := km_273) rfl rfl rfl
def f_316 (a1 : Int32) (P : ab_P) : Option (Int32 × ab_P) :=
    ab_lt (ab_pI P 61 3 (((P.1 61 3) * (1103515245 : Int32)) + (12345 : Int32))) fun P1 =>
    if (0 : Int32) < a1 then
      if ¬ a1 = 0 then
      some ((((((P1.1 61 3)).toUInt32 >>> (((16 : Int32)).toUInt32 &&& Int32.toUInt32 31)).toInt32 &&& (32767 : Int32)) - ((((P1.1 61 3)).toUInt32 >>> (((16 : Int32)).toUInt32 &&& Int32.toUInt32 31)).toInt32 &&& (32767 : Int32)) / a1 * a1), P1)
      else none
    else
    some ((0 : Int32), P1)
theorem t_316 {xs : Nat × (Nat → Int32)} {d : Nat} : ∀ (a1 : Int32) (P : ab_P), ab_tr xs wI (d + 0) 316 0 [] [.inr (7, 0, 0, 61), .inl (.int a1), ab_top] [] P (f_316 a1 P) := by
  intro a1 P
  unfold f_316
  refine tr_nil (rows2 := kb_316_0) rfl (List.cons_ne_nil _ _) ?_
  refine tr_blk 8 (pc' := 15) (rows' := kb_316_0.drop 8) (loc' := [.inr (7, 0, 0, 61), .inl (.int a1), ab_top]) (st' := []) (P1 := (ab_pI P 61 3 (((P.1 61 3) * (1103515245 : Int32)) + (12345 : Int32)))) rfl ⟨trivial, trivial, trivial, trivial, trivial, trivial, trivial, trivial, trivial⟩ ?_
  refine tr_lt (fun P1 => ?_)
  refine tr_blk 8 (pc' := 28) (rows' := kb_316_0.drop 16) (loc' := [.inr (7, 0, 0, 61), .inl (.int a1), .inl (.int ((((P1.1 61 3)).toUInt32 >>> (((16 : Int32)).toUInt32 &&& Int32.toUInt32 31)).toInt32 &&& (32767 : Int32)))]) (st' := [.inl (.int a1)]) (P1 := P1) rfl ⟨trivial, trivial, trivial, trivial, trivial, trivial, trivial, trivial, trivial⟩ ?_
  refine tr_if (fun h3 => ?_) (fun h3 => ?_)
  · refine tr_ifF (cd := .le) (Int32.not_le.mpr h3) ?_
    refine tr_gd (fun h2 => ?_)
    refine tr_blk 3 (pc' := 34) (rows' := kb_316_0.drop 20) (loc' := [.inr (7, 0, 0, 61), .inl (.int a1), .inl (.int ((((P1.1 61 3)).toUInt32 >>> (((16 : Int32)).toUInt32 &&& Int32.toUInt32 31)).toInt32 &&& (32767 : Int32)))]) (st' := [.inl (.int (((((P1.1 61 3)).toUInt32 >>> (((16 : Int32)).toUInt32 &&& Int32.toUInt32 31)).toInt32 &&& (32767 : Int32)) - ((((P1.1 61 3)).toUInt32 >>> (((16 : Int32)).toUInt32 &&& Int32.toUInt32 31)).toInt32 &&& (32767 : Int32)) / a1 * a1))]) (P1 := P1) rfl ⟨trivial, trivial, h2, trivial⟩ ?_
    refine tr_goto ?_
    refine tr_nil (rows2 := kb_316_38) rfl (List.cons_ne_nil _ _) ?_
    exact tr_reI (z := km_316) rfl ⟨_, rfl, rfl⟩ rfl
  · refine tr_ifT (cd := .le) (Int32.not_lt.mp h3) ?_
    refine tr_nil (rows2 := kb_316_37) rfl (List.cons_ne_nil _ _) ?_
    refine tr_blk 1 (pc' := 38) (rows' := kb_316_37.drop 1) (loc' := [.inr (7, 0, 0, 61), .inl (.int a1), .inl (.int ((((P1.1 61 3)).toUInt32 >>> (((16 : Int32)).toUInt32 &&& Int32.toUInt32 31)).toInt32 &&& (32767 : Int32)))]) (st' := [.inl (.int (0 : Int32))]) (P1 := P1) rfl ⟨trivial, trivial⟩ ?_
    refine tr_nil (rows2 := kb_316_38) rfl (List.cons_ne_nil _ _) ?_
    exact tr_reI (z := km_316) rfl ⟨_, rfl, rfl⟩ rfl
def f_346_4 (i0 : Nat) (P : ab_P) : Nat → Int32 → Int32 → Option Int32
  | 0, _, _ => none
  | n + 1, x1, x2 =>
    if x2 < (P.1 i0 2) then
      Option.bind (f_263 i0 P x2) fun v1 =>
      if v1 = (0 : Int32) then
        f_346_4 i0 P n x1 (x2 + 1)
      else
      if x1 = (-1 : Int32) then
        f_346_4 i0 P n x2 (x2 + 1)
      else
      Option.bind (f_231 i0 P (2 : Int32) x2) fun v2 =>
      Option.bind (f_231 i0 P (2 : Int32) x1) fun v3 =>
      if v3 < v2 then
        f_346_4 i0 P n x2 (x2 + 1)
      else
      f_346_4 i0 P n x1 (x2 + 1)
    else
    some x1
theorem t_346_4 {xs : Nat × (Nat → Int32)} {d : Nat} (i0 : Nat) (P : ab_P) : ∀ n : Nat, ∀ (x1 : Int32) (x2 : Int32), ab_tr xs (rI P) (d + 2) 346 4 [] [.inr (6, 0, 0, i0), .inl (.int x1), .inl (.int x2)] [] P (f_346_4 i0 P n x1 x2) := by
  intro n
  induction n with
  | zero => intro x1 x2; exact tr_no
  | succ n ih =>
    intro x1 x2
    refine tr_nil (rows2 := kb_346_4) rfl (List.cons_ne_nil _ _) ?_
    refine tr_blk 3 (pc' := 9) (rows' := kb_346_4.drop 3) (loc' := [.inr (6, 0, 0, i0), .inl (.int x1), .inl (.int x2)]) (st' := [.inl (.int (P.1 i0 2)), .inl (.int x2)]) (P1 := P) rfl ⟨trivial, trivial, trivial, trivial⟩ ?_
    refine tr_if (fun h4 => ?_) (fun h4 => ?_)
    · refine tr_icF (cd := .ge) (Int32.not_le.mpr h4) ?_
      refine tr_blk 2 (pc' := 14) (rows' := kb_346_4.drop 6) (loc' := [.inr (6, 0, 0, i0), .inl (.int x1), .inl (.int x2)]) (st' := [.inl (.int x2), .inr (6, 0, 0, i0)]) (P1 := P) rfl ⟨trivial, trivial, trivial⟩ ?_
      refine tr_cRI (z := km_263) (av := [.inr (6, 0, 0, i0), .inl (.int x2)]) (st' := []) rfl rfl rfl (Nat.le_of_ble_eq_true rfl) ⟨rfl, Or.inl (by decide)⟩ rfl (Nat.le_of_ble_eq_true rfl) (t_263 i0 P x2) (fun v1 => ?_)
      refine tr_if (fun h5 => ?_) (fun h5 => ?_)
      · refine tr_ifT (cd := .eq) h5 ?_
        refine tr_nil (rows2 := kb_346_42) rfl (List.cons_ne_nil _ _) ?_
        refine tr_blk 1 (pc' := 45) (rows' := kb_346_42.drop 1) (loc' := [.inr (6, 0, 0, i0), .inl (.int x1), .inl (.int (x2 + 1))]) (st' := []) (P1 := P) rfl ⟨trivial, trivial⟩ ?_
        refine tr_goto ?_
        exact ih x1 (x2 + 1)
      · refine tr_ifF (cd := .eq) h5 ?_
        refine tr_blk 2 (pc' := 22) (rows' := kb_346_4.drop 10) (loc' := [.inr (6, 0, 0, i0), .inl (.int x1), .inl (.int x2)]) (st' := [.inl (.int (-1 : Int32)), .inl (.int x1)]) (P1 := P) rfl ⟨trivial, trivial, trivial⟩ ?_
        refine tr_if (fun h6 => ?_) (fun h6 => ?_)
        · refine tr_icT (cd := .eq) h6 ?_
          refine tr_nil (rows2 := kb_346_40) rfl (List.cons_ne_nil _ _) ?_
          refine tr_blk 2 (pc' := 42) (rows' := kb_346_40.drop 2) (loc' := [.inr (6, 0, 0, i0), .inl (.int x2), .inl (.int x2)]) (st' := []) (P1 := P) rfl ⟨trivial, trivial, trivial⟩ ?_
          refine tr_nil (rows2 := kb_346_42) rfl (List.cons_ne_nil _ _) ?_
          refine tr_blk 1 (pc' := 45) (rows' := kb_346_42.drop 1) (loc' := [.inr (6, 0, 0, i0), .inl (.int x2), .inl (.int (x2 + 1))]) (st' := []) (P1 := P) rfl ⟨trivial, trivial⟩ ?_
          refine tr_goto ?_
          exact ih x2 (x2 + 1)
        · refine tr_icF (cd := .eq) h6 ?_
          refine tr_blk 3 (pc' := 28) (rows' := kb_346_4.drop 14) (loc' := [.inr (6, 0, 0, i0), .inl (.int x1), .inl (.int x2)]) (st' := [.inl (.int x2), .inl (.int (2 : Int32)), .inr (6, 0, 0, i0)]) (P1 := P) rfl ⟨trivial, trivial, trivial, trivial⟩ ?_
          refine tr_cRI (z := km_231) (av := [.inr (6, 0, 0, i0), .inl (.int (2 : Int32)), .inl (.int x2)]) (st' := []) rfl rfl rfl (Nat.le_of_ble_eq_true rfl) ⟨rfl, Or.inl (by decide)⟩ rfl (Nat.le_of_ble_eq_true rfl) (t_231 i0 P (2 : Int32) x2) (fun v2 => ?_)
          refine tr_blk 3 (pc' := 34) (rows' := kb_346_4.drop 18) (loc' := [.inr (6, 0, 0, i0), .inl (.int x1), .inl (.int x2)]) (st' := [.inl (.int x1), .inl (.int (2 : Int32)), .inr (6, 0, 0, i0), .inl (.int v2)]) (P1 := P) rfl ⟨trivial, trivial, trivial, trivial⟩ ?_
          refine tr_cRI (z := km_231) (av := [.inr (6, 0, 0, i0), .inl (.int (2 : Int32)), .inl (.int x1)]) (st' := [.inl (.int v2)]) rfl rfl rfl (Nat.le_of_ble_eq_true rfl) ⟨rfl, Or.inl (by decide)⟩ rfl (Nat.le_of_ble_eq_true rfl) (t_231 i0 P (2 : Int32) x1) (fun v3 => ?_)
          refine tr_if (fun h7 => ?_) (fun h7 => ?_)
          · refine tr_icF (cd := .le) (Int32.not_le.mpr h7) ?_
            refine tr_nil (rows2 := kb_346_40) rfl (List.cons_ne_nil _ _) ?_
            refine tr_blk 2 (pc' := 42) (rows' := kb_346_40.drop 2) (loc' := [.inr (6, 0, 0, i0), .inl (.int x2), .inl (.int x2)]) (st' := []) (P1 := P) rfl ⟨trivial, trivial, trivial⟩ ?_
            refine tr_nil (rows2 := kb_346_42) rfl (List.cons_ne_nil _ _) ?_
            refine tr_blk 1 (pc' := 45) (rows' := kb_346_42.drop 1) (loc' := [.inr (6, 0, 0, i0), .inl (.int x2), .inl (.int (x2 + 1))]) (st' := []) (P1 := P) rfl ⟨trivial, trivial⟩ ?_
            refine tr_goto ?_
            exact ih x2 (x2 + 1)
          · refine tr_icT (cd := .le) (Int32.not_lt.mp h7) ?_
            refine tr_nil (rows2 := kb_346_42) rfl (List.cons_ne_nil _ _) ?_
            refine tr_blk 1 (pc' := 45) (rows' := kb_346_42.drop 1) (loc' := [.inr (6, 0, 0, i0), .inl (.int x1), .inl (.int (x2 + 1))]) (st' := []) (P1 := P) rfl ⟨trivial, trivial⟩ ?_
            refine tr_goto ?_
            exact ih x1 (x2 + 1)
    · refine tr_icT (cd := .ge) (Int32.not_lt.mp h4) ?_
      refine tr_nil (rows2 := kb_346_48) rfl (List.cons_ne_nil _ _) ?_
      refine tr_blk 1 (pc' := 49) (rows' := kb_346_48.drop 1) (loc' := [.inr (6, 0, 0, i0), .inl (.int x1), .inl (.int x2)]) (st' := [.inl (.int x1)]) (P1 := P) rfl ⟨trivial, trivial⟩ ?_
      exact tr_reI (z := km_346) rfl ⟨_, rfl, rfl⟩ rfl
def f_346 (i0 : Nat) (N : Nat) (P : ab_P) : Option Int32 :=
    f_346_4 i0 P N (-1 : Int32) (0 : Int32)
theorem t_346 {xs : Nat × (Nat → Int32)} {d : Nat} (i0 : Nat) (N : Nat) (P : ab_P) : ab_tr xs (rI P) (d + 2) 346 0 [] [.inr (6, 0, 0, i0), ab_top, ab_top] [] P (f_346 i0 N P) := by
  unfold f_346
  refine tr_nil (rows2 := kb_346_0) rfl (List.cons_ne_nil _ _) ?_
  refine tr_blk 4 (pc' := 4) (rows' := kb_346_0.drop 4) (loc' := [.inr (6, 0, 0, i0), .inl (.int (-1 : Int32)), .inl (.int (0 : Int32))]) (st' := []) (P1 := P) rfl ⟨trivial, trivial, trivial, trivial, trivial⟩ ?_
  exact t_346_4 i0 P N (-1 : Int32) (0 : Int32)
def f_318 (N : Nat) (P : ab_P) : Option ab_P :=
    Option.bind (f_346 62 N P) fun v1 =>
    ab_b2 (f_339 62 v1 (2 : Int32) P) fun v3 P2 =>
    if v3 = (0 : Int32) then
      some P2
    else
    Option.bind (f_231 62 P2 (2 : Int32) v1) fun v4 =>
    ab_lt (ab_pI P2 61 4 ((P2.1 61 4) + v4)) fun P5 =>
    some P5
theorem t_318 {xs : Nat × (Nat → Int32)} {d : Nat} (N : Nat) : ∀ (P : ab_P), ab_tr xs wV (d + 3) 318 0 [] [.inr (7, 0, 0, 61), ab_top] [] P (f_318 N P) := by
  intro P
  unfold f_318
  refine tr_nil (rows2 := kb_318_0) rfl (List.cons_ne_nil _ _) ?_
  refine tr_blk 2 (pc' := 4) (rows' := kb_318_0.drop 2) (loc' := [.inr (7, 0, 0, 61), ab_top]) (st' := [.inr (6, 0, 0, 62)]) (P1 := P) rfl ⟨trivial, trivial, trivial⟩ ?_
  refine tr_cRI (z := km_346) (av := [.inr (6, 0, 0, 62)]) (st' := []) rfl rfl rfl (Nat.le_of_ble_eq_true rfl) ⟨rfl, Or.inl (by decide)⟩ rfl (Nat.le_of_ble_eq_true rfl) (t_346 62 N P) (fun v1 => ?_)
  refine tr_blk 5 (pc' := 14) (rows' := kb_318_0.drop 8) (loc' := [.inr (7, 0, 0, 61), .inl (.int v1)]) (st' := [.inl (.int (2 : Int32)), .inl (.int v1), .inr (6, 0, 0, 62)]) (P1 := P) rfl ⟨trivial, trivial, trivial, trivial, trivial, trivial⟩ ?_
  refine tr_cWI (z := km_339) (av := [.inr (6, 0, 0, 62), .inl (.int v1), .inl (.int (2 : Int32))]) (st' := []) rfl rfl rfl (Nat.le_of_ble_eq_true rfl) ⟨rfl, Or.inl (by decide)⟩ rfl (Nat.le_of_ble_eq_true rfl) (t_339 62 v1 (2 : Int32) P) (fun v3 P2 => ?_)
  refine tr_if (fun h6 => ?_) (fun h6 => ?_)
  · refine tr_ifT (cd := .eq) h6 ?_
    refine tr_nil (rows2 := kb_318_38) rfl (List.cons_ne_nil _ _) ?_
    exact tr_reV (z := km_318) rfl rfl rfl
  · refine tr_ifF (cd := .eq) h6 ?_
    refine tr_blk 7 (pc' := 31) (rows' := kb_318_0.drop 17) (loc' := [.inr (7, 0, 0, 61), .inl (.int v1)]) (st' := [.inl (.int v1), .inl (.int (2 : Int32)), .inr (6, 0, 0, 62), .inl (.int (P2.1 61 4)), .inr (7, 0, 0, 61)]) (P1 := P2) rfl ⟨trivial, trivial, trivial, trivial, trivial, trivial, trivial, trivial⟩ ?_
    refine tr_cRI (z := km_231) (av := [.inr (6, 0, 0, 62), .inl (.int (2 : Int32)), .inl (.int v1)]) (st' := [.inl (.int (P2.1 61 4)), .inr (7, 0, 0, 61)]) rfl rfl rfl (Nat.le_of_ble_eq_true rfl) ⟨rfl, Or.inl (by decide)⟩ rfl (Nat.le_of_ble_eq_true rfl) (t_231 62 P2 (2 : Int32) v1) (fun v4 => ?_)
    refine tr_blk 2 (pc' := 38) (rows' := kb_318_0.drop 20) (loc' := [.inr (7, 0, 0, 61), .inl (.int v1)]) (st' := []) (P1 := (ab_pI P2 61 4 ((P2.1 61 4) + v4))) rfl ⟨trivial, trivial, trivial⟩ ?_
    refine tr_lt (fun P5 => ?_)
    refine tr_nil (rows2 := kb_318_38) rfl (List.cons_ne_nil _ _) ?_
    exact tr_reV (z := km_318) rfl rfl rfl
def f_317 (a1 : Int32) (P : ab_P) : Option ab_P :=
    ab_b2 (f_316 ((P.1 3 5) - (1 : Int32)) P) fun v2 P1 =>
    ab_b2 (f_316 (9 : Int32) P1) fun v4 P3 =>
    if (a1 + (v2 + (1 : Int32))) < (P3.1 3 5) then
      ab_b2 (f_285 62 a1 (a1 + (v2 + (1 : Int32))) (v4 + (1 : Int32)) (1 : Int32) P3) fun v8 P7 =>
      some P7
    else
    ab_b2 (f_285 62 a1 ((a1 + (v2 + (1 : Int32))) - (P3.1 3 5)) (v4 + (1 : Int32)) (1 : Int32) P3) fun v6 P5 =>
    some P5
theorem t_317 {xs : Nat × (Nat → Int32)} {d : Nat} : ∀ (a1 : Int32) (P : ab_P), ab_tr xs wV (d + 2) 317 0 [] [.inr (7, 0, 0, 61), .inl (.int a1), ab_top, ab_top, ab_top] [] P (f_317 a1 P) := by
  intro a1 P
  unfold f_317
  refine tr_nil (rows2 := kb_317_0) rfl (List.cons_ne_nil _ _) ?_
  refine tr_blk 6 (pc' := 10) (rows' := kb_317_0.drop 6) (loc' := [.inr (7, 0, 0, 61), .inl (.int a1), ab_top, ab_top, ab_top]) (st' := [.inl (.int ((P.1 3 5) - (1 : Int32))), .inr (7, 0, 0, 61)]) (P1 := P) rfl ⟨trivial, trivial, trivial, trivial, trivial, trivial, trivial⟩ ?_
  refine tr_cWI (z := km_316) (av := [.inr (7, 0, 0, 61), .inl (.int ((P.1 3 5) - (1 : Int32)))]) (st' := []) rfl rfl rfl (Nat.le_of_ble_eq_true rfl) ⟨rfl, Or.inl (by decide)⟩ rfl (Nat.le_of_ble_eq_true rfl) (t_316 ((P.1 3 5) - (1 : Int32)) P) (fun v2 P1 => ?_)
  refine tr_blk 5 (pc' := 19) (rows' := kb_317_0.drop 12) (loc' := [.inr (7, 0, 0, 61), .inl (.int a1), .inl (.int (v2 + (1 : Int32))), ab_top, ab_top]) (st' := [.inl (.int (9 : Int32)), .inr (7, 0, 0, 61)]) (P1 := P1) rfl ⟨trivial, trivial, trivial, trivial, trivial, trivial⟩ ?_
  refine tr_cWI (z := km_316) (av := [.inr (7, 0, 0, 61), .inl (.int (9 : Int32))]) (st' := []) rfl rfl rfl (Nat.le_of_ble_eq_true rfl) ⟨rfl, Or.inl (by decide)⟩ rfl (Nat.le_of_ble_eq_true rfl) (t_316 (9 : Int32) P1) (fun v4 P3 => ?_)
  refine tr_blk 9 (pc' := 35) (rows' := kb_317_0.drop 22) (loc' := [.inr (7, 0, 0, 61), .inl (.int a1), .inl (.int (v2 + (1 : Int32))), .inl (.int (v4 + (1 : Int32))), ab_top]) (st' := [.inl (.int (P3.1 3 5)), .inl (.int (a1 + (v2 + (1 : Int32))))]) (P1 := P3) rfl ⟨trivial, trivial, trivial, trivial, trivial, trivial, trivial, trivial, trivial, trivial⟩ ?_
  refine tr_if (fun h9 => ?_) (fun h9 => ?_)
  · refine tr_icF (cd := .ge) (Int32.not_le.mpr h9) ?_
    refine tr_blk 3 (pc' := 41) (rows' := kb_317_0.drop 26) (loc' := [.inr (7, 0, 0, 61), .inl (.int a1), .inl (.int (v2 + (1 : Int32))), .inl (.int (v4 + (1 : Int32))), ab_top]) (st' := [.inl (.int (a1 + (v2 + (1 : Int32))))]) (P1 := P3) rfl ⟨trivial, trivial, trivial, trivial⟩ ?_
    refine tr_goto ?_
    refine tr_nil (rows2 := kb_317_55) rfl (List.cons_ne_nil _ _) ?_
    refine tr_blk 7 (pc' := 66) (rows' := kb_317_55.drop 7) (loc' := [.inr (7, 0, 0, 61), .inl (.int a1), .inl (.int (v2 + (1 : Int32))), .inl (.int (v4 + (1 : Int32))), .inl (.int (a1 + (v2 + (1 : Int32))))]) (st' := [.inl (.int (1 : Int32)), .inl (.int (v4 + (1 : Int32))), .inl (.int (a1 + (v2 + (1 : Int32)))), .inl (.int a1), .inr (6, 0, 0, 62)]) (P1 := P3) rfl ⟨trivial, trivial, trivial, trivial, trivial, trivial, trivial, trivial⟩ ?_
    refine tr_cWI (z := km_285) (av := [.inr (6, 0, 0, 62), .inl (.int a1), .inl (.int (a1 + (v2 + (1 : Int32)))), .inl (.int (v4 + (1 : Int32))), .inl (.int (1 : Int32))]) (st' := []) rfl rfl rfl (Nat.le_of_ble_eq_true rfl) ⟨rfl, Or.inl (by decide)⟩ rfl (Nat.le_of_ble_eq_true rfl) (t_285 62 a1 (a1 + (v2 + (1 : Int32))) (v4 + (1 : Int32)) (1 : Int32) P3) (fun v8 P7 => ?_)
    refine tr_blk 1 (pc' := 70) (rows' := kb_317_55.drop 9) (loc' := [.inr (7, 0, 0, 61), .inl (.int a1), .inl (.int (v2 + (1 : Int32))), .inl (.int (v4 + (1 : Int32))), .inl (.int (a1 + (v2 + (1 : Int32))))]) (st' := []) (P1 := P7) rfl ⟨trivial, trivial⟩ ?_
    exact tr_reV (z := km_317) rfl rfl rfl
  · refine tr_icT (cd := .ge) (Int32.not_lt.mp h9) ?_
    refine tr_nil (rows2 := kb_317_44) rfl (List.cons_ne_nil _ _) ?_
    refine tr_blk 7 (pc' := 55) (rows' := kb_317_44.drop 7) (loc' := [.inr (7, 0, 0, 61), .inl (.int a1), .inl (.int (v2 + (1 : Int32))), .inl (.int (v4 + (1 : Int32))), ab_top]) (st' := [.inl (.int ((a1 + (v2 + (1 : Int32))) - (P3.1 3 5)))]) (P1 := P3) rfl ⟨trivial, trivial, trivial, trivial, trivial, trivial, trivial, trivial⟩ ?_
    refine tr_nil (rows2 := kb_317_55) rfl (List.cons_ne_nil _ _) ?_
    refine tr_blk 7 (pc' := 66) (rows' := kb_317_55.drop 7) (loc' := [.inr (7, 0, 0, 61), .inl (.int a1), .inl (.int (v2 + (1 : Int32))), .inl (.int (v4 + (1 : Int32))), .inl (.int ((a1 + (v2 + (1 : Int32))) - (P3.1 3 5)))]) (st' := [.inl (.int (1 : Int32)), .inl (.int (v4 + (1 : Int32))), .inl (.int ((a1 + (v2 + (1 : Int32))) - (P3.1 3 5))), .inl (.int a1), .inr (6, 0, 0, 62)]) (P1 := P3) rfl ⟨trivial, trivial, trivial, trivial, trivial, trivial, trivial, trivial⟩ ?_
    refine tr_cWI (z := km_285) (av := [.inr (6, 0, 0, 62), .inl (.int a1), .inl (.int ((a1 + (v2 + (1 : Int32))) - (P3.1 3 5))), .inl (.int (v4 + (1 : Int32))), .inl (.int (1 : Int32))]) (st' := []) rfl rfl rfl (Nat.le_of_ble_eq_true rfl) ⟨rfl, Or.inl (by decide)⟩ rfl (Nat.le_of_ble_eq_true rfl) (t_285 62 a1 ((a1 + (v2 + (1 : Int32))) - (P3.1 3 5)) (v4 + (1 : Int32)) (1 : Int32) P3) (fun v6 P5 => ?_)
    refine tr_blk 1 (pc' := 70) (rows' := kb_317_55.drop 9) (loc' := [.inr (7, 0, 0, 61), .inl (.int a1), .inl (.int (v2 + (1 : Int32))), .inl (.int (v4 + (1 : Int32))), .inl (.int ((a1 + (v2 + (1 : Int32))) - (P3.1 3 5)))]) (st' := []) (P1 := P5) rfl ⟨trivial, trivial⟩ ?_
    exact tr_reV (z := km_317) rfl rfl rfl
def f_274_46 (N : Nat) (H24 : Int32 → Int32 → Int32 → Int32 → ab_P → Option ab_P) : Nat → Int32 → Int32 → Int32 → Int32 → Int32 → ab_P → Option ab_P
  | 0, _, _, _, _, _, _ => none
  | n + 1, x2, x3, x4, x5, x6, P =>
    if x6 < (P.1 3 5) then
      ab_b2 (f_316 (16 : Int32) P) fun v9 P8 =>
      if v9 < x3 then
        if (1 : Int32) < (P8.1 3 5) then
          Option.bind (f_317 x6 P8) fun P10 =>
          f_274_46 N H24 n x2 x3 x4 x5 (x6 + 1) P10
        else
        f_274_46 N H24 n x2 x3 x4 x5 (x6 + 1) P8
      else
      f_274_46 N H24 n x2 x3 x4 x5 (x6 + 1) P8
    else
    ab_b2 (f_316 (16 : Int32) P) fun v6 P5 =>
    if v6 < x4 then
      Option.bind (f_318 N P5) fun P7 =>
      H24 x2 x3 x4 (x5 + 1) P7
    else
    H24 x2 x3 x4 (x5 + 1) P5
theorem t_274_46 {xs : Nat × (Nat → Int32)} {d : Nat} (N : Nat) (H24 : Int32 → Int32 → Int32 → Int32 → ab_P → Option ab_P) (hH24 : ∀ (x2 : Int32) (x3 : Int32) (x4 : Int32) (x5 : Int32) (d1 : Int32) (d6 : ab_V) (P : ab_P), ab_tr xs wV (d + 4) 274 24 [] [.inr (7, 0, 0, 61), .inl (.int d1), .inl (.int x2), .inl (.int x3), .inl (.int x4), .inl (.int x5), d6] [] P (H24 x2 x3 x4 x5 P)) : ∀ n : Nat, ∀ (x2 : Int32) (x3 : Int32) (x4 : Int32) (x5 : Int32) (x6 : Int32) (d1 : Int32) (P : ab_P), ab_tr xs wV (d + 4) 274 46 [] [.inr (7, 0, 0, 61), .inl (.int d1), .inl (.int x2), .inl (.int x3), .inl (.int x4), .inl (.int x5), .inl (.int x6)] [] P (f_274_46 N H24 n x2 x3 x4 x5 x6 P) := by
  intro n
  induction n with
  | zero => intro x2 x3 x4 x5 x6 d1 P; exact tr_no
  | succ n ih =>
    intro x2 x3 x4 x5 x6 d1 P
    refine tr_nil (rows2 := kb_274_46) rfl (List.cons_ne_nil _ _) ?_
    refine tr_blk 4 (pc' := 55) (rows' := kb_274_46.drop 4) (loc' := [.inr (7, 0, 0, 61), .inl (.int d1), .inl (.int x2), .inl (.int x3), .inl (.int x4), .inl (.int x5), .inl (.int x6)]) (st' := [.inl (.int (P.1 3 5)), .inl (.int x6)]) (P1 := P) rfl ⟨trivial, trivial, trivial, trivial, trivial⟩ ?_
    refine tr_if (fun h11 => ?_) (fun h11 => ?_)
    · refine tr_icF (cd := .ge) (Int32.not_le.mpr h11) ?_
      refine tr_blk 2 (pc' := 61) (rows' := kb_274_46.drop 7) (loc' := [.inr (7, 0, 0, 61), .inl (.int d1), .inl (.int x2), .inl (.int x3), .inl (.int x4), .inl (.int x5), .inl (.int x6)]) (st' := [.inl (.int (16 : Int32)), .inr (7, 0, 0, 61)]) (P1 := P) rfl ⟨trivial, trivial, trivial⟩ ?_
      refine tr_cWI (z := km_316) (av := [.inr (7, 0, 0, 61), .inl (.int (16 : Int32))]) (st' := []) rfl rfl rfl (Nat.le_of_ble_eq_true rfl) ⟨rfl, Or.inl (by decide)⟩ rfl (Nat.le_of_ble_eq_true rfl) (t_316 (16 : Int32) P) (fun v9 P8 => ?_)
      refine tr_blk 1 (pc' := 65) (rows' := kb_274_46.drop 9) (loc' := [.inr (7, 0, 0, 61), .inl (.int d1), .inl (.int x2), .inl (.int x3), .inl (.int x4), .inl (.int x5), .inl (.int x6)]) (st' := [.inl (.int x3), .inl (.int v9)]) (P1 := P8) rfl ⟨trivial, trivial⟩ ?_
      refine tr_if (fun h13 => ?_) (fun h13 => ?_)
      · refine tr_icF (cd := .ge) (Int32.not_le.mpr h13) ?_
        refine tr_blk 4 (pc' := 76) (rows' := kb_274_46.drop 14) (loc' := [.inr (7, 0, 0, 61), .inl (.int d1), .inl (.int x2), .inl (.int x3), .inl (.int x4), .inl (.int x5), .inl (.int x6)]) (st' := [.inl (.int (1 : Int32)), .inl (.int (P8.1 3 5))]) (P1 := P8) rfl ⟨trivial, trivial, trivial, trivial, trivial⟩ ?_
        refine tr_if (fun h14 => ?_) (fun h14 => ?_)
        · refine tr_icF (cd := .le) (Int32.not_le.mpr h14) ?_
          refine tr_blk 2 (pc' := 82) (rows' := kb_274_46.drop 17) (loc' := [.inr (7, 0, 0, 61), .inl (.int d1), .inl (.int x2), .inl (.int x3), .inl (.int x4), .inl (.int x5), .inl (.int x6)]) (st' := [.inl (.int x6), .inr (7, 0, 0, 61)]) (P1 := P8) rfl ⟨trivial, trivial, trivial⟩ ?_
          refine tr_cWV (z := km_317) (av := [.inr (7, 0, 0, 61), .inl (.int x6)]) (st' := []) rfl rfl rfl (Nat.le_of_ble_eq_true rfl) ⟨rfl, Or.inl (by decide)⟩ rfl (Nat.le_of_ble_eq_true rfl) (t_317 x6 P8) (fun P10 => ?_)
          refine tr_nil (rows2 := kb_274_85) rfl (List.cons_ne_nil _ _) ?_
          refine tr_blk 1 (pc' := 88) (rows' := kb_274_85.drop 1) (loc' := [.inr (7, 0, 0, 61), .inl (.int d1), .inl (.int x2), .inl (.int x3), .inl (.int x4), .inl (.int x5), .inl (.int (x6 + 1))]) (st' := []) (P1 := P10) rfl ⟨trivial, trivial⟩ ?_
          refine tr_goto ?_
          exact ih x2 x3 x4 x5 (x6 + 1) (d1) P10
        · refine tr_icT (cd := .le) (Int32.not_lt.mp h14) ?_
          refine tr_nil (rows2 := kb_274_85) rfl (List.cons_ne_nil _ _) ?_
          refine tr_blk 1 (pc' := 88) (rows' := kb_274_85.drop 1) (loc' := [.inr (7, 0, 0, 61), .inl (.int d1), .inl (.int x2), .inl (.int x3), .inl (.int x4), .inl (.int x5), .inl (.int (x6 + 1))]) (st' := []) (P1 := P8) rfl ⟨trivial, trivial⟩ ?_
          refine tr_goto ?_
          exact ih x2 x3 x4 x5 (x6 + 1) (d1) P8
      · refine tr_icT (cd := .ge) (Int32.not_lt.mp h13) ?_
        refine tr_nil (rows2 := kb_274_85) rfl (List.cons_ne_nil _ _) ?_
        refine tr_blk 1 (pc' := 88) (rows' := kb_274_85.drop 1) (loc' := [.inr (7, 0, 0, 61), .inl (.int d1), .inl (.int x2), .inl (.int x3), .inl (.int x4), .inl (.int x5), .inl (.int (x6 + 1))]) (st' := []) (P1 := P8) rfl ⟨trivial, trivial⟩ ?_
        refine tr_goto ?_
        exact ih x2 x3 x4 x5 (x6 + 1) (d1) P8
    · refine tr_icT (cd := .ge) (Int32.not_lt.mp h11) ?_
      refine tr_nil (rows2 := kb_274_91) rfl (List.cons_ne_nil _ _) ?_
      refine tr_blk 2 (pc' := 94) (rows' := kb_274_91.drop 2) (loc' := [.inr (7, 0, 0, 61), .inl (.int d1), .inl (.int x2), .inl (.int x3), .inl (.int x4), .inl (.int x5), .inl (.int x6)]) (st' := [.inl (.int (16 : Int32)), .inr (7, 0, 0, 61)]) (P1 := P) rfl ⟨trivial, trivial, trivial⟩ ?_
      refine tr_cWI (z := km_316) (av := [.inr (7, 0, 0, 61), .inl (.int (16 : Int32))]) (st' := []) rfl rfl rfl (Nat.le_of_ble_eq_true rfl) ⟨rfl, Or.inl (by decide)⟩ rfl (Nat.le_of_ble_eq_true rfl) (t_316 (16 : Int32) P) (fun v6 P5 => ?_)
      refine tr_blk 1 (pc' := 99) (rows' := kb_274_91.drop 4) (loc' := [.inr (7, 0, 0, 61), .inl (.int d1), .inl (.int x2), .inl (.int x3), .inl (.int x4), .inl (.int x5), .inl (.int x6)]) (st' := [.inl (.int x4), .inl (.int v6)]) (P1 := P5) rfl ⟨trivial, trivial⟩ ?_
      refine tr_if (fun h12 => ?_) (fun h12 => ?_)
      · refine tr_icF (cd := .ge) (Int32.not_le.mpr h12) ?_
        refine tr_blk 1 (pc' := 103) (rows' := kb_274_91.drop 6) (loc' := [.inr (7, 0, 0, 61), .inl (.int d1), .inl (.int x2), .inl (.int x3), .inl (.int x4), .inl (.int x5), .inl (.int x6)]) (st' := [.inr (7, 0, 0, 61)]) (P1 := P5) rfl ⟨trivial, trivial⟩ ?_
        refine tr_cWV (z := km_318) (av := [.inr (7, 0, 0, 61)]) (st' := []) rfl rfl rfl (Nat.le_of_ble_eq_true rfl) ⟨rfl, Or.inl (by decide)⟩ rfl (Nat.le_of_ble_eq_true rfl) (t_318 N P5) (fun P7 => ?_)
        refine tr_nil (rows2 := kb_274_106) rfl (List.cons_ne_nil _ _) ?_
        refine tr_blk 1 (pc' := 109) (rows' := kb_274_106.drop 1) (loc' := [.inr (7, 0, 0, 61), .inl (.int d1), .inl (.int x2), .inl (.int x3), .inl (.int x4), .inl (.int (x5 + 1)), .inl (.int x6)]) (st' := []) (P1 := P7) rfl ⟨trivial, trivial⟩ ?_
        refine tr_goto ?_
        exact hH24 x2 x3 x4 (x5 + 1) (d1) (.inl (.int x6)) P7
      · refine tr_icT (cd := .ge) (Int32.not_lt.mp h12) ?_
        refine tr_nil (rows2 := kb_274_106) rfl (List.cons_ne_nil _ _) ?_
        refine tr_blk 1 (pc' := 109) (rows' := kb_274_106.drop 1) (loc' := [.inr (7, 0, 0, 61), .inl (.int d1), .inl (.int x2), .inl (.int x3), .inl (.int x4), .inl (.int (x5 + 1)), .inl (.int x6)]) (st' := []) (P1 := P5) rfl ⟨trivial, trivial⟩ ?_
        refine tr_goto ?_
        exact hH24 x2 x3 x4 (x5 + 1) (d1) (.inl (.int x6)) P5
def f_274_24 (N : Nat) : Nat → Int32 → Int32 → Int32 → Int32 → ab_P → Option ab_P
  | 0, _, _, _, _, _ => none
  | n + 1, x2, x3, x4, x5, P =>
    if x5 < x2 then
      ab_lt (ab_pI P 62 3 ((P.1 62 3) + (1 : Int32))) fun P4 =>
      f_274_46 N (fun y0 y1 y2 y3 y4 => f_274_24 N n y0 y1 y2 y3 y4) N x2 x3 x4 x5 (0 : Int32) P4
    else
    some P
theorem t_274_24 {xs : Nat × (Nat → Int32)} {d : Nat} (N : Nat) : ∀ n : Nat, ∀ (x2 : Int32) (x3 : Int32) (x4 : Int32) (x5 : Int32) (d1 : Int32) (d6 : ab_V) (P : ab_P), ab_tr xs wV (d + 4) 274 24 [] [.inr (7, 0, 0, 61), .inl (.int d1), .inl (.int x2), .inl (.int x3), .inl (.int x4), .inl (.int x5), d6] [] P (f_274_24 N n x2 x3 x4 x5 P) := by
  intro n
  induction n with
  | zero => intro x2 x3 x4 x5 d1 d6 P; exact tr_no
  | succ n ih =>
    intro x2 x3 x4 x5 d1 d6 P
    refine tr_nil (rows2 := kb_274_24) rfl (List.cons_ne_nil _ _) ?_
    refine tr_blk 2 (pc' := 27) (rows' := kb_274_24.drop 2) (loc' := [.inr (7, 0, 0, 61), .inl (.int d1), .inl (.int x2), .inl (.int x3), .inl (.int x4), .inl (.int x5), d6]) (st' := [.inl (.int x2), .inl (.int x5)]) (P1 := P) rfl ⟨trivial, trivial, trivial⟩ ?_
    refine tr_if (fun h15 => ?_) (fun h15 => ?_)
    · refine tr_icF (cd := .ge) (Int32.not_le.mpr h15) ?_
      refine tr_blk 7 (pc' := 43) (rows' := kb_274_24.drop 10) (loc' := [.inr (7, 0, 0, 61), .inl (.int d1), .inl (.int x2), .inl (.int x3), .inl (.int x4), .inl (.int x5), d6]) (st' := []) (P1 := (ab_pI P 62 3 ((P.1 62 3) + (1 : Int32)))) rfl ⟨trivial, trivial, trivial, trivial, trivial, trivial, trivial, trivial⟩ ?_
      refine tr_lt (fun P4 => ?_)
      refine tr_blk 2 (pc' := 46) (rows' := kb_274_24.drop 12) (loc' := [.inr (7, 0, 0, 61), .inl (.int d1), .inl (.int x2), .inl (.int x3), .inl (.int x4), .inl (.int x5), .inl (.int (0 : Int32))]) (st' := []) (P1 := P4) rfl ⟨trivial, trivial, trivial⟩ ?_
      exact t_274_46 N _ ih N x2 x3 x4 x5 (0 : Int32) (d1) P4
    · refine tr_icT (cd := .ge) (Int32.not_lt.mp h15) ?_
      refine tr_nil (rows2 := kb_274_112) rfl (List.cons_ne_nil _ _) ?_
      exact tr_reV (z := km_274) rfl rfl rfl
def f_274 (N : Nat) (a1 : Int32) (a2 : Int32) (a3 : Int32) (a4 : Int32) (P : ab_P) : Option ab_P :=
    Option.bind (f_295 62 43 P) fun P1 =>
    ab_lt (ab_pI P1 61 3 a1) fun P2 =>
    ab_lt (ab_pI P2 61 4 (0 : Int32)) fun P3 =>
    f_274_24 N N a2 a3 a4 (0 : Int32) P3
theorem t_274 {xs : Nat × (Nat → Int32)} {d : Nat} (N : Nat) : ∀ (a1 : Int32) (a2 : Int32) (a3 : Int32) (a4 : Int32) (P : ab_P), ab_tr xs wV (d + 4) 274 0 [] [.inr (7, 0, 0, 61), .inl (.int a1), .inl (.int a2), .inl (.int a3), .inl (.int a4), ab_top, ab_top] [] P (f_274 N a1 a2 a3 a4 P) := by
  intro a1 a2 a3 a4 P
  unfold f_274
  refine tr_nil (rows2 := kb_274_0) rfl (List.cons_ne_nil _ _) ?_
  refine tr_blk 4 (pc' := 8) (rows' := kb_274_0.drop 4) (loc' := [.inr (7, 0, 0, 61), .inl (.int a1), .inl (.int a2), .inl (.int a3), .inl (.int a4), ab_top, ab_top]) (st' := [.inr (6, 0, 0, 43), .inr (6, 0, 0, 62)]) (P1 := P) rfl ⟨trivial, trivial, trivial, trivial, trivial⟩ ?_
  refine tr_cWV (z := km_295) (av := [.inr (6, 0, 0, 62), .inr (6, 0, 0, 43)]) (st' := []) rfl rfl rfl (Nat.le_of_ble_eq_true rfl) ⟨rfl, Or.inl (by decide)⟩ rfl (Nat.le_of_ble_eq_true rfl) (t_295 62 43 P) (fun P1 => ?_)
  refine tr_blk 3 (pc' := 16) (rows' := kb_274_0.drop 8) (loc' := [.inr (7, 0, 0, 61), .inl (.int a1), .inl (.int a2), .inl (.int a3), .inl (.int a4), ab_top, ab_top]) (st' := []) (P1 := (ab_pI P1 61 3 a1)) rfl ⟨trivial, trivial, trivial, trivial⟩ ?_
  refine tr_lt (fun P2 => ?_)
  refine tr_blk 3 (pc' := 21) (rows' := kb_274_0.drop 11) (loc' := [.inr (7, 0, 0, 61), .inl (.int a1), .inl (.int a2), .inl (.int a3), .inl (.int a4), ab_top, ab_top]) (st' := []) (P1 := (ab_pI P2 61 4 (0 : Int32))) rfl ⟨trivial, trivial, trivial, trivial⟩ ?_
  refine tr_lt (fun P3 => ?_)
  refine tr_blk 2 (pc' := 24) (rows' := kb_274_0.drop 13) (loc' := [.inr (7, 0, 0, 61), .inl (.int a1), .inl (.int a2), .inl (.int a3), .inl (.int a4), .inl (.int (0 : Int32)), ab_top]) (st' := []) (P1 := P3) rfl ⟨trivial, trivial, trivial⟩ ?_
  exact t_274_24 N N a2 a3 a4 (0 : Int32) (a1) (ab_top) P3
def f_275 (N : Nat) (P : ab_P) : Option Int32 :=
    Option.bind (f_265 62 N P (P.1 3 5) (1 : Int32)) fun v1 =>
    some v1
theorem t_275 {xs : Nat × (Nat → Int32)} {d : Nat} (N : Nat) (P : ab_P) : ab_tr xs (rI P) (d + 4) 275 0 [] [.inr (7, 0, 0, 61)] [] P (f_275 N P) := by
  unfold f_275
  refine tr_nil (rows2 := kb_275_0) rfl (List.cons_ne_nil _ _) ?_
  refine tr_blk 6 (pc' := 12) (rows' := kb_275_0.drop 6) (loc' := [.inr (7, 0, 0, 61)]) (st' := [.inl (.int (1 : Int32)), .inl (.int (P.1 3 5)), .inr (6, 0, 0, 62)]) (P1 := P) rfl ⟨trivial, trivial, trivial, trivial, trivial, trivial, trivial⟩ ?_
  refine tr_cRI (z := km_265) (av := [.inr (6, 0, 0, 62), .inl (.int (P.1 3 5)), .inl (.int (1 : Int32))]) (st' := []) rfl rfl rfl (Nat.le_of_ble_eq_true rfl) ⟨rfl, Or.inl (by decide)⟩ rfl (Nat.le_of_ble_eq_true rfl) (t_265 62 N P (P.1 3 5) (1 : Int32)) (fun v1 => ?_)
  exact tr_reI (z := km_275) rfl ⟨_, rfl, rfl⟩ rfl
def f_189_25 (N : Nat) (x1 : Int32) (x2 : Int32) (x3 : Int32) (x4 : Int32) (x5 : Int32) (s0 : Int32) (P : ab_P) : Option ((Int32 ⊕ Fin 3) × ab_P) :=
    ab_x2 (f_228 s0 P) (fun _ P2 =>
    Option.bind (f_274 N x1 x2 x3 x4 P2) fun P3 =>
    if x5 = 0 then
      Option.bind (f_236 62 N P3) fun v4 =>
      some (.inl v4, P3)
    else
    if x5 = 1 then
      Option.bind (f_229 62 N P3) fun v5 =>
      some (.inl v5, P3)
    else
    if x5 = 2 then
      some (.inl (P3.1 61 4), P3)
    else
    Option.bind (f_275 N P3) fun v6 =>
    some (.inl v6, P3)) (fun q => q)
theorem t_189_25 {xs : Nat × (Nat → Int32)} {d : Nat} (N : Nat) : ∀ (x1 : Int32) (x2 : Int32) (x3 : Int32) (x4 : Int32) (x5 : Int32) (s0 : Int32) (P : ab_P), ab_tr xs xI (d + 5) 189 25 [] [.inr (11, 0, 0, 0), .inl (.int x1), .inl (.int x2), .inl (.int x3), .inl (.int x4), .inl (.int x5)] [.inl (.int s0), .inr (11, 0, 0, 0)] P (f_189_25 N x1 x2 x3 x4 x5 s0 P) := by
  intro x1 x2 x3 x4 x5 s0 P
  unfold f_189_25
  refine tr_nil (rows2 := kb_189_25) rfl (List.cons_ne_nil _ _) ?_
  refine tr_cax (fun _ => none) (zi := km_189) (fun _ => rfl) (fun _ _ => rfl) rfl rfl (z := km_228) (av := [.inr (11, 0, 0, 0), .inl (.int s0)]) (st' := []) rfl rfl rfl (Nat.le_of_ble_eq_true rfl) ⟨rfl, Or.inl (by decide)⟩ rfl (Nat.le_of_ble_eq_true rfl) (t_228 s0 P) (fun _ P2 => ?_)
  refine tr_blk 6 (pc' := 37) (rows' := kb_189_25.drop 7) (loc' := [.inr (11, 0, 0, 0), .inl (.int x1), .inl (.int x2), .inl (.int x3), .inl (.int x4), .inl (.int x5)]) (st' := [.inl (.int x4), .inl (.int x3), .inl (.int x2), .inl (.int x1), .inr (7, 0, 0, 61)]) (P1 := P2) rfl ⟨trivial, trivial, trivial, trivial, trivial, trivial, trivial⟩ ?_
  refine tr_cWV (z := km_274) (av := [.inr (7, 0, 0, 61), .inl (.int x1), .inl (.int x2), .inl (.int x3), .inl (.int x4)]) (st' := []) rfl rfl rfl (Nat.le_of_ble_eq_true rfl) ⟨rfl, Or.inl (by decide)⟩ rfl (Nat.le_of_ble_eq_true rfl) (t_274 N x1 x2 x3 x4 P2) (fun P3 => ?_)
  refine tr_blk 1 (pc' := 42) (rows' := kb_189_25.drop 9) (loc' := [.inr (11, 0, 0, 0), .inl (.int x1), .inl (.int x2), .inl (.int x3), .inl (.int x4), .inl (.int x5)]) (st' := [.inl (.int x5)]) (P1 := P3) rfl ⟨trivial, trivial⟩ ?_
  refine tr_if (fun h7 => ?_) (fun h7 => ?_)
  · refine tr_sw (t := 68) (by rw [h7]; rfl) ?_
    refine tr_nil (rows2 := kb_189_68) rfl (List.cons_ne_nil _ _) ?_
    refine tr_blk 3 (pc' := 75) (rows' := kb_189_68.drop 3) (loc' := [.inr (11, 0, 0, 0), .inl (.int x1), .inl (.int x2), .inl (.int x3), .inl (.int x4), .inl (.int x5)]) (st' := [.inr (6, 0, 0, 62)]) (P1 := P3) rfl ⟨trivial, trivial, trivial, trivial⟩ ?_
    refine tr_cRI (z := km_236) (av := [.inr (6, 0, 0, 62)]) (st' := []) rfl rfl rfl (Nat.le_of_ble_eq_true rfl) ⟨rfl, Or.inl (by decide)⟩ rfl (Nat.le_of_ble_eq_true rfl) (t_236 62 N P3) (fun v4 => ?_)
    exact tr_reI (z := km_189) rfl ⟨_, rfl, rfl⟩ rfl
  refine tr_if (fun h8 => ?_) (fun h8 => ?_)
  · refine tr_sw (t := 79) (by rw [h8]; rfl) ?_
    refine tr_nil (rows2 := kb_189_79) rfl (List.cons_ne_nil _ _) ?_
    refine tr_blk 3 (pc' := 86) (rows' := kb_189_79.drop 3) (loc' := [.inr (11, 0, 0, 0), .inl (.int x1), .inl (.int x2), .inl (.int x3), .inl (.int x4), .inl (.int x5)]) (st' := [.inr (6, 0, 0, 62)]) (P1 := P3) rfl ⟨trivial, trivial, trivial, trivial⟩ ?_
    refine tr_cRI (z := km_229) (av := [.inr (6, 0, 0, 62)]) (st' := []) rfl rfl rfl (Nat.le_of_ble_eq_true rfl) ⟨rfl, Or.inl (by decide)⟩ rfl (Nat.le_of_ble_eq_true rfl) (t_229 62 N P3) (fun v5 => ?_)
    exact tr_reI (z := km_189) rfl ⟨_, rfl, rfl⟩ rfl
  refine tr_if (fun h9 => ?_) (fun h9 => ?_)
  · refine tr_sw (t := 90) (by rw [h9]; rfl) ?_
    refine tr_nil (rows2 := kb_189_90) rfl (List.cons_ne_nil _ _) ?_
    refine tr_blk 3 (pc' := 97) (rows' := kb_189_90.drop 3) (loc' := [.inr (11, 0, 0, 0), .inl (.int x1), .inl (.int x2), .inl (.int x3), .inl (.int x4), .inl (.int x5)]) (st' := [.inl (.int (P3.1 61 4))]) (P1 := P3) rfl ⟨trivial, trivial, trivial, trivial⟩ ?_
    exact tr_reI (z := km_189) rfl ⟨_, rfl, rfl⟩ rfl
  refine tr_sw (t := 98) (ab_swd (k := 3) (by decide) rfl ⟨ab_nei h7 (by decide), ab_nei h8 (by decide), ab_nei h9 (by decide), trivial⟩) ?_
  refine tr_nil (rows2 := kb_189_98) rfl (List.cons_ne_nil _ _) ?_
  refine tr_blk 2 (pc' := 102) (rows' := kb_189_98.drop 2) (loc' := [.inr (11, 0, 0, 0), .inl (.int x1), .inl (.int x2), .inl (.int x3), .inl (.int x4), .inl (.int x5)]) (st' := [.inr (7, 0, 0, 61)]) (P1 := P3) rfl ⟨trivial, trivial, trivial⟩ ?_
  refine tr_cRI (z := km_275) (av := [.inr (7, 0, 0, 61)]) (st' := []) rfl rfl rfl (Nat.le_of_ble_eq_true rfl) ⟨rfl, Or.inl (by decide)⟩ rfl (Nat.le_of_ble_eq_true rfl) (t_275 N P3) (fun v6 => ?_)
  exact tr_reI (z := km_189) rfl ⟨_, rfl, rfl⟩ rfl
def f_189 (N : Nat) (a1 : Int32) (a2 : Int32) (a3 : Int32) (a4 : Int32) (a5 : Int32) (P : ab_P) : Option ((Int32 ⊕ Fin 3) × ab_P) :=
    ab_x2 (f_273 a2 a3 a4 P) (fun _ P1 =>
    if a5 < (0 : Int32) then
      f_189_25 N a1 a2 a3 a4 a5 (0 : Int32) P1
    else
    if (3 : Int32) < a5 then
      f_189_25 N a1 a2 a3 a4 a5 (0 : Int32) P1
    else
    f_189_25 N a1 a2 a3 a4 a5 (1 : Int32) P1) (fun q => q)
theorem t_189 {xs : Nat × (Nat → Int32)} {d : Nat} (N : Nat) : ∀ (a1 : Int32) (a2 : Int32) (a3 : Int32) (a4 : Int32) (a5 : Int32) (P : ab_P), ab_tr xs xI (d + 5) 189 0 [] [.inr (11, 0, 0, 0), .inl (.int a1), .inl (.int a2), .inl (.int a3), .inl (.int a4), .inl (.int a5)] [] P (f_189 N a1 a2 a3 a4 a5 P) := by
  intro a1 a2 a3 a4 a5 P
  unfold f_189
  refine tr_nil (rows2 := kb_189_0) rfl (List.cons_ne_nil _ _) ?_
  refine tr_blk 4 (pc' := 5) (rows' := kb_189_0.drop 4) (loc' := [.inr (11, 0, 0, 0), .inl (.int a1), .inl (.int a2), .inl (.int a3), .inl (.int a4), .inl (.int a5)]) (st' := [.inl (.int a4), .inl (.int a3), .inl (.int a2), .inr (11, 0, 0, 0)]) (P1 := P) rfl ⟨trivial, trivial, trivial, trivial, trivial⟩ ?_
  refine tr_cax (fun _ => none) (zi := km_189) (fun _ => rfl) (fun _ _ => rfl) rfl rfl (z := km_273) (av := [.inr (11, 0, 0, 0), .inl (.int a2), .inl (.int a3), .inl (.int a4)]) (st' := []) rfl rfl rfl (Nat.le_of_ble_eq_true rfl) ⟨rfl, Or.inl (by decide)⟩ rfl (Nat.le_of_ble_eq_true rfl) (t_273 a2 a3 a4 P) (fun _ P1 => ?_)
  refine tr_blk 2 (pc' := 11) (rows' := kb_189_0.drop 7) (loc' := [.inr (11, 0, 0, 0), .inl (.int a1), .inl (.int a2), .inl (.int a3), .inl (.int a4), .inl (.int a5)]) (st' := [.inl (.int a5), .inr (11, 0, 0, 0)]) (P1 := P1) rfl ⟨trivial, trivial, trivial⟩ ?_
  refine tr_if (fun h10 => ?_) (fun h10 => ?_)
  · refine tr_ifT (cd := .lt) h10 ?_
    refine tr_nil (rows2 := kb_189_24) rfl (List.cons_ne_nil _ _) ?_
    refine tr_blk 1 (pc' := 25) (rows' := kb_189_24.drop 1) (loc' := [.inr (11, 0, 0, 0), .inl (.int a1), .inl (.int a2), .inl (.int a3), .inl (.int a4), .inl (.int a5)]) (st' := [.inl (.int (0 : Int32)), .inr (11, 0, 0, 0)]) (P1 := P1) rfl ⟨trivial, trivial⟩ ?_
    exact t_189_25 N a1 a2 a3 a4 a5 (0 : Int32) P1
  · refine tr_ifF (cd := .lt) h10 ?_
    refine tr_blk 2 (pc' := 17) (rows' := kb_189_0.drop 10) (loc' := [.inr (11, 0, 0, 0), .inl (.int a1), .inl (.int a2), .inl (.int a3), .inl (.int a4), .inl (.int a5)]) (st' := [.inl (.int (3 : Int32)), .inl (.int a5), .inr (11, 0, 0, 0)]) (P1 := P1) rfl ⟨trivial, trivial, trivial⟩ ?_
    refine tr_if (fun h11 => ?_) (fun h11 => ?_)
    · refine tr_icT (cd := .gt) h11 ?_
      refine tr_nil (rows2 := kb_189_24) rfl (List.cons_ne_nil _ _) ?_
      refine tr_blk 1 (pc' := 25) (rows' := kb_189_24.drop 1) (loc' := [.inr (11, 0, 0, 0), .inl (.int a1), .inl (.int a2), .inl (.int a3), .inl (.int a4), .inl (.int a5)]) (st' := [.inl (.int (0 : Int32)), .inr (11, 0, 0, 0)]) (P1 := P1) rfl ⟨trivial, trivial⟩ ?_
      exact t_189_25 N a1 a2 a3 a4 a5 (0 : Int32) P1
    · refine tr_icF (cd := .gt) h11 ?_
      refine tr_blk 1 (pc' := 21) (rows' := kb_189_0.drop 12) (loc' := [.inr (11, 0, 0, 0), .inl (.int a1), .inl (.int a2), .inl (.int a3), .inl (.int a4), .inl (.int a5)]) (st' := [.inl (.int (1 : Int32)), .inr (11, 0, 0, 0)]) (P1 := P1) rfl ⟨trivial, trivial⟩ ?_
      refine tr_goto ?_
      exact t_189_25 N a1 a2 a3 a4 a5 (1 : Int32) P1
def f_84_1 (N : Nat) (a1 : Int32) (a2 : Int32) (a3 : Int32) (a4 : Int32) (a5 : Int32) (P : ab_P) : Option (Int32 × ab_P) :=
    ab_h2 (f_189 N a1 a2 a3 a4 a5 P) (fun v2 P1 =>
    ab_lt (ab_pL P1 570 0 (v2).toInt64) fun P3 =>
    some ((0 : Int32), P3))
    (fun _ => none) (fun P9 => some ((1 : Int32), P9)) (fun _ => none)
theorem t_84_1 {xs : Nat × (Nat → Int32)} {d : Nat} (N : Nat) : ∀ (a1 : Int32) (a2 : Int32) (a3 : Int32) (a4 : Int32) (a5 : Int32) (P : ab_P), ab_tr xs wI (d + 6) 84 0 [] [.inr (11, 0, 0, 0), .inl (.int a1), .inl (.int a2), .inl (.int a3), .inl (.int a4), .inl (.int a5), .inr (22, 1, 0, 570), ab_top] [] P (f_84_1 N a1 a2 a3 a4 a5 P) := by
  intro a1 a2 a3 a4 a5 P
  unfold f_84_1
  refine tr_nil (rows2 := kb_84_0) rfl (List.cons_ne_nil _ _) ?_
  refine tr_blk 8 (pc' := 11) (rows' := kb_84_0.drop 8) (loc' := [.inr (11, 0, 0, 0), .inl (.int a1), .inl (.int a2), .inl (.int a3), .inl (.int a4), .inl (.int a5), .inr (22, 1, 0, 570), ab_top]) (st' := [.inl (.int a5), .inl (.int a4), .inl (.int a3), .inl (.int a2), .inl (.int a1), .inr (11, 0, 0, 0), .inl (.int (0 : Int32)), .inr (22, 1, 0, 570)]) (P1 := P) rfl ⟨trivial, trivial, trivial, trivial, trivial, trivial, trivial, trivial, trivial⟩ ?_
  refine tr_cah (fun b => some (.inl (.int b))) (zi := km_84) (fun _ => rfl) rfl (z := km_189) (av := [.inr (11, 0, 0, 0), .inl (.int a1), .inl (.int a2), .inl (.int a3), .inl (.int a4), .inl (.int a5)]) (st' := [.inl (.int (0 : Int32)), .inr (22, 1, 0, 570)]) rfl rfl rfl (Nat.le_of_ble_eq_true rfl) ⟨rfl, Or.inl (by decide)⟩ rfl (Nat.le_of_ble_eq_true rfl) (t_189 N a1 a2 a3 a4 a5 P) (fun v2 P1 => ?_) ?_ ?_ ?_
  · refine tr_blk 2 (pc' := 16) (rows' := kb_84_0.drop 11) (loc' := [.inr (11, 0, 0, 0), .inl (.int a1), .inl (.int a2), .inl (.int a3), .inl (.int a4), .inl (.int a5), .inr (22, 1, 0, 570), ab_top]) (st' := []) (P1 := (ab_pL P1 570 0 (v2).toInt64)) rfl ⟨trivial, (ab_vi (by decide)), trivial⟩ ?_
    refine tr_lt (fun P3 => ?_)
    refine tr_goto ?_
    refine tr_nil (rows2 := kb_84_23) rfl (List.cons_ne_nil _ _) ?_
    refine tr_blk 1 (pc' := 24) (rows' := kb_84_23.drop 1) (loc' := [.inr (11, 0, 0, 0), .inl (.int a1), .inl (.int a2), .inl (.int a3), .inl (.int a4), .inl (.int a5), .inr (22, 1, 0, 570), ab_top]) (st' := [.inl (.int (0 : Int32))]) (P1 := P3) rfl ⟨trivial, trivial⟩ ?_
    exact tr_reI (z := km_84) rfl ⟨_, rfl, rfl⟩ rfl
  · exact fun _ => rfl
  · exact fun _ => tr_han (rows2 := kb_84_19) (z := km_84) _ (fun q => [.inr (11, 0, 0, 0), .inl (.int a1), .inl (.int a2), .inl (.int a3), .inl (.int a4), .inl (.int a5), .inr (22, 1, 0, 570), .inr (40, 1, 0, q)]) rfl (List.cons_ne_nil _ _) (fun q => rfl) ⟨trivial, trivial, trivial⟩ rfl ⟨_, rfl, rfl⟩ rfl
  · exact fun _ => rfl
def f_276 (a1 : Int32) (P : ab_P) : Option (Int32 × ab_P) :=
    ab_lt (ab_pI P 72 43 (((P.1 72 43) * (1103515245 : Int32)) + (12345 : Int32))) fun P1 =>
    if ¬ a1 = 0 then
    some (((((P1.1 72 43) >>> ((16 : Int32) &&& 31)) &&& (32767 : Int32)) - (((P1.1 72 43) >>> ((16 : Int32) &&& 31)) &&& (32767 : Int32)) / a1 * a1), P1)
    else none
theorem t_276 {xs : Nat × (Nat → Int32)} {d : Nat} : ∀ (a1 : Int32) (P : ab_P), ab_tr xs wI (d + 0) 276 0 [] [.inr (12, 0, 0, 72), .inl (.int a1)] [] P (f_276 a1 P) := by
  intro a1 P
  unfold f_276
  refine tr_nil (rows2 := kb_276_0) rfl (List.cons_ne_nil _ _) ?_
  refine tr_blk 8 (pc' := 16) (rows' := kb_276_0.drop 8) (loc' := [.inr (12, 0, 0, 72), .inl (.int a1)]) (st' := []) (P1 := (ab_pI P 72 43 (((P.1 72 43) * (1103515245 : Int32)) + (12345 : Int32)))) rfl ⟨trivial, trivial, trivial, trivial, trivial, trivial, trivial, trivial, trivial⟩ ?_
  refine tr_lt (fun P1 => ?_)
  refine tr_gd (fun h2 => ?_)
  refine tr_blk 8 (pc' := 29) (rows' := kb_276_0.drop 16) (loc' := [.inr (12, 0, 0, 72), .inl (.int a1)]) (st' := [.inl (.int ((((P1.1 72 43) >>> ((16 : Int32) &&& 31)) &&& (32767 : Int32)) - (((P1.1 72 43) >>> ((16 : Int32) &&& 31)) &&& (32767 : Int32)) / a1 * a1))]) (P1 := P1) rfl ⟨trivial, trivial, trivial, trivial, trivial, trivial, trivial, h2, trivial⟩ ?_
  exact tr_reI (z := km_276) rfl ⟨_, rfl, rfl⟩ rfl
def f_277_366_4 (i1 : Nat) : Nat → Int32 → Int32 → ab_P → Option ab_P
  | 0, _, _, _ => none
  | n + 1, x2, x3, P =>
    if x3 < (P.1 i1 360) then
      Option.bind (f_144_366 i1 P x3) fun v4 =>
      if v4 = (0 : Int32) then
        f_277_366_4 i1 n x2 (x3 + 1) P
      else
      if x2 = (-1 : Int32) then
        f_277_366_4 i1 n x3 (x3 + 1) P
      else
      Option.bind (f_135_366 i1 P x3 (2 : Int32)) fun v5 =>
      Option.bind (f_135_366 i1 P x2 (2 : Int32)) fun v6 =>
      if v6 < v5 then
        f_277_366_4 i1 n x3 (x3 + 1) P
      else
      f_277_366_4 i1 n x2 (x3 + 1) P
    else
    if x2 = (-1 : Int32) then
      some P
    else
    Option.bind (f_135_366 i1 P x2 (2 : Int32)) fun v1 =>
    ab_lt (ab_pI P 72 44 ((P.1 72 44) + v1)) fun P2 =>
    Option.bind (f_223_366 i1 x2 (2 : Int32) P2) fun P3 =>
    some P3
theorem t_277_366_4 {xs : Nat × (Nat → Int32)} {d : Nat} (i1 : Nat) : ∀ n : Nat, ∀ (x2 : Int32) (x3 : Int32) (P : ab_P), ab_tr xs wV (d + 2) 277 4 [] [.inr (12, 0, 0, 72), .inr (20, 366, 0, i1), .inl (.int x2), .inl (.int x3)] [] P (f_277_366_4 i1 n x2 x3 P) := by
  intro n
  induction n with
  | zero => intro x2 x3 P; exact tr_no
  | succ n ih =>
    intro x2 x3 P
    refine tr_nil (rows2 := kb_277_4) rfl (List.cons_ne_nil _ _) ?_
    refine tr_blk 4 (pc' := 10) (rows' := kb_277_4.drop 4) (loc' := [.inr (12, 0, 0, 72), .inr (20, 366, 0, i1), .inl (.int x2), .inl (.int x3)]) (st' := [.inl (.int (P.1 i1 360)), .inl (.int x3)]) (P1 := P) rfl ⟨trivial, trivial, trivial, (ab_vi (by decide)), trivial⟩ ?_
    refine tr_if (fun h7 => ?_) (fun h7 => ?_)
    · refine tr_icF (cd := .ge) (Int32.not_le.mpr h7) ?_
      refine tr_blk 2 (pc' := 15) (rows' := kb_277_4.drop 7) (loc' := [.inr (12, 0, 0, 72), .inr (20, 366, 0, i1), .inl (.int x2), .inl (.int x3)]) (st' := [.inl (.int x3), .inr (20, 366, 0, i1)]) (P1 := P) rfl ⟨trivial, trivial, trivial⟩ ?_
      refine tr_cRI (z := km_144) (av := [.inr (20, 366, 0, i1), .inl (.int x3)]) (st' := []) rfl rfl rfl (Nat.le_of_ble_eq_true rfl) trivial rfl (Nat.le_of_ble_eq_true rfl) (t_144_366 i1 P x3) (fun v4 => ?_)
      refine tr_if (fun h9 => ?_) (fun h9 => ?_)
      · refine tr_ifT (cd := .eq) h9 ?_
        refine tr_nil (rows2 := kb_277_43) rfl (List.cons_ne_nil _ _) ?_
        refine tr_blk 1 (pc' := 46) (rows' := kb_277_43.drop 1) (loc' := [.inr (12, 0, 0, 72), .inr (20, 366, 0, i1), .inl (.int x2), .inl (.int (x3 + 1))]) (st' := []) (P1 := P) rfl ⟨trivial, trivial⟩ ?_
        refine tr_goto ?_
        exact ih x2 (x3 + 1) P
      · refine tr_ifF (cd := .eq) h9 ?_
        refine tr_blk 2 (pc' := 23) (rows' := kb_277_4.drop 11) (loc' := [.inr (12, 0, 0, 72), .inr (20, 366, 0, i1), .inl (.int x2), .inl (.int x3)]) (st' := [.inl (.int (-1 : Int32)), .inl (.int x2)]) (P1 := P) rfl ⟨trivial, trivial, trivial⟩ ?_
        refine tr_if (fun h10 => ?_) (fun h10 => ?_)
        · refine tr_icT (cd := .eq) h10 ?_
          refine tr_nil (rows2 := kb_277_41) rfl (List.cons_ne_nil _ _) ?_
          refine tr_blk 2 (pc' := 43) (rows' := kb_277_41.drop 2) (loc' := [.inr (12, 0, 0, 72), .inr (20, 366, 0, i1), .inl (.int x3), .inl (.int x3)]) (st' := []) (P1 := P) rfl ⟨trivial, trivial, trivial⟩ ?_
          refine tr_nil (rows2 := kb_277_43) rfl (List.cons_ne_nil _ _) ?_
          refine tr_blk 1 (pc' := 46) (rows' := kb_277_43.drop 1) (loc' := [.inr (12, 0, 0, 72), .inr (20, 366, 0, i1), .inl (.int x3), .inl (.int (x3 + 1))]) (st' := []) (P1 := P) rfl ⟨trivial, trivial⟩ ?_
          refine tr_goto ?_
          exact ih x3 (x3 + 1) P
        · refine tr_icF (cd := .eq) h10 ?_
          refine tr_blk 3 (pc' := 29) (rows' := kb_277_4.drop 15) (loc' := [.inr (12, 0, 0, 72), .inr (20, 366, 0, i1), .inl (.int x2), .inl (.int x3)]) (st' := [.inl (.int (2 : Int32)), .inl (.int x3), .inr (20, 366, 0, i1)]) (P1 := P) rfl ⟨trivial, trivial, trivial, trivial⟩ ?_
          refine tr_cRI (z := km_135) (av := [.inr (20, 366, 0, i1), .inl (.int x3), .inl (.int (2 : Int32))]) (st' := []) rfl rfl rfl (Nat.le_of_ble_eq_true rfl) trivial rfl (Nat.le_of_ble_eq_true rfl) (t_135_366 i1 P x3 (2 : Int32)) (fun v5 => ?_)
          refine tr_blk 3 (pc' := 35) (rows' := kb_277_4.drop 19) (loc' := [.inr (12, 0, 0, 72), .inr (20, 366, 0, i1), .inl (.int x2), .inl (.int x3)]) (st' := [.inl (.int (2 : Int32)), .inl (.int x2), .inr (20, 366, 0, i1), .inl (.int v5)]) (P1 := P) rfl ⟨trivial, trivial, trivial, trivial⟩ ?_
          refine tr_cRI (z := km_135) (av := [.inr (20, 366, 0, i1), .inl (.int x2), .inl (.int (2 : Int32))]) (st' := [.inl (.int v5)]) rfl rfl rfl (Nat.le_of_ble_eq_true rfl) trivial rfl (Nat.le_of_ble_eq_true rfl) (t_135_366 i1 P x2 (2 : Int32)) (fun v6 => ?_)
          refine tr_if (fun h11 => ?_) (fun h11 => ?_)
          · refine tr_icF (cd := .le) (Int32.not_le.mpr h11) ?_
            refine tr_nil (rows2 := kb_277_41) rfl (List.cons_ne_nil _ _) ?_
            refine tr_blk 2 (pc' := 43) (rows' := kb_277_41.drop 2) (loc' := [.inr (12, 0, 0, 72), .inr (20, 366, 0, i1), .inl (.int x3), .inl (.int x3)]) (st' := []) (P1 := P) rfl ⟨trivial, trivial, trivial⟩ ?_
            refine tr_nil (rows2 := kb_277_43) rfl (List.cons_ne_nil _ _) ?_
            refine tr_blk 1 (pc' := 46) (rows' := kb_277_43.drop 1) (loc' := [.inr (12, 0, 0, 72), .inr (20, 366, 0, i1), .inl (.int x3), .inl (.int (x3 + 1))]) (st' := []) (P1 := P) rfl ⟨trivial, trivial⟩ ?_
            refine tr_goto ?_
            exact ih x3 (x3 + 1) P
          · refine tr_icT (cd := .le) (Int32.not_lt.mp h11) ?_
            refine tr_nil (rows2 := kb_277_43) rfl (List.cons_ne_nil _ _) ?_
            refine tr_blk 1 (pc' := 46) (rows' := kb_277_43.drop 1) (loc' := [.inr (12, 0, 0, 72), .inr (20, 366, 0, i1), .inl (.int x2), .inl (.int (x3 + 1))]) (st' := []) (P1 := P) rfl ⟨trivial, trivial⟩ ?_
            refine tr_goto ?_
            exact ih x2 (x3 + 1) P
    · refine tr_icT (cd := .ge) (Int32.not_lt.mp h7) ?_
      refine tr_nil (rows2 := kb_277_49) rfl (List.cons_ne_nil _ _) ?_
      refine tr_blk 2 (pc' := 51) (rows' := kb_277_49.drop 2) (loc' := [.inr (12, 0, 0, 72), .inr (20, 366, 0, i1), .inl (.int x2), .inl (.int x3)]) (st' := [.inl (.int (-1 : Int32)), .inl (.int x2)]) (P1 := P) rfl ⟨trivial, trivial, trivial⟩ ?_
      refine tr_if (fun h8 => ?_) (fun h8 => ?_)
      · refine tr_icF (cd := .ne) (fun q => q h8) ?_
        exact tr_reV (z := km_277) rfl rfl rfl
      · refine tr_icT (cd := .ne) h8 ?_
        refine tr_nil (rows2 := kb_277_55) rfl (List.cons_ne_nil _ _) ?_
        refine tr_blk 6 (pc' := 63) (rows' := kb_277_55.drop 6) (loc' := [.inr (12, 0, 0, 72), .inr (20, 366, 0, i1), .inl (.int x2), .inl (.int x3)]) (st' := [.inl (.int (2 : Int32)), .inl (.int x2), .inr (20, 366, 0, i1), .inl (.int (P.1 72 44)), .inr (12, 0, 0, 72)]) (P1 := P) rfl ⟨trivial, trivial, trivial, trivial, trivial, trivial, trivial⟩ ?_
        refine tr_cRI (z := km_135) (av := [.inr (20, 366, 0, i1), .inl (.int x2), .inl (.int (2 : Int32))]) (st' := [.inl (.int (P.1 72 44)), .inr (12, 0, 0, 72)]) rfl rfl rfl (Nat.le_of_ble_eq_true rfl) trivial rfl (Nat.le_of_ble_eq_true rfl) (t_135_366 i1 P x2 (2 : Int32)) (fun v1 => ?_)
        refine tr_blk 2 (pc' := 70) (rows' := kb_277_55.drop 9) (loc' := [.inr (12, 0, 0, 72), .inr (20, 366, 0, i1), .inl (.int x2), .inl (.int x3)]) (st' := []) (P1 := (ab_pI P 72 44 ((P.1 72 44) + v1))) rfl ⟨trivial, trivial, trivial⟩ ?_
        refine tr_lt (fun P2 => ?_)
        refine tr_blk 3 (pc' := 73) (rows' := kb_277_55.drop 12) (loc' := [.inr (12, 0, 0, 72), .inr (20, 366, 0, i1), .inl (.int x2), .inl (.int x3)]) (st' := [.inl (.int (2 : Int32)), .inl (.int x2), .inr (20, 366, 0, i1)]) (P1 := P2) rfl ⟨trivial, trivial, trivial, trivial⟩ ?_
        refine tr_cWV (z := km_223) (av := [.inr (20, 366, 0, i1), .inl (.int x2), .inl (.int (2 : Int32))]) (st' := []) rfl rfl rfl (Nat.le_of_ble_eq_true rfl) trivial rfl (Nat.le_of_ble_eq_true rfl) (t_223_366 i1 x2 (2 : Int32) P2) (fun P3 => ?_)
        exact tr_reV (z := km_277) rfl rfl rfl
def f_277_366 (i1 : Nat) (N : Nat) (P : ab_P) : Option ab_P :=
    f_277_366_4 i1 N (-1 : Int32) (0 : Int32) P
theorem t_277_366 {xs : Nat × (Nat → Int32)} {d : Nat} (i1 : Nat) (N : Nat) : ∀ (P : ab_P), ab_tr xs wV (d + 2) 277 0 [] [.inr (12, 0, 0, 72), .inr (20, 366, 0, i1), ab_top, ab_top] [] P (f_277_366 i1 N P) := by
  intro P
  unfold f_277_366
  refine tr_nil (rows2 := kb_277_0) rfl (List.cons_ne_nil _ _) ?_
  refine tr_blk 4 (pc' := 4) (rows' := kb_277_0.drop 4) (loc' := [.inr (12, 0, 0, 72), .inr (20, 366, 0, i1), .inl (.int (-1 : Int32)), .inl (.int (0 : Int32))]) (st' := []) (P1 := P) rfl ⟨trivial, trivial, trivial, trivial, trivial⟩ ?_
  exact t_277_366_4 i1 N (-1 : Int32) (0 : Int32) P
def f_190_45 (N : Nat) (H24 : Int32 → Int32 → Int32 → Int32 → ab_P → Option ab_P) : Nat → Int32 → Int32 → Int32 → Int32 → Int32 → ab_P → Option ab_P
  | 0, _, _, _, _, _, _ => none
  | n + 1, x2, x3, x4, x5, x6, P =>
    if x6 < (P.1 76 0) then
      ab_b2 (f_276 (16 : Int32) P) fun v9 P8 =>
      if v9 < x3 then
        if (P8.1 76 0) < (2 : Int32) then
          f_190_45 N H24 n x2 x3 x4 x5 (x6 + 1) P8
        else
        ab_b2 (f_276 ((P8.1 76 0) - (1 : Int32)) P8) fun v11 P10 =>
        if ¬ (P10.1 76 0) = 0 then
        ab_b2 (f_276 (9 : Int32) P10) fun v14 P13 =>
        ab_b2 (f_197_366 478 x6 (((x6 + (1 : Int32)) + v11) - ((x6 + (1 : Int32)) + v11) / (P10.1 76 0) * (P10.1 76 0)) ((1 : Int32) + v14) (1 : Int32) P13) fun v16 P15 =>
        f_190_45 N H24 n x2 x3 x4 x5 (x6 + 1) P15
        else none
      else
      f_190_45 N H24 n x2 x3 x4 x5 (x6 + 1) P8
    else
    ab_b2 (f_276 (16 : Int32) P) fun v6 P5 =>
    if v6 < x4 then
      Option.bind (f_277_366 478 N P5) fun P7 =>
      H24 x2 x3 x4 (x5 + 1) P7
    else
    H24 x2 x3 x4 (x5 + 1) P5
theorem t_190_45 {xs : Nat × (Nat → Int32)} {d : Nat} (N : Nat) (H24 : Int32 → Int32 → Int32 → Int32 → ab_P → Option ab_P) (hH24 : ∀ (x2 : Int32) (x3 : Int32) (x4 : Int32) (x5 : Int32) (d1 : Int32) (d6 : ab_V) (d7 : ab_V) (d8 : ab_V) (P : ab_P), ab_tr xs wV (d + 3) 190 24 [] [.inr (12, 0, 0, 72), .inl (.int d1), .inl (.int x2), .inl (.int x3), .inl (.int x4), .inl (.int x5), d6, d7, d8] [] P (H24 x2 x3 x4 x5 P)) : ∀ n : Nat, ∀ (x2 : Int32) (x3 : Int32) (x4 : Int32) (x5 : Int32) (x6 : Int32) (d1 : Int32) (d7 : ab_V) (d8 : ab_V) (P : ab_P), ab_tr xs wV (d + 3) 190 45 [] [.inr (12, 0, 0, 72), .inl (.int d1), .inl (.int x2), .inl (.int x3), .inl (.int x4), .inl (.int x5), .inl (.int x6), d7, d8] [] P (f_190_45 N H24 n x2 x3 x4 x5 x6 P) := by
  intro n
  induction n with
  | zero => intro x2 x3 x4 x5 x6 d1 d7 d8 P; exact tr_no
  | succ n ih =>
    intro x2 x3 x4 x5 x6 d1 d7 d8 P
    refine tr_nil (rows2 := kb_190_45) rfl (List.cons_ne_nil _ _) ?_
    refine tr_blk 5 (pc' := 53) (rows' := kb_190_45.drop 5) (loc' := [.inr (12, 0, 0, 72), .inl (.int d1), .inl (.int x2), .inl (.int x3), .inl (.int x4), .inl (.int x5), .inl (.int x6), d7, d8]) (st' := [.inl (.int (P.1 76 0)), .inl (.int x6)]) (P1 := P) rfl ⟨trivial, trivial, trivial, trivial, (ab_vi (by decide)), trivial⟩ ?_
    refine tr_if (fun h17 => ?_) (fun h17 => ?_)
    · refine tr_icF (cd := .ge) (Int32.not_le.mpr h17) ?_
      refine tr_blk 2 (pc' := 59) (rows' := kb_190_45.drop 8) (loc' := [.inr (12, 0, 0, 72), .inl (.int d1), .inl (.int x2), .inl (.int x3), .inl (.int x4), .inl (.int x5), .inl (.int x6), d7, d8]) (st' := [.inl (.int (16 : Int32)), .inr (12, 0, 0, 72)]) (P1 := P) rfl ⟨trivial, trivial, trivial⟩ ?_
      refine tr_cWI (z := km_276) (av := [.inr (12, 0, 0, 72), .inl (.int (16 : Int32))]) (st' := []) rfl rfl rfl (Nat.le_of_ble_eq_true rfl) ⟨rfl, Or.inl (by decide)⟩ rfl (Nat.le_of_ble_eq_true rfl) (t_276 (16 : Int32) P) (fun v9 P8 => ?_)
      refine tr_blk 1 (pc' := 63) (rows' := kb_190_45.drop 10) (loc' := [.inr (12, 0, 0, 72), .inl (.int d1), .inl (.int x2), .inl (.int x3), .inl (.int x4), .inl (.int x5), .inl (.int x6), d7, d8]) (st' := [.inl (.int x3), .inl (.int v9)]) (P1 := P8) rfl ⟨trivial, trivial⟩ ?_
      refine tr_if (fun h19 => ?_) (fun h19 => ?_)
      · refine tr_icF (cd := .ge) (Int32.not_le.mpr h19) ?_
        refine tr_blk 5 (pc' := 73) (rows' := kb_190_45.drop 16) (loc' := [.inr (12, 0, 0, 72), .inl (.int d1), .inl (.int x2), .inl (.int x3), .inl (.int x4), .inl (.int x5), .inl (.int x6), d7, d8]) (st' := [.inl (.int (2 : Int32)), .inl (.int (P8.1 76 0))]) (P1 := P8) rfl ⟨trivial, trivial, trivial, (ab_vi (by decide)), trivial, trivial⟩ ?_
        refine tr_if (fun h20 => ?_) (fun h20 => ?_)
        · refine tr_icF (cd := .ge) (Int32.not_le.mpr h20) ?_
          refine tr_goto ?_
          refine tr_nil (rows2 := kb_190_130) rfl (List.cons_ne_nil _ _) ?_
          refine tr_blk 1 (pc' := 133) (rows' := kb_190_130.drop 1) (loc' := [.inr (12, 0, 0, 72), .inl (.int d1), .inl (.int x2), .inl (.int x3), .inl (.int x4), .inl (.int x5), .inl (.int (x6 + 1)), d7, d8]) (st' := []) (P1 := P8) rfl ⟨trivial, trivial⟩ ?_
          refine tr_goto ?_
          exact ih x2 x3 x4 x5 (x6 + 1) (d1) (d7) (d8) P8
        · refine tr_icT (cd := .ge) (Int32.not_lt.mp h20) ?_
          refine tr_nil (rows2 := kb_190_79) rfl (List.cons_ne_nil _ _) ?_
          refine tr_blk 10 (pc' := 92) (rows' := kb_190_79.drop 10) (loc' := [.inr (12, 0, 0, 72), .inl (.int d1), .inl (.int x2), .inl (.int x3), .inl (.int x4), .inl (.int x5), .inl (.int x6), d7, d8]) (st' := [.inl (.int ((P8.1 76 0) - (1 : Int32))), .inr (12, 0, 0, 72), .inl (.int (x6 + (1 : Int32)))]) (P1 := P8) rfl ⟨trivial, trivial, trivial, trivial, trivial, trivial, trivial, (ab_vi (by decide)), trivial, trivial, trivial⟩ ?_
          refine tr_cWI (z := km_276) (av := [.inr (12, 0, 0, 72), .inl (.int ((P8.1 76 0) - (1 : Int32)))]) (st' := [.inl (.int (x6 + (1 : Int32)))]) rfl rfl rfl (Nat.le_of_ble_eq_true rfl) ⟨rfl, Or.inl (by decide)⟩ rfl (Nat.le_of_ble_eq_true rfl) (t_276 ((P8.1 76 0) - (1 : Int32)) P8) (fun v11 P10 => ?_)
          refine tr_gd (fun h12 => ?_)
          refine tr_blk 10 (pc' := 109) (rows' := kb_190_79.drop 21) (loc' := [.inr (12, 0, 0, 72), .inl (.int d1), .inl (.int x2), .inl (.int x3), .inl (.int x4), .inl (.int x5), .inl (.int x6), .inl (.int (((x6 + (1 : Int32)) + v11) - ((x6 + (1 : Int32)) + v11) / (P10.1 76 0) * (P10.1 76 0))), d8]) (st' := [.inl (.int (9 : Int32)), .inr (12, 0, 0, 72), .inl (.int (1 : Int32))]) (P1 := P10) rfl ⟨trivial, trivial, trivial, trivial, (ab_vi (by decide)), h12, trivial, trivial, trivial, trivial, trivial⟩ ?_
          refine tr_cWI (z := km_276) (av := [.inr (12, 0, 0, 72), .inl (.int (9 : Int32))]) (st' := [.inl (.int (1 : Int32))]) rfl rfl rfl (Nat.le_of_ble_eq_true rfl) ⟨rfl, Or.inl (by decide)⟩ rfl (Nat.le_of_ble_eq_true rfl) (t_276 (9 : Int32) P10) (fun v14 P13 => ?_)
          refine tr_blk 8 (pc' := 126) (rows' := kb_190_79.drop 30) (loc' := [.inr (12, 0, 0, 72), .inl (.int d1), .inl (.int x2), .inl (.int x3), .inl (.int x4), .inl (.int x5), .inl (.int x6), .inl (.int (((x6 + (1 : Int32)) + v11) - ((x6 + (1 : Int32)) + v11) / (P10.1 76 0) * (P10.1 76 0))), .inl (.int ((1 : Int32) + v14))]) (st' := [.inl (.int (1 : Int32)), .inl (.int ((1 : Int32) + v14)), .inl (.int (((x6 + (1 : Int32)) + v11) - ((x6 + (1 : Int32)) + v11) / (P10.1 76 0) * (P10.1 76 0))), .inl (.int x6), .inr (20, 366, 0, 478)]) (P1 := P13) rfl ⟨trivial, trivial, trivial, trivial, trivial, trivial, trivial, trivial, trivial⟩ ?_
          refine tr_cWI (z := km_197) (av := [.inr (20, 366, 0, 478), .inl (.int x6), .inl (.int (((x6 + (1 : Int32)) + v11) - ((x6 + (1 : Int32)) + v11) / (P10.1 76 0) * (P10.1 76 0))), .inl (.int ((1 : Int32) + v14)), .inl (.int (1 : Int32))]) (st' := []) rfl rfl rfl (Nat.le_of_ble_eq_true rfl) trivial rfl (Nat.le_of_ble_eq_true rfl) (t_197_366 478 x6 (((x6 + (1 : Int32)) + v11) - ((x6 + (1 : Int32)) + v11) / (P10.1 76 0) * (P10.1 76 0)) ((1 : Int32) + v14) (1 : Int32) P13) (fun v16 P15 => ?_)
          refine tr_blk 1 (pc' := 130) (rows' := kb_190_79.drop 32) (loc' := [.inr (12, 0, 0, 72), .inl (.int d1), .inl (.int x2), .inl (.int x3), .inl (.int x4), .inl (.int x5), .inl (.int x6), .inl (.int (((x6 + (1 : Int32)) + v11) - ((x6 + (1 : Int32)) + v11) / (P10.1 76 0) * (P10.1 76 0))), .inl (.int ((1 : Int32) + v14))]) (st' := []) (P1 := P15) rfl ⟨trivial, trivial⟩ ?_
          refine tr_nil (rows2 := kb_190_130) rfl (List.cons_ne_nil _ _) ?_
          refine tr_blk 1 (pc' := 133) (rows' := kb_190_130.drop 1) (loc' := [.inr (12, 0, 0, 72), .inl (.int d1), .inl (.int x2), .inl (.int x3), .inl (.int x4), .inl (.int x5), .inl (.int (x6 + 1)), .inl (.int (((x6 + (1 : Int32)) + v11) - ((x6 + (1 : Int32)) + v11) / (P10.1 76 0) * (P10.1 76 0))), .inl (.int ((1 : Int32) + v14))]) (st' := []) (P1 := P15) rfl ⟨trivial, trivial⟩ ?_
          refine tr_goto ?_
          exact ih x2 x3 x4 x5 (x6 + 1) (d1) (.inl (.int (((x6 + (1 : Int32)) + v11) - ((x6 + (1 : Int32)) + v11) / (P10.1 76 0) * (P10.1 76 0)))) (.inl (.int ((1 : Int32) + v14))) P15
      · refine tr_icT (cd := .ge) (Int32.not_lt.mp h19) ?_
        refine tr_nil (rows2 := kb_190_130) rfl (List.cons_ne_nil _ _) ?_
        refine tr_blk 1 (pc' := 133) (rows' := kb_190_130.drop 1) (loc' := [.inr (12, 0, 0, 72), .inl (.int d1), .inl (.int x2), .inl (.int x3), .inl (.int x4), .inl (.int x5), .inl (.int (x6 + 1)), d7, d8]) (st' := []) (P1 := P8) rfl ⟨trivial, trivial⟩ ?_
        refine tr_goto ?_
        exact ih x2 x3 x4 x5 (x6 + 1) (d1) (d7) (d8) P8
    · refine tr_icT (cd := .ge) (Int32.not_lt.mp h17) ?_
      refine tr_nil (rows2 := kb_190_136) rfl (List.cons_ne_nil _ _) ?_
      refine tr_blk 2 (pc' := 139) (rows' := kb_190_136.drop 2) (loc' := [.inr (12, 0, 0, 72), .inl (.int d1), .inl (.int x2), .inl (.int x3), .inl (.int x4), .inl (.int x5), .inl (.int x6), d7, d8]) (st' := [.inl (.int (16 : Int32)), .inr (12, 0, 0, 72)]) (P1 := P) rfl ⟨trivial, trivial, trivial⟩ ?_
      refine tr_cWI (z := km_276) (av := [.inr (12, 0, 0, 72), .inl (.int (16 : Int32))]) (st' := []) rfl rfl rfl (Nat.le_of_ble_eq_true rfl) ⟨rfl, Or.inl (by decide)⟩ rfl (Nat.le_of_ble_eq_true rfl) (t_276 (16 : Int32) P) (fun v6 P5 => ?_)
      refine tr_blk 1 (pc' := 144) (rows' := kb_190_136.drop 4) (loc' := [.inr (12, 0, 0, 72), .inl (.int d1), .inl (.int x2), .inl (.int x3), .inl (.int x4), .inl (.int x5), .inl (.int x6), d7, d8]) (st' := [.inl (.int x4), .inl (.int v6)]) (P1 := P5) rfl ⟨trivial, trivial⟩ ?_
      refine tr_if (fun h18 => ?_) (fun h18 => ?_)
      · refine tr_icF (cd := .ge) (Int32.not_le.mpr h18) ?_
        refine tr_blk 3 (pc' := 152) (rows' := kb_190_136.drop 8) (loc' := [.inr (12, 0, 0, 72), .inl (.int d1), .inl (.int x2), .inl (.int x3), .inl (.int x4), .inl (.int x5), .inl (.int x6), d7, d8]) (st' := [.inr (20, 366, 0, 478), .inr (12, 0, 0, 72)]) (P1 := P5) rfl ⟨trivial, trivial, trivial, trivial⟩ ?_
        refine tr_cWV (z := km_277) (av := [.inr (12, 0, 0, 72), .inr (20, 366, 0, 478)]) (st' := []) rfl rfl rfl (Nat.le_of_ble_eq_true rfl) ⟨rfl, Or.inl (by decide)⟩ rfl (Nat.le_of_ble_eq_true rfl) (t_277_366 478 N P5) (fun P7 => ?_)
        refine tr_nil (rows2 := kb_190_155) rfl (List.cons_ne_nil _ _) ?_
        refine tr_blk 1 (pc' := 158) (rows' := kb_190_155.drop 1) (loc' := [.inr (12, 0, 0, 72), .inl (.int d1), .inl (.int x2), .inl (.int x3), .inl (.int x4), .inl (.int (x5 + 1)), .inl (.int x6), d7, d8]) (st' := []) (P1 := P7) rfl ⟨trivial, trivial⟩ ?_
        refine tr_goto ?_
        exact hH24 x2 x3 x4 (x5 + 1) (d1) (.inl (.int x6)) (d7) (d8) P7
      · refine tr_icT (cd := .ge) (Int32.not_lt.mp h18) ?_
        refine tr_nil (rows2 := kb_190_155) rfl (List.cons_ne_nil _ _) ?_
        refine tr_blk 1 (pc' := 158) (rows' := kb_190_155.drop 1) (loc' := [.inr (12, 0, 0, 72), .inl (.int d1), .inl (.int x2), .inl (.int x3), .inl (.int x4), .inl (.int (x5 + 1)), .inl (.int x6), d7, d8]) (st' := []) (P1 := P5) rfl ⟨trivial, trivial⟩ ?_
        refine tr_goto ?_
        exact hH24 x2 x3 x4 (x5 + 1) (d1) (.inl (.int x6)) (d7) (d8) P5
def f_190_24 (N : Nat) : Nat → Int32 → Int32 → Int32 → Int32 → ab_P → Option ab_P
  | 0, _, _, _, _, _ => none
  | n + 1, x2, x3, x4, x5, P =>
    if x5 < x2 then
      ab_lt (ab_pI P 478 361 ((P.1 478 361) + (1 : Int32))) fun P4 =>
      f_190_45 N (fun y0 y1 y2 y3 y4 => f_190_24 N n y0 y1 y2 y3 y4) N x2 x3 x4 x5 (0 : Int32) P4
    else
    some P
theorem t_190_24 {xs : Nat × (Nat → Int32)} {d : Nat} (N : Nat) : ∀ n : Nat, ∀ (x2 : Int32) (x3 : Int32) (x4 : Int32) (x5 : Int32) (d1 : Int32) (d6 : ab_V) (d7 : ab_V) (d8 : ab_V) (P : ab_P), ab_tr xs wV (d + 3) 190 24 [] [.inr (12, 0, 0, 72), .inl (.int d1), .inl (.int x2), .inl (.int x3), .inl (.int x4), .inl (.int x5), d6, d7, d8] [] P (f_190_24 N n x2 x3 x4 x5 P) := by
  intro n
  induction n with
  | zero => intro x2 x3 x4 x5 d1 d6 d7 d8 P; exact tr_no
  | succ n ih =>
    intro x2 x3 x4 x5 d1 d6 d7 d8 P
    refine tr_nil (rows2 := kb_190_24) rfl (List.cons_ne_nil _ _) ?_
    refine tr_blk 2 (pc' := 27) (rows' := kb_190_24.drop 2) (loc' := [.inr (12, 0, 0, 72), .inl (.int d1), .inl (.int x2), .inl (.int x3), .inl (.int x4), .inl (.int x5), d6, d7, d8]) (st' := [.inl (.int x2), .inl (.int x5)]) (P1 := P) rfl ⟨trivial, trivial, trivial⟩ ?_
    refine tr_if (fun h21 => ?_) (fun h21 => ?_)
    · refine tr_icF (cd := .ge) (Int32.not_le.mpr h21) ?_
      refine tr_blk 8 (pc' := 42) (rows' := kb_190_24.drop 11) (loc' := [.inr (12, 0, 0, 72), .inl (.int d1), .inl (.int x2), .inl (.int x3), .inl (.int x4), .inl (.int x5), d6, d7, d8]) (st' := []) (P1 := (ab_pI P 478 361 ((P.1 478 361) + (1 : Int32)))) rfl ⟨trivial, trivial, trivial, trivial, (ab_vi (by decide)), trivial, trivial, (ab_vi (by decide)), trivial⟩ ?_
      refine tr_lt (fun P4 => ?_)
      refine tr_blk 2 (pc' := 45) (rows' := kb_190_24.drop 13) (loc' := [.inr (12, 0, 0, 72), .inl (.int d1), .inl (.int x2), .inl (.int x3), .inl (.int x4), .inl (.int x5), .inl (.int (0 : Int32)), d7, d8]) (st' := []) (P1 := P4) rfl ⟨trivial, trivial, trivial⟩ ?_
      exact t_190_45 N _ ih N x2 x3 x4 x5 (0 : Int32) (d1) (d7) (d8) P4
    · refine tr_icT (cd := .ge) (Int32.not_lt.mp h21) ?_
      refine tr_nil (rows2 := kb_190_161) rfl (List.cons_ne_nil _ _) ?_
      exact tr_reV (z := km_190) rfl rfl rfl
def f_190 (N : Nat) (a1 : Int32) (a2 : Int32) (a3 : Int32) (a4 : Int32) (P : ab_P) : Option ab_P :=
    Option.bind (f_123_366_366 477 478 N P) fun P1 =>
    ab_lt (ab_pI P1 72 43 a1) fun P2 =>
    ab_lt (ab_pI P2 72 44 (0 : Int32)) fun P3 =>
    f_190_24 N N a2 a3 a4 (0 : Int32) P3
theorem t_190 {xs : Nat × (Nat → Int32)} {d : Nat} (N : Nat) : ∀ (a1 : Int32) (a2 : Int32) (a3 : Int32) (a4 : Int32) (P : ab_P), ab_tr xs wV (d + 3) 190 0 [] [.inr (12, 0, 0, 72), .inl (.int a1), .inl (.int a2), .inl (.int a3), .inl (.int a4), ab_top, ab_top, ab_top, ab_top] [] P (f_190 N a1 a2 a3 a4 P) := by
  intro a1 a2 a3 a4 P
  unfold f_190
  refine tr_nil (rows2 := kb_190_0) rfl (List.cons_ne_nil _ _) ?_
  refine tr_blk 4 (pc' := 8) (rows' := kb_190_0.drop 4) (loc' := [.inr (12, 0, 0, 72), .inl (.int a1), .inl (.int a2), .inl (.int a3), .inl (.int a4), ab_top, ab_top, ab_top, ab_top]) (st' := [.inr (20, 366, 0, 478), .inr (20, 366, 0, 477)]) (P1 := P) rfl ⟨trivial, trivial, trivial, trivial, trivial⟩ ?_
  refine tr_cWV (z := km_123) (av := [.inr (20, 366, 0, 477), .inr (20, 366, 0, 478)]) (st' := []) rfl rfl rfl (Nat.le_of_ble_eq_true rfl) trivial rfl (Nat.le_of_ble_eq_true rfl) (t_123_366_366 477 478 N P) (fun P1 => ?_)
  refine tr_blk 3 (pc' := 16) (rows' := kb_190_0.drop 8) (loc' := [.inr (12, 0, 0, 72), .inl (.int a1), .inl (.int a2), .inl (.int a3), .inl (.int a4), ab_top, ab_top, ab_top, ab_top]) (st' := []) (P1 := (ab_pI P1 72 43 a1)) rfl ⟨trivial, trivial, trivial, trivial⟩ ?_
  refine tr_lt (fun P2 => ?_)
  refine tr_blk 3 (pc' := 21) (rows' := kb_190_0.drop 11) (loc' := [.inr (12, 0, 0, 72), .inl (.int a1), .inl (.int a2), .inl (.int a3), .inl (.int a4), ab_top, ab_top, ab_top, ab_top]) (st' := []) (P1 := (ab_pI P2 72 44 (0 : Int32))) rfl ⟨trivial, trivial, trivial, trivial⟩ ?_
  refine tr_lt (fun P3 => ?_)
  refine tr_blk 2 (pc' := 24) (rows' := kb_190_0.drop 13) (loc' := [.inr (12, 0, 0, 72), .inl (.int a1), .inl (.int a2), .inl (.int a3), .inl (.int a4), .inl (.int (0 : Int32)), ab_top, ab_top, ab_top]) (st' := []) (P1 := P3) rfl ⟨trivial, trivial, trivial⟩ ?_
  exact t_190_24 N N a2 a3 a4 (0 : Int32) (a1) (ab_top) (ab_top) (ab_top) P3
def f_85_104 (N : Nat) (x5 : Int32) (P : ab_P) : Option (Int32 × ab_P) :=
    if x5 = (2 : Int32) then
      some ((P.1 72 44), P)
    else
    Option.bind (f_177_366 478 N P (1 : Int32)) fun v11 =>
    some (v11, P)
theorem t_85_104 {xs : Nat × (Nat → Int32)} {d : Nat} (N : Nat) : ∀ (x5 : Int32) (d1 : Int32) (d2 : Int32) (d3 : Int32) (d4 : Int32) (P : ab_P), ab_tr xs wI (d + 4) 85 104 [] [.inr (12, 0, 0, 72), .inl (.int d1), .inl (.int d2), .inl (.int d3), .inl (.int d4), .inl (.int x5)] [] P (f_85_104 N x5 P) := by
  intro x5 d1 d2 d3 d4 P
  unfold f_85_104
  refine tr_nil (rows2 := kb_85_104) rfl (List.cons_ne_nil _ _) ?_
  refine tr_blk 2 (pc' := 107) (rows' := kb_85_104.drop 2) (loc' := [.inr (12, 0, 0, 72), .inl (.int d1), .inl (.int d2), .inl (.int d3), .inl (.int d4), .inl (.int x5)]) (st' := [.inl (.int (2 : Int32)), .inl (.int x5)]) (P1 := P) rfl ⟨trivial, trivial, trivial⟩ ?_
  refine tr_if (fun h12 => ?_) (fun h12 => ?_)
  · refine tr_icF (cd := .ne) (fun q => q h12) ?_
    refine tr_blk 2 (pc' := 114) (rows' := kb_85_104.drop 5) (loc' := [.inr (12, 0, 0, 72), .inl (.int d1), .inl (.int d2), .inl (.int d3), .inl (.int d4), .inl (.int x5)]) (st' := [.inl (.int (P.1 72 44))]) (P1 := P) rfl ⟨trivial, trivial, trivial⟩ ?_
    refine tr_goto ?_
    refine tr_nil (rows2 := kb_85_126) rfl (List.cons_ne_nil _ _) ?_
    exact tr_reI (z := km_85) rfl ⟨_, rfl, rfl⟩ rfl
  · refine tr_icT (cd := .ne) h12 ?_
    refine tr_nil (rows2 := kb_85_117) rfl (List.cons_ne_nil _ _) ?_
    refine tr_blk 4 (pc' := 123) (rows' := kb_85_117.drop 4) (loc' := [.inr (12, 0, 0, 72), .inl (.int d1), .inl (.int d2), .inl (.int d3), .inl (.int d4), .inl (.int x5)]) (st' := [.inl (.int (1 : Int32)), .inr (20, 366, 0, 478), .inr (12, 0, 0, 72)]) (P1 := P) rfl ⟨trivial, trivial, trivial, trivial, trivial⟩ ?_
    refine tr_cRI (z := km_177) (av := [.inr (12, 0, 0, 72), .inr (20, 366, 0, 478), .inl (.int (1 : Int32))]) (st' := []) rfl rfl rfl (Nat.le_of_ble_eq_true rfl) ⟨rfl, Or.inl (by decide)⟩ rfl (Nat.le_of_ble_eq_true rfl) (t_177_366 478 N P (1 : Int32)) (fun v11 => ?_)
    refine tr_nil (rows2 := kb_85_126) rfl (List.cons_ne_nil _ _) ?_
    exact tr_reI (z := km_85) rfl ⟨_, rfl, rfl⟩ rfl
def f_85_87 (N : Nat) (x5 : Int32) (P : ab_P) : Option (Int32 × ab_P) :=
    if x5 = (1 : Int32) then
      Option.bind (f_132_366 478 N P) fun v10 =>
      some (v10, P)
    else
    f_85_104 N x5 P
theorem t_85_87 {xs : Nat × (Nat → Int32)} {d : Nat} (N : Nat) : ∀ (x5 : Int32) (d1 : Int32) (d2 : Int32) (d3 : Int32) (d4 : Int32) (P : ab_P), ab_tr xs wI (d + 4) 85 87 [] [.inr (12, 0, 0, 72), .inl (.int d1), .inl (.int d2), .inl (.int d3), .inl (.int d4), .inl (.int x5)] [] P (f_85_87 N x5 P) := by
  intro x5 d1 d2 d3 d4 P
  unfold f_85_87
  refine tr_nil (rows2 := kb_85_87) rfl (List.cons_ne_nil _ _) ?_
  refine tr_blk 2 (pc' := 90) (rows' := kb_85_87.drop 2) (loc' := [.inr (12, 0, 0, 72), .inl (.int d1), .inl (.int d2), .inl (.int d3), .inl (.int d4), .inl (.int x5)]) (st' := [.inl (.int (1 : Int32)), .inl (.int x5)]) (P1 := P) rfl ⟨trivial, trivial, trivial⟩ ?_
  refine tr_if (fun h13 => ?_) (fun h13 => ?_)
  · refine tr_icF (cd := .ne) (fun q => q h13) ?_
    refine tr_blk 3 (pc' := 98) (rows' := kb_85_87.drop 6) (loc' := [.inr (12, 0, 0, 72), .inl (.int d1), .inl (.int d2), .inl (.int d3), .inl (.int d4), .inl (.int x5)]) (st' := [.inr (20, 366, 0, 478), .inr (12, 0, 0, 72)]) (P1 := P) rfl ⟨trivial, trivial, trivial, trivial⟩ ?_
    refine tr_cRI (z := km_132) (av := [.inr (12, 0, 0, 72), .inr (20, 366, 0, 478)]) (st' := []) rfl rfl rfl (Nat.le_of_ble_eq_true rfl) ⟨rfl, Or.inl (by decide)⟩ rfl (Nat.le_of_ble_eq_true rfl) (t_132_366 478 N P) (fun v10 => ?_)
    refine tr_goto ?_
    refine tr_nil (rows2 := kb_85_126) rfl (List.cons_ne_nil _ _) ?_
    exact tr_reI (z := km_85) rfl ⟨_, rfl, rfl⟩ rfl
  · refine tr_icT (cd := .ne) h13 ?_
    exact t_85_104 N x5 (d1) (d2) (d3) (d4) P
def f_85_62 (N : Nat) (x1 : Int32) (x2 : Int32) (x3 : Int32) (x4 : Int32) (x5 : Int32) (P : ab_P) : Option (Int32 × ab_P) :=
    Option.bind (f_190 N x1 x2 x3 x4 P) fun P8 =>
    if x5 = (0 : Int32) then
      Option.bind (f_142_366 478 N P8) fun v9 =>
      some (v9, P8)
    else
    f_85_87 N x5 P8
theorem t_85_62 {xs : Nat × (Nat → Int32)} {d : Nat} (N : Nat) : ∀ (x1 : Int32) (x2 : Int32) (x3 : Int32) (x4 : Int32) (x5 : Int32) (P : ab_P), ab_tr xs wI (d + 4) 85 62 [] [.inr (12, 0, 0, 72), .inl (.int x1), .inl (.int x2), .inl (.int x3), .inl (.int x4), .inl (.int x5)] [] P (f_85_62 N x1 x2 x3 x4 x5 P) := by
  intro x1 x2 x3 x4 x5 P
  unfold f_85_62
  refine tr_nil (rows2 := kb_85_62) rfl (List.cons_ne_nil _ _) ?_
  refine tr_blk 5 (pc' := 68) (rows' := kb_85_62.drop 5) (loc' := [.inr (12, 0, 0, 72), .inl (.int x1), .inl (.int x2), .inl (.int x3), .inl (.int x4), .inl (.int x5)]) (st' := [.inl (.int x4), .inl (.int x3), .inl (.int x2), .inl (.int x1), .inr (12, 0, 0, 72)]) (P1 := P) rfl ⟨trivial, trivial, trivial, trivial, trivial, trivial⟩ ?_
  refine tr_cWV (z := km_190) (av := [.inr (12, 0, 0, 72), .inl (.int x1), .inl (.int x2), .inl (.int x3), .inl (.int x4)]) (st' := []) rfl rfl rfl (Nat.le_of_ble_eq_true rfl) ⟨rfl, Or.inl (by decide)⟩ rfl (Nat.le_of_ble_eq_true rfl) (t_190 N x1 x2 x3 x4 P) (fun P8 => ?_)
  refine tr_blk 1 (pc' := 73) (rows' := kb_85_62.drop 7) (loc' := [.inr (12, 0, 0, 72), .inl (.int x1), .inl (.int x2), .inl (.int x3), .inl (.int x4), .inl (.int x5)]) (st' := [.inl (.int x5)]) (P1 := P8) rfl ⟨trivial, trivial⟩ ?_
  refine tr_if (fun h14 => ?_) (fun h14 => ?_)
  · refine tr_ifF (cd := .ne) (fun q => q h14) ?_
    refine tr_blk 3 (pc' := 81) (rows' := kb_85_62.drop 11) (loc' := [.inr (12, 0, 0, 72), .inl (.int x1), .inl (.int x2), .inl (.int x3), .inl (.int x4), .inl (.int x5)]) (st' := [.inr (20, 366, 0, 478), .inr (12, 0, 0, 72)]) (P1 := P8) rfl ⟨trivial, trivial, trivial, trivial⟩ ?_
    refine tr_cRI (z := km_142) (av := [.inr (12, 0, 0, 72), .inr (20, 366, 0, 478)]) (st' := []) rfl rfl rfl (Nat.le_of_ble_eq_true rfl) ⟨rfl, Or.inl (by decide)⟩ rfl (Nat.le_of_ble_eq_true rfl) (t_142_366 478 N P8) (fun v9 => ?_)
    refine tr_goto ?_
    refine tr_nil (rows2 := kb_85_126) rfl (List.cons_ne_nil _ _) ?_
    exact tr_reI (z := km_85) rfl ⟨_, rfl, rfl⟩ rfl
  · refine tr_ifT (cd := .ne) h14 ?_
    exact t_85_87 N x5 (x1) (x2) (x3) (x4) P8
def f_85_52 (N : Nat) (x1 : Int32) (x2 : Int32) (x3 : Int32) (x4 : Int32) (x5 : Int32) (s0 : Int32) (P : ab_P) : Option (Int32 × ab_P) :=
    ab_b2 (f_113 s0 (1 : Int32) (1 : Int32) P) fun v7 P6 =>
    if v7 = (0 : Int32) then
      f_85_62 N x1 x2 x3 x4 x5 P6
    else
    some ((0 : Int32), P6)
theorem t_85_52 {xs : Nat × (Nat → Int32)} {d : Nat} (N : Nat) : ∀ (x1 : Int32) (x2 : Int32) (x3 : Int32) (x4 : Int32) (x5 : Int32) (s0 : Int32) (P : ab_P), ab_tr xs wI (d + 4) 85 52 [] [.inr (12, 0, 0, 72), .inl (.int x1), .inl (.int x2), .inl (.int x3), .inl (.int x4), .inl (.int x5)] [.inl (.int s0), .inr (12, 0, 0, 72)] P (f_85_52 N x1 x2 x3 x4 x5 s0 P) := by
  intro x1 x2 x3 x4 x5 s0 P
  unfold f_85_52
  refine tr_nil (rows2 := kb_85_52) rfl (List.cons_ne_nil _ _) ?_
  refine tr_blk 2 (pc' := 54) (rows' := kb_85_52.drop 2) (loc' := [.inr (12, 0, 0, 72), .inl (.int x1), .inl (.int x2), .inl (.int x3), .inl (.int x4), .inl (.int x5)]) (st' := [.inl (.int (1 : Int32)), .inl (.int (1 : Int32)), .inl (.int s0), .inr (12, 0, 0, 72)]) (P1 := P) rfl ⟨trivial, trivial, trivial⟩ ?_
  refine tr_cWI (z := km_113) (av := [.inr (12, 0, 0, 72), .inl (.int s0), .inl (.int (1 : Int32)), .inl (.int (1 : Int32))]) (st' := []) rfl rfl rfl (Nat.le_of_ble_eq_true rfl) ⟨rfl, Or.inl (by decide)⟩ rfl (Nat.le_of_ble_eq_true rfl) (t_113 s0 (1 : Int32) (1 : Int32) P) (fun v7 P6 => ?_)
  refine tr_if (fun h15 => ?_) (fun h15 => ?_)
  · refine tr_ifT (cd := .eq) h15 ?_
    exact t_85_62 N x1 x2 x3 x4 x5 P6
  · refine tr_ifF (cd := .eq) h15 ?_
    refine tr_blk 1 (pc' := 61) (rows' := kb_85_52.drop 5) (loc' := [.inr (12, 0, 0, 72), .inl (.int x1), .inl (.int x2), .inl (.int x3), .inl (.int x4), .inl (.int x5)]) (st' := [.inl (.int (0 : Int32))]) (P1 := P6) rfl ⟨trivial, trivial⟩ ?_
    exact tr_reI (z := km_85) rfl ⟨_, rfl, rfl⟩ rfl
def f_85 (N : Nat) (a1 : Int32) (a2 : Int32) (a3 : Int32) (a4 : Int32) (a5 : Int32) (P : ab_P) : Option (Int32 × ab_P) :=
    ab_lt (ab_pI P 72 0 (0 : Int32)) fun P1 =>
    Option.bind (f_112 P1 a2 (1 : Int32) (30 : Int32)) fun v2 =>
    if v2 = (0 : Int32) then
      f_85_52 N a1 a2 a3 a4 a5 (1 : Int32) P1
    else
    Option.bind (f_112 P1 a3 (0 : Int32) (16 : Int32)) fun v3 =>
    if v3 = (0 : Int32) then
      f_85_52 N a1 a2 a3 a4 a5 (1 : Int32) P1
    else
    Option.bind (f_112 P1 a4 (0 : Int32) (16 : Int32)) fun v4 =>
    if v4 = (0 : Int32) then
      f_85_52 N a1 a2 a3 a4 a5 (1 : Int32) P1
    else
    Option.bind (f_112 P1 a5 (0 : Int32) (3 : Int32)) fun v5 =>
    if v5 = (0 : Int32) then
      f_85_52 N a1 a2 a3 a4 a5 (1 : Int32) P1
    else
    f_85_52 N a1 a2 a3 a4 a5 (0 : Int32) P1
theorem t_85 {xs : Nat × (Nat → Int32)} {d : Nat} (N : Nat) : ∀ (a1 : Int32) (a2 : Int32) (a3 : Int32) (a4 : Int32) (a5 : Int32) (P : ab_P), ab_tr xs wI (d + 4) 85 0 [] [.inr (12, 0, 0, 72), .inl (.int a1), .inl (.int a2), .inl (.int a3), .inl (.int a4), .inl (.int a5)] [] P (f_85 N a1 a2 a3 a4 a5 P) := by
  intro a1 a2 a3 a4 a5 P
  unfold f_85
  refine tr_nil (rows2 := kb_85_0) rfl (List.cons_ne_nil _ _) ?_
  refine tr_blk 3 (pc' := 5) (rows' := kb_85_0.drop 3) (loc' := [.inr (12, 0, 0, 72), .inl (.int a1), .inl (.int a2), .inl (.int a3), .inl (.int a4), .inl (.int a5)]) (st' := []) (P1 := (ab_pI P 72 0 (0 : Int32))) rfl ⟨trivial, trivial, trivial, trivial⟩ ?_
  refine tr_lt (fun P1 => ?_)
  refine tr_blk 4 (pc' := 10) (rows' := kb_85_0.drop 7) (loc' := [.inr (12, 0, 0, 72), .inl (.int a1), .inl (.int a2), .inl (.int a3), .inl (.int a4), .inl (.int a5)]) (st' := [.inl (.int (30 : Int32)), .inl (.int (1 : Int32)), .inl (.int a2), .inr (12, 0, 0, 72)]) (P1 := P1) rfl ⟨trivial, trivial, trivial, trivial, trivial⟩ ?_
  refine tr_cRI (z := km_112) (av := [.inl (.int a2), .inl (.int (1 : Int32)), .inl (.int (30 : Int32))]) (st' := [.inr (12, 0, 0, 72)]) rfl rfl rfl (Nat.le_of_ble_eq_true rfl) trivial rfl (Nat.le_of_ble_eq_true rfl) (t_112 P1 a2 (1 : Int32) (30 : Int32)) (fun v2 => ?_)
  refine tr_if (fun h16 => ?_) (fun h16 => ?_)
  · refine tr_ifT (cd := .eq) h16 ?_
    refine tr_nil (rows2 := kb_85_47) rfl (List.cons_ne_nil _ _) ?_
    refine tr_blk 1 (pc' := 48) (rows' := kb_85_47.drop 1) (loc' := [.inr (12, 0, 0, 72), .inl (.int a1), .inl (.int a2), .inl (.int a3), .inl (.int a4), .inl (.int a5)]) (st' := [.inl (.int (1 : Int32)), .inr (12, 0, 0, 72)]) (P1 := P1) rfl ⟨trivial, trivial⟩ ?_
    refine tr_goto ?_
    exact t_85_52 N a1 a2 a3 a4 a5 (1 : Int32) P1
  · refine tr_ifF (cd := .eq) h16 ?_
    refine tr_blk 3 (pc' := 20) (rows' := kb_85_0.drop 12) (loc' := [.inr (12, 0, 0, 72), .inl (.int a1), .inl (.int a2), .inl (.int a3), .inl (.int a4), .inl (.int a5)]) (st' := [.inl (.int (16 : Int32)), .inl (.int (0 : Int32)), .inl (.int a3), .inr (12, 0, 0, 72)]) (P1 := P1) rfl ⟨trivial, trivial, trivial, trivial⟩ ?_
    refine tr_cRI (z := km_112) (av := [.inl (.int a3), .inl (.int (0 : Int32)), .inl (.int (16 : Int32))]) (st' := [.inr (12, 0, 0, 72)]) rfl rfl rfl (Nat.le_of_ble_eq_true rfl) trivial rfl (Nat.le_of_ble_eq_true rfl) (t_112 P1 a3 (0 : Int32) (16 : Int32)) (fun v3 => ?_)
    refine tr_if (fun h17 => ?_) (fun h17 => ?_)
    · refine tr_ifT (cd := .eq) h17 ?_
      refine tr_nil (rows2 := kb_85_47) rfl (List.cons_ne_nil _ _) ?_
      refine tr_blk 1 (pc' := 48) (rows' := kb_85_47.drop 1) (loc' := [.inr (12, 0, 0, 72), .inl (.int a1), .inl (.int a2), .inl (.int a3), .inl (.int a4), .inl (.int a5)]) (st' := [.inl (.int (1 : Int32)), .inr (12, 0, 0, 72)]) (P1 := P1) rfl ⟨trivial, trivial⟩ ?_
      refine tr_goto ?_
      exact t_85_52 N a1 a2 a3 a4 a5 (1 : Int32) P1
    · refine tr_ifF (cd := .eq) h17 ?_
      refine tr_blk 3 (pc' := 31) (rows' := kb_85_0.drop 17) (loc' := [.inr (12, 0, 0, 72), .inl (.int a1), .inl (.int a2), .inl (.int a3), .inl (.int a4), .inl (.int a5)]) (st' := [.inl (.int (16 : Int32)), .inl (.int (0 : Int32)), .inl (.int a4), .inr (12, 0, 0, 72)]) (P1 := P1) rfl ⟨trivial, trivial, trivial, trivial⟩ ?_
      refine tr_cRI (z := km_112) (av := [.inl (.int a4), .inl (.int (0 : Int32)), .inl (.int (16 : Int32))]) (st' := [.inr (12, 0, 0, 72)]) rfl rfl rfl (Nat.le_of_ble_eq_true rfl) trivial rfl (Nat.le_of_ble_eq_true rfl) (t_112 P1 a4 (0 : Int32) (16 : Int32)) (fun v4 => ?_)
      refine tr_if (fun h18 => ?_) (fun h18 => ?_)
      · refine tr_ifT (cd := .eq) h18 ?_
        refine tr_nil (rows2 := kb_85_47) rfl (List.cons_ne_nil _ _) ?_
        refine tr_blk 1 (pc' := 48) (rows' := kb_85_47.drop 1) (loc' := [.inr (12, 0, 0, 72), .inl (.int a1), .inl (.int a2), .inl (.int a3), .inl (.int a4), .inl (.int a5)]) (st' := [.inl (.int (1 : Int32)), .inr (12, 0, 0, 72)]) (P1 := P1) rfl ⟨trivial, trivial⟩ ?_
        refine tr_goto ?_
        exact t_85_52 N a1 a2 a3 a4 a5 (1 : Int32) P1
      · refine tr_ifF (cd := .eq) h18 ?_
        refine tr_blk 3 (pc' := 41) (rows' := kb_85_0.drop 22) (loc' := [.inr (12, 0, 0, 72), .inl (.int a1), .inl (.int a2), .inl (.int a3), .inl (.int a4), .inl (.int a5)]) (st' := [.inl (.int (3 : Int32)), .inl (.int (0 : Int32)), .inl (.int a5), .inr (12, 0, 0, 72)]) (P1 := P1) rfl ⟨trivial, trivial, trivial, trivial⟩ ?_
        refine tr_cRI (z := km_112) (av := [.inl (.int a5), .inl (.int (0 : Int32)), .inl (.int (3 : Int32))]) (st' := [.inr (12, 0, 0, 72)]) rfl rfl rfl (Nat.le_of_ble_eq_true rfl) trivial rfl (Nat.le_of_ble_eq_true rfl) (t_112 P1 a5 (0 : Int32) (3 : Int32)) (fun v5 => ?_)
        refine tr_if (fun h19 => ?_) (fun h19 => ?_)
        · refine tr_ifF (cd := .ne) (fun q => q h19) ?_
          refine tr_nil (rows2 := kb_85_47) rfl (List.cons_ne_nil _ _) ?_
          refine tr_blk 1 (pc' := 48) (rows' := kb_85_47.drop 1) (loc' := [.inr (12, 0, 0, 72), .inl (.int a1), .inl (.int a2), .inl (.int a3), .inl (.int a4), .inl (.int a5)]) (st' := [.inl (.int (1 : Int32)), .inr (12, 0, 0, 72)]) (P1 := P1) rfl ⟨trivial, trivial⟩ ?_
          refine tr_goto ?_
          exact t_85_52 N a1 a2 a3 a4 a5 (1 : Int32) P1
        · refine tr_ifT (cd := .ne) h19 ?_
          refine tr_nil (rows2 := kb_85_51) rfl (List.cons_ne_nil _ _) ?_
          refine tr_blk 1 (pc' := 52) (rows' := kb_85_51.drop 1) (loc' := [.inr (12, 0, 0, 72), .inl (.int a1), .inl (.int a2), .inl (.int a3), .inl (.int a4), .inl (.int a5)]) (st' := [.inl (.int (0 : Int32)), .inr (12, 0, 0, 72)]) (P1 := P1) rfl ⟨trivial, trivial⟩ ?_
          exact t_85_52 N a1 a2 a3 a4 a5 (0 : Int32) P1
def f_191_71 (N : Nat) : Nat → Int32 → Int32 → Int32 → Int32 → Int32 → Int32 → Int32 → Int32 → Int32 → Int32 → Int32 → ab_P → Option ((Int32 ⊕ Fin 3) × ab_P)
  | 0, _, _, _, _, _, _, _, _, _, _, _, _ => none
  | n + 1, x1, x2, x3, x4, x5, x6, x7, x8, x9, x10, x11, P =>
    if x11 < x2 then
      Option.bind (f_274 N (x1 + x11) x3 x4 x5 P) fun P9 =>
      Option.bind (f_236 62 N P9) fun v10 =>
      Option.bind (f_252 P9 x8 v10) fun v11 =>
      Option.bind (f_278 P9 x9 v10) fun v12 =>
      if x6 = (2 : Int32) then
        Option.bind (f_275 N P9) fun v13 =>
        if v13 = x7 then
          f_191_71 N n x1 x2 x3 x4 x5 x6 x7 v11 v12 (x10 + (1 : Int32)) (x11 + 1) P9
        else
        f_191_71 N n x1 x2 x3 x4 x5 x6 x7 v11 v12 (x10 + (0 : Int32)) (x11 + 1) P9
      else
      f_191_71 N n x1 x2 x3 x4 x5 x6 x7 v11 v12 (x10 + (0 : Int32)) (x11 + 1) P9
    else
    if x6 = (0 : Int32) then
      some (.inl x8, P)
    else
    if x6 = (1 : Int32) then
      some (.inl x9, P)
    else
    some (.inl x10, P)
theorem t_191_71 {xs : Nat × (Nat → Int32)} {d : Nat} (N : Nat) : ∀ n : Nat, ∀ (x1 : Int32) (x2 : Int32) (x3 : Int32) (x4 : Int32) (x5 : Int32) (x6 : Int32) (x7 : Int32) (x8 : Int32) (x9 : Int32) (x10 : Int32) (x11 : Int32) (d12 : ab_V) (P : ab_P), ab_tr xs xI (d + 5) 191 71 [] [.inr (11, 0, 0, 0), .inl (.int x1), .inl (.int x2), .inl (.int x3), .inl (.int x4), .inl (.int x5), .inl (.int x6), .inl (.int x7), .inl (.int x8), .inl (.int x9), .inl (.int x10), .inl (.int x11), d12] [] P (f_191_71 N n x1 x2 x3 x4 x5 x6 x7 x8 x9 x10 x11 P) := by
  intro n
  induction n with
  | zero => intro x1 x2 x3 x4 x5 x6 x7 x8 x9 x10 x11 d12 P; exact tr_no
  | succ n ih =>
    intro x1 x2 x3 x4 x5 x6 x7 x8 x9 x10 x11 d12 P
    refine tr_nil (rows2 := kb_191_71) rfl (List.cons_ne_nil _ _) ?_
    refine tr_blk 2 (pc' := 74) (rows' := kb_191_71.drop 2) (loc' := [.inr (11, 0, 0, 0), .inl (.int x1), .inl (.int x2), .inl (.int x3), .inl (.int x4), .inl (.int x5), .inl (.int x6), .inl (.int x7), .inl (.int x8), .inl (.int x9), .inl (.int x10), .inl (.int x11), d12]) (st' := [.inl (.int x2), .inl (.int x11)]) (P1 := P) rfl ⟨trivial, trivial, trivial⟩ ?_
    refine tr_if (fun h14 => ?_) (fun h14 => ?_)
    · refine tr_icF (cd := .ge) (Int32.not_le.mpr h14) ?_
      refine tr_blk 8 (pc' := 90) (rows' := kb_191_71.drop 11) (loc' := [.inr (11, 0, 0, 0), .inl (.int x1), .inl (.int x2), .inl (.int x3), .inl (.int x4), .inl (.int x5), .inl (.int x6), .inl (.int x7), .inl (.int x8), .inl (.int x9), .inl (.int x10), .inl (.int x11), d12]) (st' := [.inl (.int x5), .inl (.int x4), .inl (.int x3), .inl (.int (x1 + x11)), .inr (7, 0, 0, 61)]) (P1 := P) rfl ⟨trivial, trivial, trivial, trivial, trivial, trivial, trivial, trivial, trivial⟩ ?_
      refine tr_cWV (z := km_274) (av := [.inr (7, 0, 0, 61), .inl (.int (x1 + x11)), .inl (.int x3), .inl (.int x4), .inl (.int x5)]) (st' := []) rfl rfl rfl (Nat.le_of_ble_eq_true rfl) ⟨rfl, Or.inl (by decide)⟩ rfl (Nat.le_of_ble_eq_true rfl) (t_274 N (x1 + x11) x3 x4 x5 P) (fun P9 => ?_)
      refine tr_blk 3 (pc' := 100) (rows' := kb_191_71.drop 15) (loc' := [.inr (11, 0, 0, 0), .inl (.int x1), .inl (.int x2), .inl (.int x3), .inl (.int x4), .inl (.int x5), .inl (.int x6), .inl (.int x7), .inl (.int x8), .inl (.int x9), .inl (.int x10), .inl (.int x11), d12]) (st' := [.inr (6, 0, 0, 62)]) (P1 := P9) rfl ⟨trivial, trivial, trivial, trivial⟩ ?_
      refine tr_cRI (z := km_236) (av := [.inr (6, 0, 0, 62)]) (st' := []) rfl rfl rfl (Nat.le_of_ble_eq_true rfl) ⟨rfl, Or.inl (by decide)⟩ rfl (Nat.le_of_ble_eq_true rfl) (t_236 62 N P9) (fun v10 => ?_)
      refine tr_blk 3 (pc' := 109) (rows' := kb_191_71.drop 19) (loc' := [.inr (11, 0, 0, 0), .inl (.int x1), .inl (.int x2), .inl (.int x3), .inl (.int x4), .inl (.int x5), .inl (.int x6), .inl (.int x7), .inl (.int x8), .inl (.int x9), .inl (.int x10), .inl (.int x11), .inl (.int v10)]) (st' := [.inl (.int v10), .inl (.int x8)]) (P1 := P9) rfl ⟨trivial, trivial, trivial, trivial⟩ ?_
      refine tr_cRI (z := km_252) (av := [.inl (.int x8), .inl (.int v10)]) (st' := []) rfl rfl rfl (Nat.le_of_ble_eq_true rfl) trivial rfl (Nat.le_of_ble_eq_true rfl) (t_252 P9 x8 v10) (fun v11 => ?_)
      refine tr_blk 3 (pc' := 118) (rows' := kb_191_71.drop 23) (loc' := [.inr (11, 0, 0, 0), .inl (.int x1), .inl (.int x2), .inl (.int x3), .inl (.int x4), .inl (.int x5), .inl (.int x6), .inl (.int x7), .inl (.int v11), .inl (.int x9), .inl (.int x10), .inl (.int x11), .inl (.int v10)]) (st' := [.inl (.int v10), .inl (.int x9)]) (P1 := P9) rfl ⟨trivial, trivial, trivial, trivial⟩ ?_
      refine tr_cRI (z := km_278) (av := [.inl (.int x9), .inl (.int v10)]) (st' := []) rfl rfl rfl (Nat.le_of_ble_eq_true rfl) trivial rfl (Nat.le_of_ble_eq_true rfl) (t_278 P9 x9 v10) (fun v12 => ?_)
      refine tr_blk 4 (pc' := 128) (rows' := kb_191_71.drop 28) (loc' := [.inr (11, 0, 0, 0), .inl (.int x1), .inl (.int x2), .inl (.int x3), .inl (.int x4), .inl (.int x5), .inl (.int x6), .inl (.int x7), .inl (.int v11), .inl (.int v12), .inl (.int x10), .inl (.int x11), .inl (.int v10)]) (st' := [.inl (.int (2 : Int32)), .inl (.int x6), .inl (.int x10)]) (P1 := P9) rfl ⟨trivial, trivial, trivial, trivial, trivial⟩ ?_
      refine tr_if (fun h17 => ?_) (fun h17 => ?_)
      · refine tr_icF (cd := .ne) (fun q => q h17) ?_
        refine tr_blk 2 (pc' := 135) (rows' := kb_191_71.drop 31) (loc' := [.inr (11, 0, 0, 0), .inl (.int x1), .inl (.int x2), .inl (.int x3), .inl (.int x4), .inl (.int x5), .inl (.int x6), .inl (.int x7), .inl (.int v11), .inl (.int v12), .inl (.int x10), .inl (.int x11), .inl (.int v10)]) (st' := [.inr (7, 0, 0, 61), .inl (.int x10)]) (P1 := P9) rfl ⟨trivial, trivial, trivial⟩ ?_
        refine tr_cRI (z := km_275) (av := [.inr (7, 0, 0, 61)]) (st' := [.inl (.int x10)]) rfl rfl rfl (Nat.le_of_ble_eq_true rfl) ⟨rfl, Or.inl (by decide)⟩ rfl (Nat.le_of_ble_eq_true rfl) (t_275 N P9) (fun v13 => ?_)
        refine tr_blk 1 (pc' := 140) (rows' := kb_191_71.drop 33) (loc' := [.inr (11, 0, 0, 0), .inl (.int x1), .inl (.int x2), .inl (.int x3), .inl (.int x4), .inl (.int x5), .inl (.int x6), .inl (.int x7), .inl (.int v11), .inl (.int v12), .inl (.int x10), .inl (.int x11), .inl (.int v10)]) (st' := [.inl (.int x7), .inl (.int v13), .inl (.int x10)]) (P1 := P9) rfl ⟨trivial, trivial⟩ ?_
        refine tr_if (fun h18 => ?_) (fun h18 => ?_)
        · refine tr_icF (cd := .ne) (fun q => q h18) ?_
          refine tr_blk 1 (pc' := 144) (rows' := kb_191_71.drop 35) (loc' := [.inr (11, 0, 0, 0), .inl (.int x1), .inl (.int x2), .inl (.int x3), .inl (.int x4), .inl (.int x5), .inl (.int x6), .inl (.int x7), .inl (.int v11), .inl (.int v12), .inl (.int x10), .inl (.int x11), .inl (.int v10)]) (st' := [.inl (.int (1 : Int32)), .inl (.int x10)]) (P1 := P9) rfl ⟨trivial, trivial⟩ ?_
          refine tr_goto ?_
          refine tr_nil (rows2 := kb_191_148) rfl (List.cons_ne_nil _ _) ?_
          refine tr_blk 3 (pc' := 154) (rows' := kb_191_148.drop 3) (loc' := [.inr (11, 0, 0, 0), .inl (.int x1), .inl (.int x2), .inl (.int x3), .inl (.int x4), .inl (.int x5), .inl (.int x6), .inl (.int x7), .inl (.int v11), .inl (.int v12), .inl (.int (x10 + (1 : Int32))), .inl (.int (x11 + 1)), .inl (.int v10)]) (st' := []) (P1 := P9) rfl ⟨trivial, trivial, trivial, trivial⟩ ?_
          refine tr_goto ?_
          exact ih x1 x2 x3 x4 x5 x6 x7 v11 v12 (x10 + (1 : Int32)) (x11 + 1) (.inl (.int v10)) P9
        · refine tr_icT (cd := .ne) h18 ?_
          refine tr_nil (rows2 := kb_191_147) rfl (List.cons_ne_nil _ _) ?_
          refine tr_blk 1 (pc' := 148) (rows' := kb_191_147.drop 1) (loc' := [.inr (11, 0, 0, 0), .inl (.int x1), .inl (.int x2), .inl (.int x3), .inl (.int x4), .inl (.int x5), .inl (.int x6), .inl (.int x7), .inl (.int v11), .inl (.int v12), .inl (.int x10), .inl (.int x11), .inl (.int v10)]) (st' := [.inl (.int (0 : Int32)), .inl (.int x10)]) (P1 := P9) rfl ⟨trivial, trivial⟩ ?_
          refine tr_nil (rows2 := kb_191_148) rfl (List.cons_ne_nil _ _) ?_
          refine tr_blk 3 (pc' := 154) (rows' := kb_191_148.drop 3) (loc' := [.inr (11, 0, 0, 0), .inl (.int x1), .inl (.int x2), .inl (.int x3), .inl (.int x4), .inl (.int x5), .inl (.int x6), .inl (.int x7), .inl (.int v11), .inl (.int v12), .inl (.int (x10 + (0 : Int32))), .inl (.int (x11 + 1)), .inl (.int v10)]) (st' := []) (P1 := P9) rfl ⟨trivial, trivial, trivial, trivial⟩ ?_
          refine tr_goto ?_
          exact ih x1 x2 x3 x4 x5 x6 x7 v11 v12 (x10 + (0 : Int32)) (x11 + 1) (.inl (.int v10)) P9
      · refine tr_icT (cd := .ne) h17 ?_
        refine tr_nil (rows2 := kb_191_147) rfl (List.cons_ne_nil _ _) ?_
        refine tr_blk 1 (pc' := 148) (rows' := kb_191_147.drop 1) (loc' := [.inr (11, 0, 0, 0), .inl (.int x1), .inl (.int x2), .inl (.int x3), .inl (.int x4), .inl (.int x5), .inl (.int x6), .inl (.int x7), .inl (.int v11), .inl (.int v12), .inl (.int x10), .inl (.int x11), .inl (.int v10)]) (st' := [.inl (.int (0 : Int32)), .inl (.int x10)]) (P1 := P9) rfl ⟨trivial, trivial⟩ ?_
        refine tr_nil (rows2 := kb_191_148) rfl (List.cons_ne_nil _ _) ?_
        refine tr_blk 3 (pc' := 154) (rows' := kb_191_148.drop 3) (loc' := [.inr (11, 0, 0, 0), .inl (.int x1), .inl (.int x2), .inl (.int x3), .inl (.int x4), .inl (.int x5), .inl (.int x6), .inl (.int x7), .inl (.int v11), .inl (.int v12), .inl (.int (x10 + (0 : Int32))), .inl (.int (x11 + 1)), .inl (.int v10)]) (st' := []) (P1 := P9) rfl ⟨trivial, trivial, trivial, trivial⟩ ?_
        refine tr_goto ?_
        exact ih x1 x2 x3 x4 x5 x6 x7 v11 v12 (x10 + (0 : Int32)) (x11 + 1) (.inl (.int v10)) P9
    · refine tr_icT (cd := .ge) (Int32.not_lt.mp h14) ?_
      refine tr_nil (rows2 := kb_191_157) rfl (List.cons_ne_nil _ _) ?_
      refine tr_blk 1 (pc' := 159) (rows' := kb_191_157.drop 1) (loc' := [.inr (11, 0, 0, 0), .inl (.int x1), .inl (.int x2), .inl (.int x3), .inl (.int x4), .inl (.int x5), .inl (.int x6), .inl (.int x7), .inl (.int x8), .inl (.int x9), .inl (.int x10), .inl (.int x11), d12]) (st' := [.inl (.int x6)]) (P1 := P) rfl ⟨trivial, trivial⟩ ?_
      refine tr_if (fun h15 => ?_) (fun h15 => ?_)
      · refine tr_ifF (cd := .ne) (fun q => q h15) ?_
        refine tr_blk 1 (pc' := 164) (rows' := kb_191_157.drop 3) (loc' := [.inr (11, 0, 0, 0), .inl (.int x1), .inl (.int x2), .inl (.int x3), .inl (.int x4), .inl (.int x5), .inl (.int x6), .inl (.int x7), .inl (.int x8), .inl (.int x9), .inl (.int x10), .inl (.int x11), d12]) (st' := [.inl (.int x8)]) (P1 := P) rfl ⟨trivial, trivial⟩ ?_
        refine tr_goto ?_
        refine tr_nil (rows2 := kb_191_180) rfl (List.cons_ne_nil _ _) ?_
        exact tr_reI (z := km_191) rfl ⟨_, rfl, rfl⟩ rfl
      · refine tr_ifT (cd := .ne) h15 ?_
        refine tr_nil (rows2 := kb_191_167) rfl (List.cons_ne_nil _ _) ?_
        refine tr_blk 2 (pc' := 170) (rows' := kb_191_167.drop 2) (loc' := [.inr (11, 0, 0, 0), .inl (.int x1), .inl (.int x2), .inl (.int x3), .inl (.int x4), .inl (.int x5), .inl (.int x6), .inl (.int x7), .inl (.int x8), .inl (.int x9), .inl (.int x10), .inl (.int x11), d12]) (st' := [.inl (.int (1 : Int32)), .inl (.int x6)]) (P1 := P) rfl ⟨trivial, trivial, trivial⟩ ?_
        refine tr_if (fun h16 => ?_) (fun h16 => ?_)
        · refine tr_icF (cd := .ne) (fun q => q h16) ?_
          refine tr_blk 1 (pc' := 175) (rows' := kb_191_167.drop 4) (loc' := [.inr (11, 0, 0, 0), .inl (.int x1), .inl (.int x2), .inl (.int x3), .inl (.int x4), .inl (.int x5), .inl (.int x6), .inl (.int x7), .inl (.int x8), .inl (.int x9), .inl (.int x10), .inl (.int x11), d12]) (st' := [.inl (.int x9)]) (P1 := P) rfl ⟨trivial, trivial⟩ ?_
          refine tr_goto ?_
          refine tr_nil (rows2 := kb_191_180) rfl (List.cons_ne_nil _ _) ?_
          exact tr_reI (z := km_191) rfl ⟨_, rfl, rfl⟩ rfl
        · refine tr_icT (cd := .ne) h16 ?_
          refine tr_nil (rows2 := kb_191_178) rfl (List.cons_ne_nil _ _) ?_
          refine tr_blk 1 (pc' := 180) (rows' := kb_191_178.drop 1) (loc' := [.inr (11, 0, 0, 0), .inl (.int x1), .inl (.int x2), .inl (.int x3), .inl (.int x4), .inl (.int x5), .inl (.int x6), .inl (.int x7), .inl (.int x8), .inl (.int x9), .inl (.int x10), .inl (.int x11), d12]) (st' := [.inl (.int x10)]) (P1 := P) rfl ⟨trivial, trivial⟩ ?_
          refine tr_nil (rows2 := kb_191_180) rfl (List.cons_ne_nil _ _) ?_
          exact tr_reI (z := km_191) rfl ⟨_, rfl, rfl⟩ rfl
def f_191 (N : Nat) (a1 : Int32) (a2 : Int32) (a3 : Int32) (a4 : Int32) (a5 : Int32) (a6 : Int32) (a7 : Int32) (P : ab_P) : Option ((Int32 ⊕ Fin 3) × ab_P) :=
    ab_x2 (f_273 a3 a4 a5 P) (fun _ P1 =>
    Option.bind (f_240 P1 a2 (1 : Int32) (20 : Int32)) fun v2 =>
    if v2 = (0 : Int32) then
      ab_x2 (f_228 (0 : Int32) P1) (fun _ P3 =>
      f_191_71 N N a1 a2 a3 a4 a5 a6 a7 (2147483647 : Int32) (0 : Int32) (0 : Int32) (0 : Int32) P3) (fun q => q)
    else
    if a6 < (0 : Int32) then
      ab_x2 (f_228 (0 : Int32) P1) (fun _ P4 =>
      f_191_71 N N a1 a2 a3 a4 a5 a6 a7 (2147483647 : Int32) (0 : Int32) (0 : Int32) (0 : Int32) P4) (fun q => q)
    else
    if (2 : Int32) < a6 then
      ab_x2 (f_228 (0 : Int32) P1) (fun _ P5 =>
      f_191_71 N N a1 a2 a3 a4 a5 a6 a7 (2147483647 : Int32) (0 : Int32) (0 : Int32) (0 : Int32) P5) (fun q => q)
    else
    Option.bind (f_240 P1 a7 (0 : Int32) ((P1.1 3 5) - (1 : Int32))) fun v6 =>
    if v6 = (0 : Int32) then
      ab_x2 (f_228 (0 : Int32) P1) (fun _ P7 =>
      f_191_71 N N a1 a2 a3 a4 a5 a6 a7 (2147483647 : Int32) (0 : Int32) (0 : Int32) (0 : Int32) P7) (fun q => q)
    else
    ab_x2 (f_228 (1 : Int32) P1) (fun _ P8 =>
    f_191_71 N N a1 a2 a3 a4 a5 a6 a7 (2147483647 : Int32) (0 : Int32) (0 : Int32) (0 : Int32) P8) (fun q => q)) (fun q => q)
theorem t_191 {xs : Nat × (Nat → Int32)} {d : Nat} (N : Nat) : ∀ (a1 : Int32) (a2 : Int32) (a3 : Int32) (a4 : Int32) (a5 : Int32) (a6 : Int32) (a7 : Int32) (P : ab_P), ab_tr xs xI (d + 5) 191 0 [] [.inr (11, 0, 0, 0), .inl (.int a1), .inl (.int a2), .inl (.int a3), .inl (.int a4), .inl (.int a5), .inl (.int a6), .inl (.int a7), ab_top, ab_top, ab_top, ab_top, ab_top] [] P (f_191 N a1 a2 a3 a4 a5 a6 a7 P) := by
  intro a1 a2 a3 a4 a5 a6 a7 P
  unfold f_191
  refine tr_nil (rows2 := kb_191_0) rfl (List.cons_ne_nil _ _) ?_
  refine tr_blk 4 (pc' := 6) (rows' := kb_191_0.drop 4) (loc' := [.inr (11, 0, 0, 0), .inl (.int a1), .inl (.int a2), .inl (.int a3), .inl (.int a4), .inl (.int a5), .inl (.int a6), .inl (.int a7), ab_top, ab_top, ab_top, ab_top, ab_top]) (st' := [.inl (.int a5), .inl (.int a4), .inl (.int a3), .inr (11, 0, 0, 0)]) (P1 := P) rfl ⟨trivial, trivial, trivial, trivial, trivial⟩ ?_
  refine tr_cax (fun _ => none) (zi := km_191) (fun _ => rfl) (fun _ _ => rfl) rfl rfl (z := km_273) (av := [.inr (11, 0, 0, 0), .inl (.int a3), .inl (.int a4), .inl (.int a5)]) (st' := []) rfl rfl rfl (Nat.le_of_ble_eq_true rfl) ⟨rfl, Or.inl (by decide)⟩ rfl (Nat.le_of_ble_eq_true rfl) (t_273 a3 a4 a5 P) (fun _ P1 => ?_)
  refine tr_blk 4 (pc' := 14) (rows' := kb_191_0.drop 9) (loc' := [.inr (11, 0, 0, 0), .inl (.int a1), .inl (.int a2), .inl (.int a3), .inl (.int a4), .inl (.int a5), .inl (.int a6), .inl (.int a7), ab_top, ab_top, ab_top, ab_top, ab_top]) (st' := [.inl (.int (20 : Int32)), .inl (.int (1 : Int32)), .inl (.int a2), .inr (11, 0, 0, 0)]) (P1 := P1) rfl ⟨trivial, trivial, trivial, trivial, trivial⟩ ?_
  refine tr_cRI (z := km_240) (av := [.inl (.int a2), .inl (.int (1 : Int32)), .inl (.int (20 : Int32))]) (st' := [.inr (11, 0, 0, 0)]) rfl rfl rfl (Nat.le_of_ble_eq_true rfl) trivial rfl (Nat.le_of_ble_eq_true rfl) (t_240 P1 a2 (1 : Int32) (20 : Int32)) (fun v2 => ?_)
  refine tr_if (fun h19 => ?_) (fun h19 => ?_)
  · refine tr_ifT (cd := .eq) h19 ?_
    refine tr_nil (rows2 := kb_191_53) rfl (List.cons_ne_nil _ _) ?_
    refine tr_blk 1 (pc' := 54) (rows' := kb_191_53.drop 1) (loc' := [.inr (11, 0, 0, 0), .inl (.int a1), .inl (.int a2), .inl (.int a3), .inl (.int a4), .inl (.int a5), .inl (.int a6), .inl (.int a7), ab_top, ab_top, ab_top, ab_top, ab_top]) (st' := [.inl (.int (0 : Int32)), .inr (11, 0, 0, 0)]) (P1 := P1) rfl ⟨trivial, trivial⟩ ?_
    refine tr_nil (rows2 := kb_191_54) rfl (List.cons_ne_nil _ _) ?_
    refine tr_cax (fun _ => none) (zi := km_191) (fun _ => rfl) (fun _ _ => rfl) rfl rfl (z := km_228) (av := [.inr (11, 0, 0, 0), .inl (.int (0 : Int32))]) (st' := []) rfl rfl rfl (Nat.le_of_ble_eq_true rfl) ⟨rfl, Or.inl (by decide)⟩ rfl (Nat.le_of_ble_eq_true rfl) (t_228 (0 : Int32) P1) (fun _ P3 => ?_)
    refine tr_blk 8 (pc' := 71) (rows' := kb_191_54.drop 9) (loc' := [.inr (11, 0, 0, 0), .inl (.int a1), .inl (.int a2), .inl (.int a3), .inl (.int a4), .inl (.int a5), .inl (.int a6), .inl (.int a7), .inl (.int (2147483647 : Int32)), .inl (.int (0 : Int32)), .inl (.int (0 : Int32)), .inl (.int (0 : Int32)), ab_top]) (st' := []) (P1 := P3) rfl ⟨trivial, trivial, trivial, trivial, trivial, trivial, trivial, trivial, trivial⟩ ?_
    exact t_191_71 N N a1 a2 a3 a4 a5 a6 a7 (2147483647 : Int32) (0 : Int32) (0 : Int32) (0 : Int32) (ab_top) P3
  · refine tr_ifF (cd := .eq) h19 ?_
    refine tr_blk 1 (pc' := 22) (rows' := kb_191_0.drop 12) (loc' := [.inr (11, 0, 0, 0), .inl (.int a1), .inl (.int a2), .inl (.int a3), .inl (.int a4), .inl (.int a5), .inl (.int a6), .inl (.int a7), ab_top, ab_top, ab_top, ab_top, ab_top]) (st' := [.inl (.int a6), .inr (11, 0, 0, 0)]) (P1 := P1) rfl ⟨trivial, trivial⟩ ?_
    refine tr_if (fun h20 => ?_) (fun h20 => ?_)
    · refine tr_ifT (cd := .lt) h20 ?_
      refine tr_nil (rows2 := kb_191_53) rfl (List.cons_ne_nil _ _) ?_
      refine tr_blk 1 (pc' := 54) (rows' := kb_191_53.drop 1) (loc' := [.inr (11, 0, 0, 0), .inl (.int a1), .inl (.int a2), .inl (.int a3), .inl (.int a4), .inl (.int a5), .inl (.int a6), .inl (.int a7), ab_top, ab_top, ab_top, ab_top, ab_top]) (st' := [.inl (.int (0 : Int32)), .inr (11, 0, 0, 0)]) (P1 := P1) rfl ⟨trivial, trivial⟩ ?_
      refine tr_nil (rows2 := kb_191_54) rfl (List.cons_ne_nil _ _) ?_
      refine tr_cax (fun _ => none) (zi := km_191) (fun _ => rfl) (fun _ _ => rfl) rfl rfl (z := km_228) (av := [.inr (11, 0, 0, 0), .inl (.int (0 : Int32))]) (st' := []) rfl rfl rfl (Nat.le_of_ble_eq_true rfl) ⟨rfl, Or.inl (by decide)⟩ rfl (Nat.le_of_ble_eq_true rfl) (t_228 (0 : Int32) P1) (fun _ P4 => ?_)
      refine tr_blk 8 (pc' := 71) (rows' := kb_191_54.drop 9) (loc' := [.inr (11, 0, 0, 0), .inl (.int a1), .inl (.int a2), .inl (.int a3), .inl (.int a4), .inl (.int a5), .inl (.int a6), .inl (.int a7), .inl (.int (2147483647 : Int32)), .inl (.int (0 : Int32)), .inl (.int (0 : Int32)), .inl (.int (0 : Int32)), ab_top]) (st' := []) (P1 := P4) rfl ⟨trivial, trivial, trivial, trivial, trivial, trivial, trivial, trivial, trivial⟩ ?_
      exact t_191_71 N N a1 a2 a3 a4 a5 a6 a7 (2147483647 : Int32) (0 : Int32) (0 : Int32) (0 : Int32) (ab_top) P4
    · refine tr_ifF (cd := .lt) h20 ?_
      refine tr_blk 2 (pc' := 28) (rows' := kb_191_0.drop 15) (loc' := [.inr (11, 0, 0, 0), .inl (.int a1), .inl (.int a2), .inl (.int a3), .inl (.int a4), .inl (.int a5), .inl (.int a6), .inl (.int a7), ab_top, ab_top, ab_top, ab_top, ab_top]) (st' := [.inl (.int (2 : Int32)), .inl (.int a6), .inr (11, 0, 0, 0)]) (P1 := P1) rfl ⟨trivial, trivial, trivial⟩ ?_
      refine tr_if (fun h21 => ?_) (fun h21 => ?_)
      · refine tr_icT (cd := .gt) h21 ?_
        refine tr_nil (rows2 := kb_191_53) rfl (List.cons_ne_nil _ _) ?_
        refine tr_blk 1 (pc' := 54) (rows' := kb_191_53.drop 1) (loc' := [.inr (11, 0, 0, 0), .inl (.int a1), .inl (.int a2), .inl (.int a3), .inl (.int a4), .inl (.int a5), .inl (.int a6), .inl (.int a7), ab_top, ab_top, ab_top, ab_top, ab_top]) (st' := [.inl (.int (0 : Int32)), .inr (11, 0, 0, 0)]) (P1 := P1) rfl ⟨trivial, trivial⟩ ?_
        refine tr_nil (rows2 := kb_191_54) rfl (List.cons_ne_nil _ _) ?_
        refine tr_cax (fun _ => none) (zi := km_191) (fun _ => rfl) (fun _ _ => rfl) rfl rfl (z := km_228) (av := [.inr (11, 0, 0, 0), .inl (.int (0 : Int32))]) (st' := []) rfl rfl rfl (Nat.le_of_ble_eq_true rfl) ⟨rfl, Or.inl (by decide)⟩ rfl (Nat.le_of_ble_eq_true rfl) (t_228 (0 : Int32) P1) (fun _ P5 => ?_)
        refine tr_blk 8 (pc' := 71) (rows' := kb_191_54.drop 9) (loc' := [.inr (11, 0, 0, 0), .inl (.int a1), .inl (.int a2), .inl (.int a3), .inl (.int a4), .inl (.int a5), .inl (.int a6), .inl (.int a7), .inl (.int (2147483647 : Int32)), .inl (.int (0 : Int32)), .inl (.int (0 : Int32)), .inl (.int (0 : Int32)), ab_top]) (st' := []) (P1 := P5) rfl ⟨trivial, trivial, trivial, trivial, trivial, trivial, trivial, trivial, trivial⟩ ?_
        exact t_191_71 N N a1 a2 a3 a4 a5 a6 a7 (2147483647 : Int32) (0 : Int32) (0 : Int32) (0 : Int32) (ab_top) P5
      · refine tr_icF (cd := .gt) h21 ?_
        refine tr_blk 7 (pc' := 43) (rows' := kb_191_0.drop 23) (loc' := [.inr (11, 0, 0, 0), .inl (.int a1), .inl (.int a2), .inl (.int a3), .inl (.int a4), .inl (.int a5), .inl (.int a6), .inl (.int a7), ab_top, ab_top, ab_top, ab_top, ab_top]) (st' := [.inl (.int ((P1.1 3 5) - (1 : Int32))), .inl (.int (0 : Int32)), .inl (.int a7), .inr (11, 0, 0, 0)]) (P1 := P1) rfl ⟨trivial, trivial, trivial, trivial, trivial, trivial, trivial, trivial⟩ ?_
        refine tr_cRI (z := km_240) (av := [.inl (.int a7), .inl (.int (0 : Int32)), .inl (.int ((P1.1 3 5) - (1 : Int32)))]) (st' := [.inr (11, 0, 0, 0)]) rfl rfl rfl (Nat.le_of_ble_eq_true rfl) trivial rfl (Nat.le_of_ble_eq_true rfl) (t_240 P1 a7 (0 : Int32) ((P1.1 3 5) - (1 : Int32))) (fun v6 => ?_)
        refine tr_if (fun h22 => ?_) (fun h22 => ?_)
        · refine tr_ifT (cd := .eq) h22 ?_
          refine tr_nil (rows2 := kb_191_53) rfl (List.cons_ne_nil _ _) ?_
          refine tr_blk 1 (pc' := 54) (rows' := kb_191_53.drop 1) (loc' := [.inr (11, 0, 0, 0), .inl (.int a1), .inl (.int a2), .inl (.int a3), .inl (.int a4), .inl (.int a5), .inl (.int a6), .inl (.int a7), ab_top, ab_top, ab_top, ab_top, ab_top]) (st' := [.inl (.int (0 : Int32)), .inr (11, 0, 0, 0)]) (P1 := P1) rfl ⟨trivial, trivial⟩ ?_
          refine tr_nil (rows2 := kb_191_54) rfl (List.cons_ne_nil _ _) ?_
          refine tr_cax (fun _ => none) (zi := km_191) (fun _ => rfl) (fun _ _ => rfl) rfl rfl (z := km_228) (av := [.inr (11, 0, 0, 0), .inl (.int (0 : Int32))]) (st' := []) rfl rfl rfl (Nat.le_of_ble_eq_true rfl) ⟨rfl, Or.inl (by decide)⟩ rfl (Nat.le_of_ble_eq_true rfl) (t_228 (0 : Int32) P1) (fun _ P7 => ?_)
          refine tr_blk 8 (pc' := 71) (rows' := kb_191_54.drop 9) (loc' := [.inr (11, 0, 0, 0), .inl (.int a1), .inl (.int a2), .inl (.int a3), .inl (.int a4), .inl (.int a5), .inl (.int a6), .inl (.int a7), .inl (.int (2147483647 : Int32)), .inl (.int (0 : Int32)), .inl (.int (0 : Int32)), .inl (.int (0 : Int32)), ab_top]) (st' := []) (P1 := P7) rfl ⟨trivial, trivial, trivial, trivial, trivial, trivial, trivial, trivial, trivial⟩ ?_
          exact t_191_71 N N a1 a2 a3 a4 a5 a6 a7 (2147483647 : Int32) (0 : Int32) (0 : Int32) (0 : Int32) (ab_top) P7
        · refine tr_ifF (cd := .eq) h22 ?_
          refine tr_blk 1 (pc' := 50) (rows' := kb_191_0.drop 26) (loc' := [.inr (11, 0, 0, 0), .inl (.int a1), .inl (.int a2), .inl (.int a3), .inl (.int a4), .inl (.int a5), .inl (.int a6), .inl (.int a7), ab_top, ab_top, ab_top, ab_top, ab_top]) (st' := [.inl (.int (1 : Int32)), .inr (11, 0, 0, 0)]) (P1 := P1) rfl ⟨trivial, trivial⟩ ?_
          refine tr_goto ?_
          refine tr_nil (rows2 := kb_191_54) rfl (List.cons_ne_nil _ _) ?_
          refine tr_cax (fun _ => none) (zi := km_191) (fun _ => rfl) (fun _ _ => rfl) rfl rfl (z := km_228) (av := [.inr (11, 0, 0, 0), .inl (.int (1 : Int32))]) (st' := []) rfl rfl rfl (Nat.le_of_ble_eq_true rfl) ⟨rfl, Or.inl (by decide)⟩ rfl (Nat.le_of_ble_eq_true rfl) (t_228 (1 : Int32) P1) (fun _ P8 => ?_)
          refine tr_blk 8 (pc' := 71) (rows' := kb_191_54.drop 9) (loc' := [.inr (11, 0, 0, 0), .inl (.int a1), .inl (.int a2), .inl (.int a3), .inl (.int a4), .inl (.int a5), .inl (.int a6), .inl (.int a7), .inl (.int (2147483647 : Int32)), .inl (.int (0 : Int32)), .inl (.int (0 : Int32)), .inl (.int (0 : Int32)), ab_top]) (st' := []) (P1 := P8) rfl ⟨trivial, trivial, trivial, trivial, trivial, trivial, trivial, trivial, trivial⟩ ?_
          exact t_191_71 N N a1 a2 a3 a4 a5 a6 a7 (2147483647 : Int32) (0 : Int32) (0 : Int32) (0 : Int32) (ab_top) P8
def f_86_1 (N : Nat) (a1 : Int32) (a2 : Int32) (a3 : Int32) (a4 : Int32) (a5 : Int32) (a6 : Int32) (a7 : Int32) (P : ab_P) : Option (Int32 × ab_P) :=
    ab_h2 (f_191 N a1 a2 a3 a4 a5 a6 a7 P) (fun v2 P1 =>
    ab_lt (ab_pL P1 570 0 (v2).toInt64) fun P3 =>
    some ((0 : Int32), P3))
    (fun _ => none) (fun P9 => some ((1 : Int32), P9)) (fun _ => none)
theorem t_86_1 {xs : Nat × (Nat → Int32)} {d : Nat} (N : Nat) : ∀ (a1 : Int32) (a2 : Int32) (a3 : Int32) (a4 : Int32) (a5 : Int32) (a6 : Int32) (a7 : Int32) (P : ab_P), ab_tr xs wI (d + 6) 86 0 [] [.inr (11, 0, 0, 0), .inl (.int a1), .inl (.int a2), .inl (.int a3), .inl (.int a4), .inl (.int a5), .inl (.int a6), .inl (.int a7), .inr (22, 1, 0, 570), ab_top] [] P (f_86_1 N a1 a2 a3 a4 a5 a6 a7 P) := by
  intro a1 a2 a3 a4 a5 a6 a7 P
  unfold f_86_1
  refine tr_nil (rows2 := kb_86_0) rfl (List.cons_ne_nil _ _) ?_
  refine tr_blk 10 (pc' := 15) (rows' := kb_86_0.drop 10) (loc' := [.inr (11, 0, 0, 0), .inl (.int a1), .inl (.int a2), .inl (.int a3), .inl (.int a4), .inl (.int a5), .inl (.int a6), .inl (.int a7), .inr (22, 1, 0, 570), ab_top]) (st' := [.inl (.int a7), .inl (.int a6), .inl (.int a5), .inl (.int a4), .inl (.int a3), .inl (.int a2), .inl (.int a1), .inr (11, 0, 0, 0), .inl (.int (0 : Int32)), .inr (22, 1, 0, 570)]) (P1 := P) rfl ⟨trivial, trivial, trivial, trivial, trivial, trivial, trivial, trivial, trivial, trivial, trivial⟩ ?_
  refine tr_cah (fun b => some (.inl (.int b))) (zi := km_86) (fun _ => rfl) rfl (z := km_191) (av := [.inr (11, 0, 0, 0), .inl (.int a1), .inl (.int a2), .inl (.int a3), .inl (.int a4), .inl (.int a5), .inl (.int a6), .inl (.int a7)]) (st' := [.inl (.int (0 : Int32)), .inr (22, 1, 0, 570)]) rfl rfl rfl (Nat.le_of_ble_eq_true rfl) ⟨rfl, Or.inl (by decide)⟩ rfl (Nat.le_of_ble_eq_true rfl) (t_191 N a1 a2 a3 a4 a5 a6 a7 P) (fun v2 P1 => ?_) ?_ ?_ ?_
  · refine tr_blk 2 (pc' := 20) (rows' := kb_86_0.drop 13) (loc' := [.inr (11, 0, 0, 0), .inl (.int a1), .inl (.int a2), .inl (.int a3), .inl (.int a4), .inl (.int a5), .inl (.int a6), .inl (.int a7), .inr (22, 1, 0, 570), ab_top]) (st' := []) (P1 := (ab_pL P1 570 0 (v2).toInt64)) rfl ⟨trivial, (ab_vi (by decide)), trivial⟩ ?_
    refine tr_lt (fun P3 => ?_)
    refine tr_goto ?_
    refine tr_nil (rows2 := kb_86_27) rfl (List.cons_ne_nil _ _) ?_
    refine tr_blk 1 (pc' := 28) (rows' := kb_86_27.drop 1) (loc' := [.inr (11, 0, 0, 0), .inl (.int a1), .inl (.int a2), .inl (.int a3), .inl (.int a4), .inl (.int a5), .inl (.int a6), .inl (.int a7), .inr (22, 1, 0, 570), ab_top]) (st' := [.inl (.int (0 : Int32))]) (P1 := P3) rfl ⟨trivial, trivial⟩ ?_
    exact tr_reI (z := km_86) rfl ⟨_, rfl, rfl⟩ rfl
  · exact fun _ => rfl
  · exact fun _ => tr_han (rows2 := kb_86_23) (z := km_86) _ (fun q => [.inr (11, 0, 0, 0), .inl (.int a1), .inl (.int a2), .inl (.int a3), .inl (.int a4), .inl (.int a5), .inl (.int a6), .inl (.int a7), .inr (22, 1, 0, 570), .inr (40, 1, 0, q)]) rfl (List.cons_ne_nil _ _) (fun q => rfl) ⟨trivial, trivial, trivial⟩ rfl ⟨_, rfl, rfl⟩ rfl
  · exact fun _ => rfl
def f_87_141 (N : Nat) (H94 : Int32 → Int32 → Int32 → Int32 → Int32 → Int32 → Int32 → Int32 → Int32 → Int32 → Int32 → ab_P → Option (Int32 × ab_P)) (x1 : Int32) (x2 : Int32) (x3 : Int32) (x4 : Int32) (x5 : Int32) (x6 : Int32) (x7 : Int32) (x9 : Int32) (x10 : Int32) (x11 : Int32) (x12 : Int32) (s0 : Int32) (P : ab_P) : Option (Int32 × ab_P) :=
    Option.bind (f_193 P x9 x12) fun v13 =>
    Option.bind (f_177_366 478 N P (1 : Int32)) fun v14 =>
    if v14 = x7 then
      H94 x1 x2 x3 x4 x5 x6 x7 s0 v13 (x10 + (1 : Int32)) (x11 + 1) P
    else
    H94 x1 x2 x3 x4 x5 x6 x7 s0 v13 (x10 + (0 : Int32)) (x11 + 1) P
theorem t_87_141 {xs : Nat × (Nat → Int32)} {d : Nat} (N : Nat) (H94 : Int32 → Int32 → Int32 → Int32 → Int32 → Int32 → Int32 → Int32 → Int32 → Int32 → Int32 → ab_P → Option (Int32 × ab_P)) (hH94 : ∀ (x1 : Int32) (x2 : Int32) (x3 : Int32) (x4 : Int32) (x5 : Int32) (x6 : Int32) (x7 : Int32) (x8 : Int32) (x9 : Int32) (x10 : Int32) (x11 : Int32) (d12 : ab_V) (P : ab_P), ab_tr xs wI (d + 4) 87 94 [] [.inr (12, 0, 0, 72), .inl (.int x1), .inl (.int x2), .inl (.int x3), .inl (.int x4), .inl (.int x5), .inl (.int x6), .inl (.int x7), .inl (.int x8), .inl (.int x9), .inl (.int x10), .inl (.int x11), d12] [] P (H94 x1 x2 x3 x4 x5 x6 x7 x8 x9 x10 x11 P)) : ∀ (x1 : Int32) (x2 : Int32) (x3 : Int32) (x4 : Int32) (x5 : Int32) (x6 : Int32) (x7 : Int32) (x9 : Int32) (x10 : Int32) (x11 : Int32) (x12 : Int32) (s0 : Int32) (d8 : Int32) (P : ab_P), ab_tr xs wI (d + 4) 87 141 [] [.inr (12, 0, 0, 72), .inl (.int x1), .inl (.int x2), .inl (.int x3), .inl (.int x4), .inl (.int x5), .inl (.int x6), .inl (.int x7), .inl (.int d8), .inl (.int x9), .inl (.int x10), .inl (.int x11), .inl (.int x12)] [.inl (.int s0)] P (f_87_141 N H94 x1 x2 x3 x4 x5 x6 x7 x9 x10 x11 x12 s0 P) := by
  intro x1 x2 x3 x4 x5 x6 x7 x9 x10 x11 x12 s0 d8 P
  unfold f_87_141
  refine tr_nil (rows2 := kb_87_141) rfl (List.cons_ne_nil _ _) ?_
  refine tr_blk 3 (pc' := 147) (rows' := kb_87_141.drop 3) (loc' := [.inr (12, 0, 0, 72), .inl (.int x1), .inl (.int x2), .inl (.int x3), .inl (.int x4), .inl (.int x5), .inl (.int x6), .inl (.int x7), .inl (.int s0), .inl (.int x9), .inl (.int x10), .inl (.int x11), .inl (.int x12)]) (st' := [.inl (.int x12), .inl (.int x9)]) (P1 := P) rfl ⟨trivial, trivial, trivial, trivial⟩ ?_
  refine tr_cRI (z := km_193) (av := [.inl (.int x9), .inl (.int x12)]) (st' := []) rfl rfl rfl (Nat.le_of_ble_eq_true rfl) trivial rfl (Nat.le_of_ble_eq_true rfl) (t_193 P x9 x12) (fun v13 => ?_)
  refine tr_blk 6 (pc' := 160) (rows' := kb_87_141.drop 10) (loc' := [.inr (12, 0, 0, 72), .inl (.int x1), .inl (.int x2), .inl (.int x3), .inl (.int x4), .inl (.int x5), .inl (.int x6), .inl (.int x7), .inl (.int s0), .inl (.int v13), .inl (.int x10), .inl (.int x11), .inl (.int x12)]) (st' := [.inl (.int (1 : Int32)), .inr (20, 366, 0, 478), .inr (12, 0, 0, 72), .inl (.int x10)]) (P1 := P) rfl ⟨trivial, trivial, trivial, trivial, trivial, trivial, trivial⟩ ?_
  refine tr_cRI (z := km_177) (av := [.inr (12, 0, 0, 72), .inr (20, 366, 0, 478), .inl (.int (1 : Int32))]) (st' := [.inl (.int x10)]) rfl rfl rfl (Nat.le_of_ble_eq_true rfl) ⟨rfl, Or.inl (by decide)⟩ rfl (Nat.le_of_ble_eq_true rfl) (t_177_366 478 N P (1 : Int32)) (fun v14 => ?_)
  refine tr_blk 1 (pc' := 165) (rows' := kb_87_141.drop 12) (loc' := [.inr (12, 0, 0, 72), .inl (.int x1), .inl (.int x2), .inl (.int x3), .inl (.int x4), .inl (.int x5), .inl (.int x6), .inl (.int x7), .inl (.int s0), .inl (.int v13), .inl (.int x10), .inl (.int x11), .inl (.int x12)]) (st' := [.inl (.int x7), .inl (.int v14), .inl (.int x10)]) (P1 := P) rfl ⟨trivial, trivial⟩ ?_
  refine tr_if (fun h15 => ?_) (fun h15 => ?_)
  · refine tr_icF (cd := .ne) (fun q => q h15) ?_
    refine tr_blk 1 (pc' := 169) (rows' := kb_87_141.drop 14) (loc' := [.inr (12, 0, 0, 72), .inl (.int x1), .inl (.int x2), .inl (.int x3), .inl (.int x4), .inl (.int x5), .inl (.int x6), .inl (.int x7), .inl (.int s0), .inl (.int v13), .inl (.int x10), .inl (.int x11), .inl (.int x12)]) (st' := [.inl (.int (1 : Int32)), .inl (.int x10)]) (P1 := P) rfl ⟨trivial, trivial⟩ ?_
    refine tr_goto ?_
    refine tr_nil (rows2 := kb_87_173) rfl (List.cons_ne_nil _ _) ?_
    refine tr_blk 3 (pc' := 179) (rows' := kb_87_173.drop 3) (loc' := [.inr (12, 0, 0, 72), .inl (.int x1), .inl (.int x2), .inl (.int x3), .inl (.int x4), .inl (.int x5), .inl (.int x6), .inl (.int x7), .inl (.int s0), .inl (.int v13), .inl (.int (x10 + (1 : Int32))), .inl (.int (x11 + 1)), .inl (.int x12)]) (st' := []) (P1 := P) rfl ⟨trivial, trivial, trivial, trivial⟩ ?_
    refine tr_goto ?_
    exact hH94 x1 x2 x3 x4 x5 x6 x7 s0 v13 (x10 + (1 : Int32)) (x11 + 1) (.inl (.int x12)) P
  · refine tr_icT (cd := .ne) h15 ?_
    refine tr_nil (rows2 := kb_87_172) rfl (List.cons_ne_nil _ _) ?_
    refine tr_blk 1 (pc' := 173) (rows' := kb_87_172.drop 1) (loc' := [.inr (12, 0, 0, 72), .inl (.int x1), .inl (.int x2), .inl (.int x3), .inl (.int x4), .inl (.int x5), .inl (.int x6), .inl (.int x7), .inl (.int s0), .inl (.int v13), .inl (.int x10), .inl (.int x11), .inl (.int x12)]) (st' := [.inl (.int (0 : Int32)), .inl (.int x10)]) (P1 := P) rfl ⟨trivial, trivial⟩ ?_
    refine tr_nil (rows2 := kb_87_173) rfl (List.cons_ne_nil _ _) ?_
    refine tr_blk 3 (pc' := 179) (rows' := kb_87_173.drop 3) (loc' := [.inr (12, 0, 0, 72), .inl (.int x1), .inl (.int x2), .inl (.int x3), .inl (.int x4), .inl (.int x5), .inl (.int x6), .inl (.int x7), .inl (.int s0), .inl (.int v13), .inl (.int (x10 + (0 : Int32))), .inl (.int (x11 + 1)), .inl (.int x12)]) (st' := []) (P1 := P) rfl ⟨trivial, trivial, trivial, trivial⟩ ?_
    refine tr_goto ?_
    exact hH94 x1 x2 x3 x4 x5 x6 x7 s0 v13 (x10 + (0 : Int32)) (x11 + 1) (.inl (.int x12)) P
def f_87_94 (N : Nat) : Nat → Int32 → Int32 → Int32 → Int32 → Int32 → Int32 → Int32 → Int32 → Int32 → Int32 → Int32 → ab_P → Option (Int32 × ab_P)
  | 0, _, _, _, _, _, _, _, _, _, _, _, _ => none
  | n + 1, x1, x2, x3, x4, x5, x6, x7, x8, x9, x10, x11, P =>
    if x11 < x2 then
      Option.bind (f_190 N (x1 + x11) x3 x4 x5 P) fun P10 =>
      Option.bind (f_142_366 478 N P10) fun v11 =>
      if x8 = (-1 : Int32) then
        f_87_141 N (fun y0 y1 y2 y3 y4 y5 y6 y7 y8 y9 y10 y11 => f_87_94 N n y0 y1 y2 y3 y4 y5 y6 y7 y8 y9 y10 y11) x1 x2 x3 x4 x5 x6 x7 x9 x10 x11 v11 v11 P10
      else
      Option.bind (f_192 P10 x8 v11) fun v12 =>
      f_87_141 N (fun y0 y1 y2 y3 y4 y5 y6 y7 y8 y9 y10 y11 => f_87_94 N n y0 y1 y2 y3 y4 y5 y6 y7 y8 y9 y10 y11) x1 x2 x3 x4 x5 x6 x7 x9 x10 x11 v11 v12 P10
    else
    if x6 = (0 : Int32) then
      some (x8, P)
    else
    if x6 = (1 : Int32) then
      some (x9, P)
    else
    some (x10, P)
theorem t_87_94 {xs : Nat × (Nat → Int32)} {d : Nat} (N : Nat) : ∀ n : Nat, ∀ (x1 : Int32) (x2 : Int32) (x3 : Int32) (x4 : Int32) (x5 : Int32) (x6 : Int32) (x7 : Int32) (x8 : Int32) (x9 : Int32) (x10 : Int32) (x11 : Int32) (d12 : ab_V) (P : ab_P), ab_tr xs wI (d + 4) 87 94 [] [.inr (12, 0, 0, 72), .inl (.int x1), .inl (.int x2), .inl (.int x3), .inl (.int x4), .inl (.int x5), .inl (.int x6), .inl (.int x7), .inl (.int x8), .inl (.int x9), .inl (.int x10), .inl (.int x11), d12] [] P (f_87_94 N n x1 x2 x3 x4 x5 x6 x7 x8 x9 x10 x11 P) := by
  intro n
  induction n with
  | zero => intro x1 x2 x3 x4 x5 x6 x7 x8 x9 x10 x11 d12 P; exact tr_no
  | succ n ih =>
    intro x1 x2 x3 x4 x5 x6 x7 x8 x9 x10 x11 d12 P
    refine tr_nil (rows2 := kb_87_94) rfl (List.cons_ne_nil _ _) ?_
    refine tr_blk 2 (pc' := 97) (rows' := kb_87_94.drop 2) (loc' := [.inr (12, 0, 0, 72), .inl (.int x1), .inl (.int x2), .inl (.int x3), .inl (.int x4), .inl (.int x5), .inl (.int x6), .inl (.int x7), .inl (.int x8), .inl (.int x9), .inl (.int x10), .inl (.int x11), d12]) (st' := [.inl (.int x2), .inl (.int x11)]) (P1 := P) rfl ⟨trivial, trivial, trivial⟩ ?_
    refine tr_if (fun h16 => ?_) (fun h16 => ?_)
    · refine tr_icF (cd := .ge) (Int32.not_le.mpr h16) ?_
      refine tr_blk 7 (pc' := 110) (rows' := kb_87_94.drop 10) (loc' := [.inr (12, 0, 0, 72), .inl (.int x1), .inl (.int x2), .inl (.int x3), .inl (.int x4), .inl (.int x5), .inl (.int x6), .inl (.int x7), .inl (.int x8), .inl (.int x9), .inl (.int x10), .inl (.int x11), d12]) (st' := [.inl (.int x5), .inl (.int x4), .inl (.int x3), .inl (.int (x1 + x11)), .inr (12, 0, 0, 72)]) (P1 := P) rfl ⟨trivial, trivial, trivial, trivial, trivial, trivial, trivial, trivial⟩ ?_
      refine tr_cWV (z := km_190) (av := [.inr (12, 0, 0, 72), .inl (.int (x1 + x11)), .inl (.int x3), .inl (.int x4), .inl (.int x5)]) (st' := []) rfl rfl rfl (Nat.le_of_ble_eq_true rfl) ⟨rfl, Or.inl (by decide)⟩ rfl (Nat.le_of_ble_eq_true rfl) (t_190 N (x1 + x11) x3 x4 x5 P) (fun P10 => ?_)
      refine tr_blk 3 (pc' := 118) (rows' := kb_87_94.drop 14) (loc' := [.inr (12, 0, 0, 72), .inl (.int x1), .inl (.int x2), .inl (.int x3), .inl (.int x4), .inl (.int x5), .inl (.int x6), .inl (.int x7), .inl (.int x8), .inl (.int x9), .inl (.int x10), .inl (.int x11), d12]) (st' := [.inr (20, 366, 0, 478), .inr (12, 0, 0, 72)]) (P1 := P10) rfl ⟨trivial, trivial, trivial, trivial⟩ ?_
      refine tr_cRI (z := km_142) (av := [.inr (12, 0, 0, 72), .inr (20, 366, 0, 478)]) (st' := []) rfl rfl rfl (Nat.le_of_ble_eq_true rfl) ⟨rfl, Or.inl (by decide)⟩ rfl (Nat.le_of_ble_eq_true rfl) (t_142_366 478 N P10) (fun v11 => ?_)
      refine tr_blk 3 (pc' := 126) (rows' := kb_87_94.drop 18) (loc' := [.inr (12, 0, 0, 72), .inl (.int x1), .inl (.int x2), .inl (.int x3), .inl (.int x4), .inl (.int x5), .inl (.int x6), .inl (.int x7), .inl (.int x8), .inl (.int x9), .inl (.int x10), .inl (.int x11), .inl (.int v11)]) (st' := [.inl (.int (-1 : Int32)), .inl (.int x8)]) (P1 := P10) rfl ⟨trivial, trivial, trivial, trivial⟩ ?_
      refine tr_if (fun h19 => ?_) (fun h19 => ?_)
      · refine tr_icF (cd := .ne) (fun q => q h19) ?_
        refine tr_blk 1 (pc' := 131) (rows' := kb_87_94.drop 20) (loc' := [.inr (12, 0, 0, 72), .inl (.int x1), .inl (.int x2), .inl (.int x3), .inl (.int x4), .inl (.int x5), .inl (.int x6), .inl (.int x7), .inl (.int x8), .inl (.int x9), .inl (.int x10), .inl (.int x11), .inl (.int v11)]) (st' := [.inl (.int v11)]) (P1 := P10) rfl ⟨trivial, trivial⟩ ?_
        refine tr_goto ?_
        exact t_87_141 N _ ih x1 x2 x3 x4 x5 x6 x7 x9 x10 x11 v11 v11 (x8) P10
      · refine tr_icT (cd := .ne) h19 ?_
        refine tr_nil (rows2 := kb_87_134) rfl (List.cons_ne_nil _ _) ?_
        refine tr_blk 2 (pc' := 138) (rows' := kb_87_134.drop 2) (loc' := [.inr (12, 0, 0, 72), .inl (.int x1), .inl (.int x2), .inl (.int x3), .inl (.int x4), .inl (.int x5), .inl (.int x6), .inl (.int x7), .inl (.int x8), .inl (.int x9), .inl (.int x10), .inl (.int x11), .inl (.int v11)]) (st' := [.inl (.int v11), .inl (.int x8)]) (P1 := P10) rfl ⟨trivial, trivial, trivial⟩ ?_
        refine tr_cRI (z := km_192) (av := [.inl (.int x8), .inl (.int v11)]) (st' := []) rfl rfl rfl (Nat.le_of_ble_eq_true rfl) trivial rfl (Nat.le_of_ble_eq_true rfl) (t_192 P10 x8 v11) (fun v12 => ?_)
        exact t_87_141 N _ ih x1 x2 x3 x4 x5 x6 x7 x9 x10 x11 v11 v12 (x8) P10
    · refine tr_icT (cd := .ge) (Int32.not_lt.mp h16) ?_
      refine tr_nil (rows2 := kb_87_182) rfl (List.cons_ne_nil _ _) ?_
      refine tr_blk 1 (pc' := 184) (rows' := kb_87_182.drop 1) (loc' := [.inr (12, 0, 0, 72), .inl (.int x1), .inl (.int x2), .inl (.int x3), .inl (.int x4), .inl (.int x5), .inl (.int x6), .inl (.int x7), .inl (.int x8), .inl (.int x9), .inl (.int x10), .inl (.int x11), d12]) (st' := [.inl (.int x6)]) (P1 := P) rfl ⟨trivial, trivial⟩ ?_
      refine tr_if (fun h17 => ?_) (fun h17 => ?_)
      · refine tr_ifF (cd := .ne) (fun q => q h17) ?_
        refine tr_blk 1 (pc' := 189) (rows' := kb_87_182.drop 3) (loc' := [.inr (12, 0, 0, 72), .inl (.int x1), .inl (.int x2), .inl (.int x3), .inl (.int x4), .inl (.int x5), .inl (.int x6), .inl (.int x7), .inl (.int x8), .inl (.int x9), .inl (.int x10), .inl (.int x11), d12]) (st' := [.inl (.int x8)]) (P1 := P) rfl ⟨trivial, trivial⟩ ?_
        refine tr_goto ?_
        refine tr_nil (rows2 := kb_87_205) rfl (List.cons_ne_nil _ _) ?_
        exact tr_reI (z := km_87) rfl ⟨_, rfl, rfl⟩ rfl
      · refine tr_ifT (cd := .ne) h17 ?_
        refine tr_nil (rows2 := kb_87_192) rfl (List.cons_ne_nil _ _) ?_
        refine tr_blk 2 (pc' := 195) (rows' := kb_87_192.drop 2) (loc' := [.inr (12, 0, 0, 72), .inl (.int x1), .inl (.int x2), .inl (.int x3), .inl (.int x4), .inl (.int x5), .inl (.int x6), .inl (.int x7), .inl (.int x8), .inl (.int x9), .inl (.int x10), .inl (.int x11), d12]) (st' := [.inl (.int (1 : Int32)), .inl (.int x6)]) (P1 := P) rfl ⟨trivial, trivial, trivial⟩ ?_
        refine tr_if (fun h18 => ?_) (fun h18 => ?_)
        · refine tr_icF (cd := .ne) (fun q => q h18) ?_
          refine tr_blk 1 (pc' := 200) (rows' := kb_87_192.drop 4) (loc' := [.inr (12, 0, 0, 72), .inl (.int x1), .inl (.int x2), .inl (.int x3), .inl (.int x4), .inl (.int x5), .inl (.int x6), .inl (.int x7), .inl (.int x8), .inl (.int x9), .inl (.int x10), .inl (.int x11), d12]) (st' := [.inl (.int x9)]) (P1 := P) rfl ⟨trivial, trivial⟩ ?_
          refine tr_goto ?_
          refine tr_nil (rows2 := kb_87_205) rfl (List.cons_ne_nil _ _) ?_
          exact tr_reI (z := km_87) rfl ⟨_, rfl, rfl⟩ rfl
        · refine tr_icT (cd := .ne) h18 ?_
          refine tr_nil (rows2 := kb_87_203) rfl (List.cons_ne_nil _ _) ?_
          refine tr_blk 1 (pc' := 205) (rows' := kb_87_203.drop 1) (loc' := [.inr (12, 0, 0, 72), .inl (.int x1), .inl (.int x2), .inl (.int x3), .inl (.int x4), .inl (.int x5), .inl (.int x6), .inl (.int x7), .inl (.int x8), .inl (.int x9), .inl (.int x10), .inl (.int x11), d12]) (st' := [.inl (.int x10)]) (P1 := P) rfl ⟨trivial, trivial⟩ ?_
          refine tr_nil (rows2 := kb_87_205) rfl (List.cons_ne_nil _ _) ?_
          exact tr_reI (z := km_87) rfl ⟨_, rfl, rfl⟩ rfl
def f_87_72 (N : Nat) (x1 : Int32) (x2 : Int32) (x3 : Int32) (x4 : Int32) (x5 : Int32) (x6 : Int32) (x7 : Int32) (s0 : Int32) (P : ab_P) : Option (Int32 × ab_P) :=
    ab_b2 (f_113 s0 (1 : Int32) (1 : Int32) P) fun v9 P8 =>
    if v9 = (0 : Int32) then
      f_87_94 N N x1 x2 x3 x4 x5 x6 x7 (-1 : Int32) (0 : Int32) (0 : Int32) (0 : Int32) P8
    else
    some ((0 : Int32), P8)
theorem t_87_72 {xs : Nat × (Nat → Int32)} {d : Nat} (N : Nat) : ∀ (x1 : Int32) (x2 : Int32) (x3 : Int32) (x4 : Int32) (x5 : Int32) (x6 : Int32) (x7 : Int32) (s0 : Int32) (P : ab_P), ab_tr xs wI (d + 4) 87 72 [] [.inr (12, 0, 0, 72), .inl (.int x1), .inl (.int x2), .inl (.int x3), .inl (.int x4), .inl (.int x5), .inl (.int x6), .inl (.int x7), ab_top, ab_top, ab_top, ab_top, ab_top] [.inl (.int s0), .inr (12, 0, 0, 72)] P (f_87_72 N x1 x2 x3 x4 x5 x6 x7 s0 P) := by
  intro x1 x2 x3 x4 x5 x6 x7 s0 P
  unfold f_87_72
  refine tr_nil (rows2 := kb_87_72) rfl (List.cons_ne_nil _ _) ?_
  refine tr_blk 2 (pc' := 74) (rows' := kb_87_72.drop 2) (loc' := [.inr (12, 0, 0, 72), .inl (.int x1), .inl (.int x2), .inl (.int x3), .inl (.int x4), .inl (.int x5), .inl (.int x6), .inl (.int x7), ab_top, ab_top, ab_top, ab_top, ab_top]) (st' := [.inl (.int (1 : Int32)), .inl (.int (1 : Int32)), .inl (.int s0), .inr (12, 0, 0, 72)]) (P1 := P) rfl ⟨trivial, trivial, trivial⟩ ?_
  refine tr_cWI (z := km_113) (av := [.inr (12, 0, 0, 72), .inl (.int s0), .inl (.int (1 : Int32)), .inl (.int (1 : Int32))]) (st' := []) rfl rfl rfl (Nat.le_of_ble_eq_true rfl) ⟨rfl, Or.inl (by decide)⟩ rfl (Nat.le_of_ble_eq_true rfl) (t_113 s0 (1 : Int32) (1 : Int32) P) (fun v9 P8 => ?_)
  refine tr_if (fun h20 => ?_) (fun h20 => ?_)
  · refine tr_ifT (cd := .eq) h20 ?_
    refine tr_nil (rows2 := kb_87_82) rfl (List.cons_ne_nil _ _) ?_
    refine tr_blk 8 (pc' := 94) (rows' := kb_87_82.drop 8) (loc' := [.inr (12, 0, 0, 72), .inl (.int x1), .inl (.int x2), .inl (.int x3), .inl (.int x4), .inl (.int x5), .inl (.int x6), .inl (.int x7), .inl (.int (-1 : Int32)), .inl (.int (0 : Int32)), .inl (.int (0 : Int32)), .inl (.int (0 : Int32)), ab_top]) (st' := []) (P1 := P8) rfl ⟨trivial, trivial, trivial, trivial, trivial, trivial, trivial, trivial, trivial⟩ ?_
    exact t_87_94 N N x1 x2 x3 x4 x5 x6 x7 (-1 : Int32) (0 : Int32) (0 : Int32) (0 : Int32) (ab_top) P8
  · refine tr_ifF (cd := .eq) h20 ?_
    refine tr_blk 1 (pc' := 81) (rows' := kb_87_72.drop 5) (loc' := [.inr (12, 0, 0, 72), .inl (.int x1), .inl (.int x2), .inl (.int x3), .inl (.int x4), .inl (.int x5), .inl (.int x6), .inl (.int x7), ab_top, ab_top, ab_top, ab_top, ab_top]) (st' := [.inl (.int (0 : Int32))]) (P1 := P8) rfl ⟨trivial, trivial⟩ ?_
    exact tr_reI (z := km_87) rfl ⟨_, rfl, rfl⟩ rfl
def f_87 (N : Nat) (a1 : Int32) (a2 : Int32) (a3 : Int32) (a4 : Int32) (a5 : Int32) (a6 : Int32) (a7 : Int32) (P : ab_P) : Option (Int32 × ab_P) :=
    ab_lt (ab_pI P 72 0 (0 : Int32)) fun P1 =>
    Option.bind (f_112 P1 a2 (1 : Int32) (20 : Int32)) fun v2 =>
    if v2 = (0 : Int32) then
      f_87_72 N a1 a2 a3 a4 a5 a6 a7 (1 : Int32) P1
    else
    Option.bind (f_112 P1 a3 (1 : Int32) (30 : Int32)) fun v3 =>
    if v3 = (0 : Int32) then
      f_87_72 N a1 a2 a3 a4 a5 a6 a7 (1 : Int32) P1
    else
    Option.bind (f_112 P1 a4 (0 : Int32) (16 : Int32)) fun v4 =>
    if v4 = (0 : Int32) then
      f_87_72 N a1 a2 a3 a4 a5 a6 a7 (1 : Int32) P1
    else
    Option.bind (f_112 P1 a5 (0 : Int32) (16 : Int32)) fun v5 =>
    if v5 = (0 : Int32) then
      f_87_72 N a1 a2 a3 a4 a5 a6 a7 (1 : Int32) P1
    else
    Option.bind (f_112 P1 a6 (0 : Int32) (2 : Int32)) fun v6 =>
    if v6 = (0 : Int32) then
      f_87_72 N a1 a2 a3 a4 a5 a6 a7 (1 : Int32) P1
    else
    Option.bind (f_137 P1 a7) fun v7 =>
    if v7 = (0 : Int32) then
      f_87_72 N a1 a2 a3 a4 a5 a6 a7 (1 : Int32) P1
    else
    f_87_72 N a1 a2 a3 a4 a5 a6 a7 (0 : Int32) P1
theorem t_87 {xs : Nat × (Nat → Int32)} {d : Nat} (N : Nat) : ∀ (a1 : Int32) (a2 : Int32) (a3 : Int32) (a4 : Int32) (a5 : Int32) (a6 : Int32) (a7 : Int32) (P : ab_P), ab_tr xs wI (d + 4) 87 0 [] [.inr (12, 0, 0, 72), .inl (.int a1), .inl (.int a2), .inl (.int a3), .inl (.int a4), .inl (.int a5), .inl (.int a6), .inl (.int a7), ab_top, ab_top, ab_top, ab_top, ab_top] [] P (f_87 N a1 a2 a3 a4 a5 a6 a7 P) := by
  intro a1 a2 a3 a4 a5 a6 a7 P
  unfold f_87
  refine tr_nil (rows2 := kb_87_0) rfl (List.cons_ne_nil _ _) ?_
  refine tr_blk 3 (pc' := 5) (rows' := kb_87_0.drop 3) (loc' := [.inr (12, 0, 0, 72), .inl (.int a1), .inl (.int a2), .inl (.int a3), .inl (.int a4), .inl (.int a5), .inl (.int a6), .inl (.int a7), ab_top, ab_top, ab_top, ab_top, ab_top]) (st' := []) (P1 := (ab_pI P 72 0 (0 : Int32))) rfl ⟨trivial, trivial, trivial, trivial⟩ ?_
  refine tr_lt (fun P1 => ?_)
  refine tr_blk 4 (pc' := 10) (rows' := kb_87_0.drop 7) (loc' := [.inr (12, 0, 0, 72), .inl (.int a1), .inl (.int a2), .inl (.int a3), .inl (.int a4), .inl (.int a5), .inl (.int a6), .inl (.int a7), ab_top, ab_top, ab_top, ab_top, ab_top]) (st' := [.inl (.int (20 : Int32)), .inl (.int (1 : Int32)), .inl (.int a2), .inr (12, 0, 0, 72)]) (P1 := P1) rfl ⟨trivial, trivial, trivial, trivial, trivial⟩ ?_
  refine tr_cRI (z := km_112) (av := [.inl (.int a2), .inl (.int (1 : Int32)), .inl (.int (20 : Int32))]) (st' := [.inr (12, 0, 0, 72)]) rfl rfl rfl (Nat.le_of_ble_eq_true rfl) trivial rfl (Nat.le_of_ble_eq_true rfl) (t_112 P1 a2 (1 : Int32) (20 : Int32)) (fun v2 => ?_)
  refine tr_if (fun h21 => ?_) (fun h21 => ?_)
  · refine tr_ifT (cd := .eq) h21 ?_
    refine tr_nil (rows2 := kb_87_67) rfl (List.cons_ne_nil _ _) ?_
    refine tr_blk 1 (pc' := 68) (rows' := kb_87_67.drop 1) (loc' := [.inr (12, 0, 0, 72), .inl (.int a1), .inl (.int a2), .inl (.int a3), .inl (.int a4), .inl (.int a5), .inl (.int a6), .inl (.int a7), ab_top, ab_top, ab_top, ab_top, ab_top]) (st' := [.inl (.int (1 : Int32)), .inr (12, 0, 0, 72)]) (P1 := P1) rfl ⟨trivial, trivial⟩ ?_
    refine tr_goto ?_
    exact t_87_72 N a1 a2 a3 a4 a5 a6 a7 (1 : Int32) P1
  · refine tr_ifF (cd := .eq) h21 ?_
    refine tr_blk 3 (pc' := 20) (rows' := kb_87_0.drop 12) (loc' := [.inr (12, 0, 0, 72), .inl (.int a1), .inl (.int a2), .inl (.int a3), .inl (.int a4), .inl (.int a5), .inl (.int a6), .inl (.int a7), ab_top, ab_top, ab_top, ab_top, ab_top]) (st' := [.inl (.int (30 : Int32)), .inl (.int (1 : Int32)), .inl (.int a3), .inr (12, 0, 0, 72)]) (P1 := P1) rfl ⟨trivial, trivial, trivial, trivial⟩ ?_
    refine tr_cRI (z := km_112) (av := [.inl (.int a3), .inl (.int (1 : Int32)), .inl (.int (30 : Int32))]) (st' := [.inr (12, 0, 0, 72)]) rfl rfl rfl (Nat.le_of_ble_eq_true rfl) trivial rfl (Nat.le_of_ble_eq_true rfl) (t_112 P1 a3 (1 : Int32) (30 : Int32)) (fun v3 => ?_)
    refine tr_if (fun h22 => ?_) (fun h22 => ?_)
    · refine tr_ifT (cd := .eq) h22 ?_
      refine tr_nil (rows2 := kb_87_67) rfl (List.cons_ne_nil _ _) ?_
      refine tr_blk 1 (pc' := 68) (rows' := kb_87_67.drop 1) (loc' := [.inr (12, 0, 0, 72), .inl (.int a1), .inl (.int a2), .inl (.int a3), .inl (.int a4), .inl (.int a5), .inl (.int a6), .inl (.int a7), ab_top, ab_top, ab_top, ab_top, ab_top]) (st' := [.inl (.int (1 : Int32)), .inr (12, 0, 0, 72)]) (P1 := P1) rfl ⟨trivial, trivial⟩ ?_
      refine tr_goto ?_
      exact t_87_72 N a1 a2 a3 a4 a5 a6 a7 (1 : Int32) P1
    · refine tr_ifF (cd := .eq) h22 ?_
      refine tr_blk 3 (pc' := 31) (rows' := kb_87_0.drop 17) (loc' := [.inr (12, 0, 0, 72), .inl (.int a1), .inl (.int a2), .inl (.int a3), .inl (.int a4), .inl (.int a5), .inl (.int a6), .inl (.int a7), ab_top, ab_top, ab_top, ab_top, ab_top]) (st' := [.inl (.int (16 : Int32)), .inl (.int (0 : Int32)), .inl (.int a4), .inr (12, 0, 0, 72)]) (P1 := P1) rfl ⟨trivial, trivial, trivial, trivial⟩ ?_
      refine tr_cRI (z := km_112) (av := [.inl (.int a4), .inl (.int (0 : Int32)), .inl (.int (16 : Int32))]) (st' := [.inr (12, 0, 0, 72)]) rfl rfl rfl (Nat.le_of_ble_eq_true rfl) trivial rfl (Nat.le_of_ble_eq_true rfl) (t_112 P1 a4 (0 : Int32) (16 : Int32)) (fun v4 => ?_)
      refine tr_if (fun h23 => ?_) (fun h23 => ?_)
      · refine tr_ifT (cd := .eq) h23 ?_
        refine tr_nil (rows2 := kb_87_67) rfl (List.cons_ne_nil _ _) ?_
        refine tr_blk 1 (pc' := 68) (rows' := kb_87_67.drop 1) (loc' := [.inr (12, 0, 0, 72), .inl (.int a1), .inl (.int a2), .inl (.int a3), .inl (.int a4), .inl (.int a5), .inl (.int a6), .inl (.int a7), ab_top, ab_top, ab_top, ab_top, ab_top]) (st' := [.inl (.int (1 : Int32)), .inr (12, 0, 0, 72)]) (P1 := P1) rfl ⟨trivial, trivial⟩ ?_
        refine tr_goto ?_
        exact t_87_72 N a1 a2 a3 a4 a5 a6 a7 (1 : Int32) P1
      · refine tr_ifF (cd := .eq) h23 ?_
        refine tr_blk 3 (pc' := 42) (rows' := kb_87_0.drop 22) (loc' := [.inr (12, 0, 0, 72), .inl (.int a1), .inl (.int a2), .inl (.int a3), .inl (.int a4), .inl (.int a5), .inl (.int a6), .inl (.int a7), ab_top, ab_top, ab_top, ab_top, ab_top]) (st' := [.inl (.int (16 : Int32)), .inl (.int (0 : Int32)), .inl (.int a5), .inr (12, 0, 0, 72)]) (P1 := P1) rfl ⟨trivial, trivial, trivial, trivial⟩ ?_
        refine tr_cRI (z := km_112) (av := [.inl (.int a5), .inl (.int (0 : Int32)), .inl (.int (16 : Int32))]) (st' := [.inr (12, 0, 0, 72)]) rfl rfl rfl (Nat.le_of_ble_eq_true rfl) trivial rfl (Nat.le_of_ble_eq_true rfl) (t_112 P1 a5 (0 : Int32) (16 : Int32)) (fun v5 => ?_)
        refine tr_if (fun h24 => ?_) (fun h24 => ?_)
        · refine tr_ifT (cd := .eq) h24 ?_
          refine tr_nil (rows2 := kb_87_67) rfl (List.cons_ne_nil _ _) ?_
          refine tr_blk 1 (pc' := 68) (rows' := kb_87_67.drop 1) (loc' := [.inr (12, 0, 0, 72), .inl (.int a1), .inl (.int a2), .inl (.int a3), .inl (.int a4), .inl (.int a5), .inl (.int a6), .inl (.int a7), ab_top, ab_top, ab_top, ab_top, ab_top]) (st' := [.inl (.int (1 : Int32)), .inr (12, 0, 0, 72)]) (P1 := P1) rfl ⟨trivial, trivial⟩ ?_
          refine tr_goto ?_
          exact t_87_72 N a1 a2 a3 a4 a5 a6 a7 (1 : Int32) P1
        · refine tr_ifF (cd := .eq) h24 ?_
          refine tr_blk 3 (pc' := 52) (rows' := kb_87_0.drop 27) (loc' := [.inr (12, 0, 0, 72), .inl (.int a1), .inl (.int a2), .inl (.int a3), .inl (.int a4), .inl (.int a5), .inl (.int a6), .inl (.int a7), ab_top, ab_top, ab_top, ab_top, ab_top]) (st' := [.inl (.int (2 : Int32)), .inl (.int (0 : Int32)), .inl (.int a6), .inr (12, 0, 0, 72)]) (P1 := P1) rfl ⟨trivial, trivial, trivial, trivial⟩ ?_
          refine tr_cRI (z := km_112) (av := [.inl (.int a6), .inl (.int (0 : Int32)), .inl (.int (2 : Int32))]) (st' := [.inr (12, 0, 0, 72)]) rfl rfl rfl (Nat.le_of_ble_eq_true rfl) trivial rfl (Nat.le_of_ble_eq_true rfl) (t_112 P1 a6 (0 : Int32) (2 : Int32)) (fun v6 => ?_)
          refine tr_if (fun h25 => ?_) (fun h25 => ?_)
          · refine tr_ifT (cd := .eq) h25 ?_
            refine tr_nil (rows2 := kb_87_67) rfl (List.cons_ne_nil _ _) ?_
            refine tr_blk 1 (pc' := 68) (rows' := kb_87_67.drop 1) (loc' := [.inr (12, 0, 0, 72), .inl (.int a1), .inl (.int a2), .inl (.int a3), .inl (.int a4), .inl (.int a5), .inl (.int a6), .inl (.int a7), ab_top, ab_top, ab_top, ab_top, ab_top]) (st' := [.inl (.int (1 : Int32)), .inr (12, 0, 0, 72)]) (P1 := P1) rfl ⟨trivial, trivial⟩ ?_
            refine tr_goto ?_
            exact t_87_72 N a1 a2 a3 a4 a5 a6 a7 (1 : Int32) P1
          · refine tr_ifF (cd := .eq) h25 ?_
            refine tr_blk 2 (pc' := 61) (rows' := kb_87_0.drop 31) (loc' := [.inr (12, 0, 0, 72), .inl (.int a1), .inl (.int a2), .inl (.int a3), .inl (.int a4), .inl (.int a5), .inl (.int a6), .inl (.int a7), ab_top, ab_top, ab_top, ab_top, ab_top]) (st' := [.inl (.int a7), .inr (12, 0, 0, 72), .inr (12, 0, 0, 72)]) (P1 := P1) rfl ⟨trivial, trivial, trivial⟩ ?_
            refine tr_cRI (z := km_137) (av := [.inr (12, 0, 0, 72), .inl (.int a7)]) (st' := [.inr (12, 0, 0, 72)]) rfl rfl rfl (Nat.le_of_ble_eq_true rfl) ⟨rfl, Or.inl (by decide)⟩ rfl (Nat.le_of_ble_eq_true rfl) (t_137 P1 a7) (fun v7 => ?_)
            refine tr_if (fun h26 => ?_) (fun h26 => ?_)
            · refine tr_ifF (cd := .ne) (fun q => q h26) ?_
              refine tr_nil (rows2 := kb_87_67) rfl (List.cons_ne_nil _ _) ?_
              refine tr_blk 1 (pc' := 68) (rows' := kb_87_67.drop 1) (loc' := [.inr (12, 0, 0, 72), .inl (.int a1), .inl (.int a2), .inl (.int a3), .inl (.int a4), .inl (.int a5), .inl (.int a6), .inl (.int a7), ab_top, ab_top, ab_top, ab_top, ab_top]) (st' := [.inl (.int (1 : Int32)), .inr (12, 0, 0, 72)]) (P1 := P1) rfl ⟨trivial, trivial⟩ ?_
              refine tr_goto ?_
              exact t_87_72 N a1 a2 a3 a4 a5 a6 a7 (1 : Int32) P1
            · refine tr_ifT (cd := .ne) h26 ?_
              refine tr_nil (rows2 := kb_87_71) rfl (List.cons_ne_nil _ _) ?_
              refine tr_blk 1 (pc' := 72) (rows' := kb_87_71.drop 1) (loc' := [.inr (12, 0, 0, 72), .inl (.int a1), .inl (.int a2), .inl (.int a3), .inl (.int a4), .inl (.int a5), .inl (.int a6), .inl (.int a7), ab_top, ab_top, ab_top, ab_top, ab_top]) (st' := [.inl (.int (0 : Int32)), .inr (12, 0, 0, 72)]) (P1 := P1) rfl ⟨trivial, trivial⟩ ?_
              exact t_87_72 N a1 a2 a3 a4 a5 a6 a7 (0 : Int32) P1
def f_280_7688 (i1 : Nat) (a2 : Int32) (a3 : Int32) (P : ab_P) : Option (Int32 × ab_P) :=
    if a3 = (0 : Int32) then
      if ab_gi (P.1 72 33) 7688 then
      ab_lt (ab_pI P i1 ((P.1 72 33)).toNatClampNeg a2) fun P4 =>
      ab_lt (ab_pI P4 72 33 ((P4.1 72 33) + (1 : Int32))) fun P5 =>
      if ab_gi ((P5.1 72 33) - (1 : Int32)) 7688 then
      some ((P5.1 i1 (((P5.1 72 33) - (1 : Int32))).toNatClampNeg), P5)
      else none
      else none
    else
    ab_lt (ab_pI P 72 33 ((P.1 72 33) + (1 : Int32))) fun P1 =>
    if ab_gi ((P1.1 72 33) - (1 : Int32)) 7688 then
    some ((P1.1 i1 (((P1.1 72 33) - (1 : Int32))).toNatClampNeg), P1)
    else none
theorem t_280_7688 {xs : Nat × (Nat → Int32)} {d : Nat} (i1 : Nat) : ∀ (a2 : Int32) (a3 : Int32) (P : ab_P), ab_tr xs wI (d + 0) 280 0 [] [.inr (12, 0, 0, 72), .inr (20, 7688, 0, i1), .inl (.int a2), .inl (.int a3)] [] P (f_280_7688 i1 a2 a3 P) := by
  intro a2 a3 P
  unfold f_280_7688
  refine tr_nil (rows2 := kb_280_0) rfl (List.cons_ne_nil _ _) ?_
  refine tr_blk 1 (pc' := 1) (rows' := kb_280_0.drop 1) (loc' := [.inr (12, 0, 0, 72), .inr (20, 7688, 0, i1), .inl (.int a2), .inl (.int a3)]) (st' := [.inl (.int a3)]) (P1 := P) rfl ⟨trivial, trivial⟩ ?_
  refine tr_if (fun h7 => ?_) (fun h7 => ?_)
  · refine tr_ifF (cd := .ne) (fun q => q h7) ?_
    refine tr_gd (fun h3 => ?_)
    refine tr_blk 5 (pc' := 11) (rows' := kb_280_0.drop 7) (loc' := [.inr (12, 0, 0, 72), .inr (20, 7688, 0, i1), .inl (.int a2), .inl (.int a3)]) (st' := []) (P1 := (ab_pI P i1 ((P.1 72 33)).toNatClampNeg a2)) rfl ⟨trivial, trivial, trivial, trivial, h3, trivial⟩ ?_
    refine tr_lt (fun P4 => ?_)
    refine tr_nil (rows2 := kb_280_11) rfl (List.cons_ne_nil _ _) ?_
    refine tr_blk 6 (pc' := 21) (rows' := kb_280_11.drop 6) (loc' := [.inr (12, 0, 0, 72), .inr (20, 7688, 0, i1), .inl (.int a2), .inl (.int a3)]) (st' := []) (P1 := (ab_pI P4 72 33 ((P4.1 72 33) + (1 : Int32)))) rfl ⟨trivial, trivial, trivial, trivial, trivial, trivial, trivial⟩ ?_
    refine tr_lt (fun P5 => ?_)
    refine tr_gd (fun h6 => ?_)
    refine tr_blk 6 (pc' := 29) (rows' := kb_280_11.drop 12) (loc' := [.inr (12, 0, 0, 72), .inr (20, 7688, 0, i1), .inl (.int a2), .inl (.int a3)]) (st' := [.inl (.int (P5.1 i1 (((P5.1 72 33) - (1 : Int32))).toNatClampNeg))]) (P1 := P5) rfl ⟨trivial, trivial, trivial, trivial, trivial, h6, trivial⟩ ?_
    exact tr_reI (z := km_280) rfl ⟨_, rfl, rfl⟩ rfl
  · refine tr_ifT (cd := .ne) h7 ?_
    refine tr_nil (rows2 := kb_280_11) rfl (List.cons_ne_nil _ _) ?_
    refine tr_blk 6 (pc' := 21) (rows' := kb_280_11.drop 6) (loc' := [.inr (12, 0, 0, 72), .inr (20, 7688, 0, i1), .inl (.int a2), .inl (.int a3)]) (st' := []) (P1 := (ab_pI P 72 33 ((P.1 72 33) + (1 : Int32)))) rfl ⟨trivial, trivial, trivial, trivial, trivial, trivial, trivial⟩ ?_
    refine tr_lt (fun P1 => ?_)
    refine tr_gd (fun h2 => ?_)
    refine tr_blk 6 (pc' := 29) (rows' := kb_280_11.drop 12) (loc' := [.inr (12, 0, 0, 72), .inr (20, 7688, 0, i1), .inl (.int a2), .inl (.int a3)]) (st' := [.inl (.int (P1.1 i1 (((P1.1 72 33) - (1 : Int32))).toNatClampNeg))]) (P1 := P1) rfl ⟨trivial, trivial, trivial, trivial, trivial, h2, trivial⟩ ?_
    exact tr_reI (z := km_280) rfl ⟨_, rfl, rfl⟩ rfl
def f_195_7688_81 (i1 : Nat) (H72 : Int32 → Int32 → ab_P → Option ab_P) : Nat → Int32 → Int32 → Int32 → ab_P → Option ab_P
  | 0, _, _, _, _ => none
  | n + 1, x2, x3, x4, P =>
    if x4 < (366 : Int32) then
      if ab_gi x3 20 then
      if ab_gi x3 20 then
      if ab_gi x4 366 then
      ab_b2 (f_280_7688 i1 (P.1 (479 + 1 + x3.toNatClampNeg) x4.toNatClampNeg) x2 P) fun v17 P16 =>
      if ab_gi x4 366 then
      ab_lt (ab_pI P16 (479 + 1 + x3.toNatClampNeg) x4.toNatClampNeg v17) fun P19 =>
      f_195_7688_81 i1 H72 n x2 x3 (x4 + 1) P19
      else none
      else none
      else none
      else none
    else
    H72 x2 (x3 + 1) P
theorem t_195_7688_81 {xs : Nat × (Nat → Int32)} {d : Nat} (i1 : Nat) (H72 : Int32 → Int32 → ab_P → Option ab_P) (hH72 : ∀ (x2 : Int32) (x3 : Int32) (d4 : ab_V) (P : ab_P), ab_tr xs wV (d + 1) 195 72 [] [.inr (12, 0, 0, 72), .inr (20, 7688, 0, i1), .inl (.int x2), .inl (.int x3), d4] [] P (H72 x2 x3 P)) : ∀ n : Nat, ∀ (x2 : Int32) (x3 : Int32) (x4 : Int32) (P : ab_P), ab_tr xs wV (d + 1) 195 81 [] [.inr (12, 0, 0, 72), .inr (20, 7688, 0, i1), .inl (.int x2), .inl (.int x3), .inl (.int x4)] [] P (f_195_7688_81 i1 H72 n x2 x3 x4 P) := by
  intro n
  induction n with
  | zero => intro x2 x3 x4 P; exact tr_no
  | succ n ih =>
    intro x2 x3 x4 P
    refine tr_nil (rows2 := kb_195_81) rfl (List.cons_ne_nil _ _) ?_
    refine tr_blk 2 (pc' := 86) (rows' := kb_195_81.drop 2) (loc' := [.inr (12, 0, 0, 72), .inr (20, 7688, 0, i1), .inl (.int x2), .inl (.int x3), .inl (.int x4)]) (st' := [.inl (.int (366 : Int32)), .inl (.int x4)]) (P1 := P) rfl ⟨trivial, trivial, trivial⟩ ?_
    refine tr_if (fun h20 => ?_) (fun h20 => ?_)
    · refine tr_icF (cd := .ge) (Int32.not_le.mpr h20) ?_
      refine tr_gd (fun h13 => ?_)
      refine tr_gd (fun h14 => ?_)
      refine tr_gd (fun h15 => ?_)
      refine tr_blk 14 (pc' := 109) (rows' := kb_195_81.drop 17) (loc' := [.inr (12, 0, 0, 72), .inr (20, 7688, 0, i1), .inl (.int x2), .inl (.int x3), .inl (.int x4)]) (st' := [.inl (.int x2), .inl (.int (P.1 (479 + 1 + x3.toNatClampNeg) x4.toNatClampNeg)), .inr (20, 7688, 0, i1), .inr (12, 0, 0, 72), .inl (.int x4), .inr (20, 366, 0, (479 + 1 + x3.toNatClampNeg))]) (P1 := P) rfl ⟨trivial, trivial, trivial, ⟨h13, ab_grl h13⟩, trivial, trivial, trivial, trivial, trivial, trivial, ⟨h14, ab_grl h14⟩, trivial, h15, trivial, trivial⟩ ?_
      refine tr_cWI (z := km_280) (av := [.inr (12, 0, 0, 72), .inr (20, 7688, 0, i1), .inl (.int (P.1 (479 + 1 + x3.toNatClampNeg) x4.toNatClampNeg)), .inl (.int x2)]) (st' := [.inl (.int x4), .inr (20, 366, 0, (479 + 1 + x3.toNatClampNeg))]) rfl rfl rfl (Nat.le_of_ble_eq_true rfl) ⟨rfl, Or.inl (by decide)⟩ rfl (Nat.le_of_ble_eq_true rfl) (t_280_7688 i1 (P.1 (479 + 1 + x3.toNatClampNeg) x4.toNatClampNeg) x2 P) (fun v17 P16 => ?_)
      refine tr_gd (fun h18 => ?_)
      refine tr_blk 1 (pc' := 113) (rows' := kb_195_81.drop 19) (loc' := [.inr (12, 0, 0, 72), .inr (20, 7688, 0, i1), .inl (.int x2), .inl (.int x3), .inl (.int x4)]) (st' := []) (P1 := (ab_pI P16 (479 + 1 + x3.toNatClampNeg) x4.toNatClampNeg v17)) rfl ⟨h18, trivial⟩ ?_
      refine tr_lt (fun P19 => ?_)
      refine tr_blk 1 (pc' := 116) (rows' := kb_195_81.drop 20) (loc' := [.inr (12, 0, 0, 72), .inr (20, 7688, 0, i1), .inl (.int x2), .inl (.int x3), .inl (.int (x4 + 1))]) (st' := []) (P1 := P19) rfl ⟨trivial, trivial⟩ ?_
      refine tr_goto ?_
      exact ih x2 x3 (x4 + 1) P19
    · refine tr_icT (cd := .ge) (Int32.not_lt.mp h20) ?_
      refine tr_nil (rows2 := kb_195_119) rfl (List.cons_ne_nil _ _) ?_
      refine tr_blk 1 (pc' := 122) (rows' := kb_195_119.drop 1) (loc' := [.inr (12, 0, 0, 72), .inr (20, 7688, 0, i1), .inl (.int x2), .inl (.int (x3 + 1)), .inl (.int x4)]) (st' := []) (P1 := P) rfl ⟨trivial, trivial⟩ ?_
      refine tr_goto ?_
      exact hH72 x2 (x3 + 1) (.inl (.int x4)) P
def f_195_7688_72 (i1 : Nat) (N : Nat) : Nat → Int32 → Int32 → ab_P → Option ab_P
  | 0, _, _, _ => none
  | n + 1, x2, x3, P =>
    if x3 < (20 : Int32) then
      f_195_7688_81 i1 (fun y0 y1 y2 => f_195_7688_72 i1 N n y0 y1 y2) N x2 x3 (0 : Int32) P
    else
    some P
theorem t_195_7688_72 {xs : Nat × (Nat → Int32)} {d : Nat} (i1 : Nat) (N : Nat) : ∀ n : Nat, ∀ (x2 : Int32) (x3 : Int32) (d4 : ab_V) (P : ab_P), ab_tr xs wV (d + 1) 195 72 [] [.inr (12, 0, 0, 72), .inr (20, 7688, 0, i1), .inl (.int x2), .inl (.int x3), d4] [] P (f_195_7688_72 i1 N n x2 x3 P) := by
  intro n
  induction n with
  | zero => intro x2 x3 d4 P; exact tr_no
  | succ n ih =>
    intro x2 x3 d4 P
    refine tr_nil (rows2 := kb_195_72) rfl (List.cons_ne_nil _ _) ?_
    refine tr_blk 2 (pc' := 75) (rows' := kb_195_72.drop 2) (loc' := [.inr (12, 0, 0, 72), .inr (20, 7688, 0, i1), .inl (.int x2), .inl (.int x3), d4]) (st' := [.inl (.int (20 : Int32)), .inl (.int x3)]) (P1 := P) rfl ⟨trivial, trivial, trivial⟩ ?_
    refine tr_if (fun h21 => ?_) (fun h21 => ?_)
    · refine tr_icF (cd := .ge) (Int32.not_le.mpr h21) ?_
      refine tr_blk 2 (pc' := 81) (rows' := kb_195_72.drop 5) (loc' := [.inr (12, 0, 0, 72), .inr (20, 7688, 0, i1), .inl (.int x2), .inl (.int x3), .inl (.int (0 : Int32))]) (st' := []) (P1 := P) rfl ⟨trivial, trivial, trivial⟩ ?_
      exact t_195_7688_81 i1 _ ih N x2 x3 (0 : Int32) P
    · refine tr_icT (cd := .ge) (Int32.not_lt.mp h21) ?_
      refine tr_nil (rows2 := kb_195_125) rfl (List.cons_ne_nil _ _) ?_
      exact tr_reV (z := km_195) rfl rfl rfl
def f_195_7688_39 (i1 : Nat) (N : Nat) : Nat → Int32 → Int32 → ab_P → Option ab_P
  | 0, _, _, _ => none
  | n + 1, x2, x3, P =>
    if x3 < (366 : Int32) then
      if ab_gi x3 366 then
      ab_b2 (f_280_7688 i1 (P.1 477 x3.toNatClampNeg) x2 P) fun v10 P9 =>
      if ab_gi x3 366 then
      ab_lt (ab_pI P9 477 x3.toNatClampNeg v10) fun P12 =>
      f_195_7688_39 i1 N n x2 (x3 + 1) P12
      else none
      else none
    else
    f_195_7688_72 i1 N N x2 (0 : Int32) P
theorem t_195_7688_39 {xs : Nat × (Nat → Int32)} {d : Nat} (i1 : Nat) (N : Nat) : ∀ n : Nat, ∀ (x2 : Int32) (x3 : Int32) (P : ab_P), ab_tr xs wV (d + 1) 195 39 [] [.inr (12, 0, 0, 72), .inr (20, 7688, 0, i1), .inl (.int x2), .inl (.int x3), ab_top] [] P (f_195_7688_39 i1 N n x2 x3 P) := by
  intro n
  induction n with
  | zero => intro x2 x3 P; exact tr_no
  | succ n ih =>
    intro x2 x3 P
    refine tr_nil (rows2 := kb_195_39) rfl (List.cons_ne_nil _ _) ?_
    refine tr_blk 2 (pc' := 43) (rows' := kb_195_39.drop 2) (loc' := [.inr (12, 0, 0, 72), .inr (20, 7688, 0, i1), .inl (.int x2), .inl (.int x3), ab_top]) (st' := [.inl (.int (366 : Int32)), .inl (.int x3)]) (P1 := P) rfl ⟨trivial, trivial, trivial⟩ ?_
    refine tr_if (fun h22 => ?_) (fun h22 => ?_)
    · refine tr_icF (cd := .ge) (Int32.not_le.mpr h22) ?_
      refine tr_gd (fun h8 => ?_)
      refine tr_blk 10 (pc' := 60) (rows' := kb_195_39.drop 13) (loc' := [.inr (12, 0, 0, 72), .inr (20, 7688, 0, i1), .inl (.int x2), .inl (.int x3), ab_top]) (st' := [.inl (.int x2), .inl (.int (P.1 477 x3.toNatClampNeg)), .inr (20, 7688, 0, i1), .inr (12, 0, 0, 72), .inl (.int x3), .inr (20, 366, 0, 477)]) (P1 := P) rfl ⟨trivial, trivial, trivial, trivial, trivial, trivial, trivial, trivial, h8, trivial, trivial⟩ ?_
      refine tr_cWI (z := km_280) (av := [.inr (12, 0, 0, 72), .inr (20, 7688, 0, i1), .inl (.int (P.1 477 x3.toNatClampNeg)), .inl (.int x2)]) (st' := [.inl (.int x3), .inr (20, 366, 0, 477)]) rfl rfl rfl (Nat.le_of_ble_eq_true rfl) ⟨rfl, Or.inl (by decide)⟩ rfl (Nat.le_of_ble_eq_true rfl) (t_280_7688 i1 (P.1 477 x3.toNatClampNeg) x2 P) (fun v10 P9 => ?_)
      refine tr_gd (fun h11 => ?_)
      refine tr_blk 1 (pc' := 64) (rows' := kb_195_39.drop 15) (loc' := [.inr (12, 0, 0, 72), .inr (20, 7688, 0, i1), .inl (.int x2), .inl (.int x3), ab_top]) (st' := []) (P1 := (ab_pI P9 477 x3.toNatClampNeg v10)) rfl ⟨h11, trivial⟩ ?_
      refine tr_lt (fun P12 => ?_)
      refine tr_blk 1 (pc' := 67) (rows' := kb_195_39.drop 16) (loc' := [.inr (12, 0, 0, 72), .inr (20, 7688, 0, i1), .inl (.int x2), .inl (.int (x3 + 1)), ab_top]) (st' := []) (P1 := P12) rfl ⟨trivial, trivial⟩ ?_
      refine tr_goto ?_
      exact ih x2 (x3 + 1) P12
    · refine tr_icT (cd := .ge) (Int32.not_lt.mp h22) ?_
      refine tr_nil (rows2 := kb_195_70) rfl (List.cons_ne_nil _ _) ?_
      refine tr_blk 2 (pc' := 72) (rows' := kb_195_70.drop 2) (loc' := [.inr (12, 0, 0, 72), .inr (20, 7688, 0, i1), .inl (.int x2), .inl (.int (0 : Int32)), ab_top]) (st' := []) (P1 := P) rfl ⟨trivial, trivial, trivial⟩ ?_
      exact t_195_7688_72 i1 N N x2 (0 : Int32) (ab_top) P
def f_195_7688 (i1 : Nat) (N : Nat) (a2 : Int32) (P : ab_P) : Option ab_P :=
    ab_lt (ab_pI P 72 33 (0 : Int32)) fun P1 =>
    ab_b2 (f_280_7688 i1 (P1.1 76 3) a2 P1) fun v3 P2 =>
    ab_lt (ab_pI P2 76 3 v3) fun P4 =>
    ab_b2 (f_280_7688 i1 (P4.1 72 30) a2 P4) fun v6 P5 =>
    ab_lt (ab_pI P5 72 30 v6) fun P7 =>
    f_195_7688_39 i1 N N a2 (0 : Int32) P7
theorem t_195_7688 {xs : Nat × (Nat → Int32)} {d : Nat} (i1 : Nat) (N : Nat) : ∀ (a2 : Int32) (P : ab_P), ab_tr xs wV (d + 1) 195 0 [] [.inr (12, 0, 0, 72), .inr (20, 7688, 0, i1), .inl (.int a2), ab_top, ab_top] [] P (f_195_7688 i1 N a2 P) := by
  intro a2 P
  unfold f_195_7688
  refine tr_nil (rows2 := kb_195_0) rfl (List.cons_ne_nil _ _) ?_
  refine tr_blk 3 (pc' := 5) (rows' := kb_195_0.drop 3) (loc' := [.inr (12, 0, 0, 72), .inr (20, 7688, 0, i1), .inl (.int a2), ab_top, ab_top]) (st' := []) (P1 := (ab_pI P 72 33 (0 : Int32))) rfl ⟨trivial, trivial, trivial, trivial⟩ ?_
  refine tr_lt (fun P1 => ?_)
  refine tr_blk 10 (pc' := 19) (rows' := kb_195_0.drop 13) (loc' := [.inr (12, 0, 0, 72), .inr (20, 7688, 0, i1), .inl (.int a2), ab_top, ab_top]) (st' := [.inl (.int a2), .inl (.int (P1.1 76 3)), .inr (20, 7688, 0, i1), .inr (12, 0, 0, 72), .inl (.int (3 : Int32)), .inr (20, 4, 0, 76)]) (P1 := P1) rfl ⟨trivial, trivial, trivial, trivial, trivial, trivial, trivial, trivial, (ab_vi (by decide)), trivial, trivial⟩ ?_
  refine tr_cWI (z := km_280) (av := [.inr (12, 0, 0, 72), .inr (20, 7688, 0, i1), .inl (.int (P1.1 76 3)), .inl (.int a2)]) (st' := [.inl (.int (3 : Int32)), .inr (20, 4, 0, 76)]) rfl rfl rfl (Nat.le_of_ble_eq_true rfl) ⟨rfl, Or.inl (by decide)⟩ rfl (Nat.le_of_ble_eq_true rfl) (t_280_7688 i1 (P1.1 76 3) a2 P1) (fun v3 P2 => ?_)
  refine tr_blk 1 (pc' := 23) (rows' := kb_195_0.drop 15) (loc' := [.inr (12, 0, 0, 72), .inr (20, 7688, 0, i1), .inl (.int a2), ab_top, ab_top]) (st' := []) (P1 := (ab_pI P2 76 3 v3)) rfl ⟨(ab_vi (by decide)), trivial⟩ ?_
  refine tr_lt (fun P4 => ?_)
  refine tr_blk 6 (pc' := 31) (rows' := kb_195_0.drop 21) (loc' := [.inr (12, 0, 0, 72), .inr (20, 7688, 0, i1), .inl (.int a2), ab_top, ab_top]) (st' := [.inl (.int a2), .inl (.int (P4.1 72 30)), .inr (20, 7688, 0, i1), .inr (12, 0, 0, 72), .inr (12, 0, 0, 72)]) (P1 := P4) rfl ⟨trivial, trivial, trivial, trivial, trivial, trivial, trivial⟩ ?_
  refine tr_cWI (z := km_280) (av := [.inr (12, 0, 0, 72), .inr (20, 7688, 0, i1), .inl (.int (P4.1 72 30)), .inl (.int a2)]) (st' := [.inr (12, 0, 0, 72)]) rfl rfl rfl (Nat.le_of_ble_eq_true rfl) ⟨rfl, Or.inl (by decide)⟩ rfl (Nat.le_of_ble_eq_true rfl) (t_280_7688 i1 (P4.1 72 30) a2 P4) (fun v6 P5 => ?_)
  refine tr_blk 1 (pc' := 37) (rows' := kb_195_0.drop 23) (loc' := [.inr (12, 0, 0, 72), .inr (20, 7688, 0, i1), .inl (.int a2), ab_top, ab_top]) (st' := []) (P1 := (ab_pI P5 72 30 v6)) rfl ⟨trivial, trivial⟩ ?_
  refine tr_lt (fun P7 => ?_)
  refine tr_blk 2 (pc' := 39) (rows' := kb_195_0.drop 25) (loc' := [.inr (12, 0, 0, 72), .inr (20, 7688, 0, i1), .inl (.int a2), .inl (.int (0 : Int32)), ab_top]) (st' := []) (P1 := P7) rfl ⟨trivial, trivial, trivial⟩ ?_
  exact t_195_7688_39 i1 N N a2 (0 : Int32) P7
def f_89 (N : Nat) (P : ab_P) : Option (Int32 × ab_P) :=
    ab_lt (ab_pI P 72 0 (0 : Int32)) fun P1 =>
    if (P1.1 72 32) = (3 : Int32) then
      some ((-1 : Int32), P1)
    else
    if ab_gi (P1.1 72 32) 3 then
    Option.bind (f_195_7688 (500 + 1 + ((P1.1 72 32)).toNatClampNeg) N (0 : Int32) P1) fun P3 =>
    ab_lt (ab_pI P3 72 32 ((P3.1 72 32) + (1 : Int32))) fun P4 =>
    some ((P4.1 72 32), P4)
    else none
theorem t_89 {xs : Nat × (Nat → Int32)} {d : Nat} (N : Nat) : ∀ (P : ab_P), ab_tr xs wI (d + 2) 89 0 [] [.inr (12, 0, 0, 72)] [] P (f_89 N P) := by
  intro P
  unfold f_89
  refine tr_nil (rows2 := kb_89_0) rfl (List.cons_ne_nil _ _) ?_
  refine tr_blk 3 (pc' := 5) (rows' := kb_89_0.drop 3) (loc' := [.inr (12, 0, 0, 72)]) (st' := []) (P1 := (ab_pI P 72 0 (0 : Int32))) rfl ⟨trivial, trivial, trivial, trivial⟩ ?_
  refine tr_lt (fun P1 => ?_)
  refine tr_blk 3 (pc' := 10) (rows' := kb_89_0.drop 6) (loc' := [.inr (12, 0, 0, 72)]) (st' := [.inl (.int (3 : Int32)), .inl (.int (P1.1 72 32))]) (P1 := P1) rfl ⟨trivial, trivial, trivial, trivial⟩ ?_
  refine tr_if (fun h5 => ?_) (fun h5 => ?_)
  · refine tr_icF (cd := .ne) (fun q => q h5) ?_
    refine tr_blk 1 (pc' := 14) (rows' := kb_89_0.drop 8) (loc' := [.inr (12, 0, 0, 72)]) (st' := [.inl (.int (-1 : Int32))]) (P1 := P1) rfl ⟨trivial, trivial⟩ ?_
    exact tr_reI (z := km_89) rfl ⟨_, rfl, rfl⟩ rfl
  · refine tr_icT (cd := .ne) h5 ?_
    refine tr_nil (rows2 := kb_89_15) rfl (List.cons_ne_nil _ _) ?_
    refine tr_gd (fun h2 => ?_)
    refine tr_blk 7 (pc' := 26) (rows' := kb_89_15.drop 7) (loc' := [.inr (12, 0, 0, 72)]) (st' := [.inl (.int (0 : Int32)), .inr (20, 7688, 0, (500 + 1 + ((P1.1 72 32)).toNatClampNeg)), .inr (12, 0, 0, 72)]) (P1 := P1) rfl ⟨trivial, trivial, trivial, trivial, trivial, ⟨h2, ab_grl h2⟩, trivial, trivial⟩ ?_
    refine tr_cWV (z := km_195) (av := [.inr (12, 0, 0, 72), .inr (20, 7688, 0, (500 + 1 + ((P1.1 72 32)).toNatClampNeg)), .inl (.int (0 : Int32))]) (st' := []) rfl rfl rfl (Nat.le_of_ble_eq_true rfl) ⟨rfl, Or.inl (by decide)⟩ rfl (Nat.le_of_ble_eq_true rfl) (t_195_7688 (500 + 1 + ((P1.1 72 32)).toNatClampNeg) N (0 : Int32) P1) (fun P3 => ?_)
    refine tr_blk 6 (pc' := 39) (rows' := kb_89_15.drop 14) (loc' := [.inr (12, 0, 0, 72)]) (st' := []) (P1 := (ab_pI P3 72 32 ((P3.1 72 32) + (1 : Int32)))) rfl ⟨trivial, trivial, trivial, trivial, trivial, trivial, trivial⟩ ?_
    refine tr_lt (fun P4 => ?_)
    refine tr_blk 2 (pc' := 43) (rows' := kb_89_15.drop 16) (loc' := [.inr (12, 0, 0, 72)]) (st' := [.inl (.int (P4.1 72 32))]) (P1 := P4) rfl ⟨trivial, trivial, trivial⟩ ?_
    exact tr_reI (z := km_89) rfl ⟨_, rfl, rfl⟩ rfl
def f_91 (N : Nat) (P : ab_P) : Option (Int32 × ab_P) :=
    ab_lt (ab_pI P 72 0 (0 : Int32)) fun P1 =>
    if (P1.1 72 32) = (0 : Int32) then
      some ((-1 : Int32), P1)
    else
    ab_lt (ab_pI P1 72 32 ((P1.1 72 32) - (1 : Int32))) fun P2 =>
    if ab_gi (P2.1 72 32) 3 then
    Option.bind (f_195_7688 (500 + 1 + ((P2.1 72 32)).toNatClampNeg) N (1 : Int32) P2) fun P4 =>
    ab_lt (ab_pI P4 72 31 (0 : Int32)) fun P5 =>
    some ((P5.1 72 32), P5)
    else none
theorem t_91 {xs : Nat × (Nat → Int32)} {d : Nat} (N : Nat) : ∀ (P : ab_P), ab_tr xs wI (d + 2) 91 0 [] [.inr (12, 0, 0, 72)] [] P (f_91 N P) := by
  intro P
  unfold f_91
  refine tr_nil (rows2 := kb_91_0) rfl (List.cons_ne_nil _ _) ?_
  refine tr_blk 3 (pc' := 5) (rows' := kb_91_0.drop 3) (loc' := [.inr (12, 0, 0, 72)]) (st' := []) (P1 := (ab_pI P 72 0 (0 : Int32))) rfl ⟨trivial, trivial, trivial, trivial⟩ ?_
  refine tr_lt (fun P1 => ?_)
  refine tr_blk 2 (pc' := 9) (rows' := kb_91_0.drop 5) (loc' := [.inr (12, 0, 0, 72)]) (st' := [.inl (.int (P1.1 72 32))]) (P1 := P1) rfl ⟨trivial, trivial, trivial⟩ ?_
  refine tr_if (fun h6 => ?_) (fun h6 => ?_)
  · refine tr_ifF (cd := .ne) (fun q => q h6) ?_
    refine tr_blk 1 (pc' := 13) (rows' := kb_91_0.drop 7) (loc' := [.inr (12, 0, 0, 72)]) (st' := [.inl (.int (-1 : Int32))]) (P1 := P1) rfl ⟨trivial, trivial⟩ ?_
    exact tr_reI (z := km_91) rfl ⟨_, rfl, rfl⟩ rfl
  · refine tr_ifT (cd := .ne) h6 ?_
    refine tr_nil (rows2 := kb_91_14) rfl (List.cons_ne_nil _ _) ?_
    refine tr_blk 6 (pc' := 24) (rows' := kb_91_14.drop 6) (loc' := [.inr (12, 0, 0, 72)]) (st' := []) (P1 := (ab_pI P1 72 32 ((P1.1 72 32) - (1 : Int32)))) rfl ⟨trivial, trivial, trivial, trivial, trivial, trivial, trivial⟩ ?_
    refine tr_lt (fun P2 => ?_)
    refine tr_gd (fun h3 => ?_)
    refine tr_blk 7 (pc' := 35) (rows' := kb_91_14.drop 13) (loc' := [.inr (12, 0, 0, 72)]) (st' := [.inl (.int (1 : Int32)), .inr (20, 7688, 0, (500 + 1 + ((P2.1 72 32)).toNatClampNeg)), .inr (12, 0, 0, 72)]) (P1 := P2) rfl ⟨trivial, trivial, trivial, trivial, trivial, ⟨h3, ab_grl h3⟩, trivial, trivial⟩ ?_
    refine tr_cWV (z := km_195) (av := [.inr (12, 0, 0, 72), .inr (20, 7688, 0, (500 + 1 + ((P2.1 72 32)).toNatClampNeg)), .inl (.int (1 : Int32))]) (st' := []) rfl rfl rfl (Nat.le_of_ble_eq_true rfl) ⟨rfl, Or.inl (by decide)⟩ rfl (Nat.le_of_ble_eq_true rfl) (t_195_7688 (500 + 1 + ((P2.1 72 32)).toNatClampNeg) N (1 : Int32) P2) (fun P4 => ?_)
    refine tr_blk 3 (pc' := 43) (rows' := kb_91_14.drop 17) (loc' := [.inr (12, 0, 0, 72)]) (st' := []) (P1 := (ab_pI P4 72 31 (0 : Int32))) rfl ⟨trivial, trivial, trivial, trivial⟩ ?_
    refine tr_lt (fun P5 => ?_)
    refine tr_blk 2 (pc' := 47) (rows' := kb_91_14.drop 19) (loc' := [.inr (12, 0, 0, 72)]) (st' := [.inl (.int (P5.1 72 32))]) (P1 := P5) rfl ⟨trivial, trivial, trivial⟩ ?_
    exact tr_reI (z := km_91) rfl ⟨_, rfl, rfl⟩ rfl
def f_92 (P : ab_P) (a1 : Int32) : Option Int32 :=
    if a1 < (0 : Int32) then
      some (-1 : Int32)
    else
    if a1 < (3 : Int32) then
      if ab_gi a1 3 then
      some (P.1 71 a1.toNatClampNeg)
      else none
    else
    some (-1 : Int32)
theorem t_92 {xs : Nat × (Nat → Int32)} {d : Nat} (P : ab_P) : ∀ (a1 : Int32), ab_tr xs (rI P) (d + 0) 92 0 [] [.inr (11, 0, 0, 0), .inl (.int a1)] [] P (f_92 P a1) := by
  intro a1
  unfold f_92
  refine tr_nil (rows2 := kb_92_0) rfl (List.cons_ne_nil _ _) ?_
  refine tr_blk 1 (pc' := 1) (rows' := kb_92_0.drop 1) (loc' := [.inr (11, 0, 0, 0), .inl (.int a1)]) (st' := [.inl (.int a1)]) (P1 := P) rfl ⟨trivial, trivial⟩ ?_
  refine tr_if (fun h2 => ?_) (fun h2 => ?_)
  · refine tr_ifT (cd := .lt) h2 ?_
    refine tr_nil (rows2 := kb_92_22) rfl (List.cons_ne_nil _ _) ?_
    refine tr_blk 1 (pc' := 23) (rows' := kb_92_22.drop 1) (loc' := [.inr (11, 0, 0, 0), .inl (.int a1)]) (st' := [.inl (.int (-1 : Int32))]) (P1 := P) rfl ⟨trivial, trivial⟩ ?_
    refine tr_nil (rows2 := kb_92_23) rfl (List.cons_ne_nil _ _) ?_
    exact tr_reI (z := km_92) rfl ⟨_, rfl, rfl⟩ rfl
  · refine tr_ifF (cd := .lt) h2 ?_
    refine tr_blk 4 (pc' := 10) (rows' := kb_92_0.drop 6) (loc' := [.inr (11, 0, 0, 0), .inl (.int a1)]) (st' := [.inl (.int (3 : Int32)), .inl (.int a1)]) (P1 := P) rfl ⟨trivial, trivial, trivial, (Or.inl (by decide)), trivial⟩ ?_
    refine tr_if (fun h3 => ?_) (fun h3 => ?_)
    · refine tr_icF (cd := .ge) (Int32.not_le.mpr h3) ?_
      refine tr_gd (fun h1 => ?_)
      refine tr_blk 4 (pc' := 19) (rows' := kb_92_0.drop 11) (loc' := [.inr (11, 0, 0, 0), .inl (.int a1)]) (st' := [.inl (.int (P.1 71 a1.toNatClampNeg))]) (P1 := P) rfl ⟨trivial, trivial, trivial, h1, trivial⟩ ?_
      refine tr_goto ?_
      refine tr_nil (rows2 := kb_92_23) rfl (List.cons_ne_nil _ _) ?_
      exact tr_reI (z := km_92) rfl ⟨_, rfl, rfl⟩ rfl
    · refine tr_icT (cd := .ge) (Int32.not_lt.mp h3) ?_
      refine tr_nil (rows2 := kb_92_22) rfl (List.cons_ne_nil _ _) ?_
      refine tr_blk 1 (pc' := 23) (rows' := kb_92_22.drop 1) (loc' := [.inr (11, 0, 0, 0), .inl (.int a1)]) (st' := [.inl (.int (-1 : Int32))]) (P1 := P) rfl ⟨trivial, trivial⟩ ?_
      refine tr_nil (rows2 := kb_92_23) rfl (List.cons_ne_nil _ _) ?_
      exact tr_reI (z := km_92) rfl ⟨_, rfl, rfl⟩ rfl
def f_93 (a1 : Int32) (P : ab_P) : Option (Int32 × ab_P) :=
    ab_lt (ab_pI P 72 0 (0 : Int32)) fun P1 =>
    Option.bind (f_112 P1 a1 (0 : Int32) (2 : Int32)) fun v2 =>
    if v2 = (0 : Int32) then
      some ((-1 : Int32), P1)
    else
    if ab_gi a1 3 then
    some ((P1.1 74 a1.toNatClampNeg), P1)
    else none
theorem t_93 {xs : Nat × (Nat → Int32)} {d : Nat} : ∀ (a1 : Int32) (P : ab_P), ab_tr xs wI (d + 1) 93 0 [] [.inr (12, 0, 0, 72), .inl (.int a1)] [] P (f_93 a1 P) := by
  intro a1 P
  unfold f_93
  refine tr_nil (rows2 := kb_93_0) rfl (List.cons_ne_nil _ _) ?_
  refine tr_blk 3 (pc' := 5) (rows' := kb_93_0.drop 3) (loc' := [.inr (12, 0, 0, 72), .inl (.int a1)]) (st' := []) (P1 := (ab_pI P 72 0 (0 : Int32))) rfl ⟨trivial, trivial, trivial, trivial⟩ ?_
  refine tr_lt (fun P1 => ?_)
  refine tr_blk 3 (pc' := 8) (rows' := kb_93_0.drop 6) (loc' := [.inr (12, 0, 0, 72), .inl (.int a1)]) (st' := [.inl (.int (2 : Int32)), .inl (.int (0 : Int32)), .inl (.int a1)]) (P1 := P1) rfl ⟨trivial, trivial, trivial, trivial⟩ ?_
  refine tr_cRI (z := km_112) (av := [.inl (.int a1), .inl (.int (0 : Int32)), .inl (.int (2 : Int32))]) (st' := []) rfl rfl rfl (Nat.le_of_ble_eq_true rfl) trivial rfl (Nat.le_of_ble_eq_true rfl) (t_112 P1 a1 (0 : Int32) (2 : Int32)) (fun v2 => ?_)
  refine tr_if (fun h4 => ?_) (fun h4 => ?_)
  · refine tr_ifT (cd := .eq) h4 ?_
    refine tr_nil (rows2 := kb_93_23) rfl (List.cons_ne_nil _ _) ?_
    refine tr_blk 1 (pc' := 24) (rows' := kb_93_23.drop 1) (loc' := [.inr (12, 0, 0, 72), .inl (.int a1)]) (st' := [.inl (.int (-1 : Int32))]) (P1 := P1) rfl ⟨trivial, trivial⟩ ?_
    refine tr_nil (rows2 := kb_93_24) rfl (List.cons_ne_nil _ _) ?_
    exact tr_reI (z := km_93) rfl ⟨_, rfl, rfl⟩ rfl
  · refine tr_ifF (cd := .eq) h4 ?_
    refine tr_gd (fun h3 => ?_)
    refine tr_blk 4 (pc' := 20) (rows' := kb_93_0.drop 12) (loc' := [.inr (12, 0, 0, 72), .inl (.int a1)]) (st' := [.inl (.int (P1.1 74 a1.toNatClampNeg))]) (P1 := P1) rfl ⟨trivial, trivial, trivial, h3, trivial⟩ ?_
    refine tr_goto ?_
    refine tr_nil (rows2 := kb_93_24) rfl (List.cons_ne_nil _ _) ?_
    exact tr_reI (z := km_93) rfl ⟨_, rfl, rfl⟩ rfl
def f_94 (P : ab_P) (a1 : Int32) : Option Int32 :=
    if a1 = 0 then
      some (P.1 65 6)
    else
    if a1 = 1 then
      some (P.1 1 1)
    else
    if a1 = 2 then
      some (P.1 65 1)
    else
    some (-1 : Int32)
theorem t_94 {xs : Nat × (Nat → Int32)} {d : Nat} (P : ab_P) : ∀ (a1 : Int32), ab_tr xs (rI P) (d + 0) 94 0 [] [.inr (11, 0, 0, 0), .inl (.int a1)] [] P (f_94 P a1) := by
  intro a1
  unfold f_94
  refine tr_nil (rows2 := kb_94_0) rfl (List.cons_ne_nil _ _) ?_
  refine tr_blk 1 (pc' := 1) (rows' := kb_94_0.drop 1) (loc' := [.inr (11, 0, 0, 0), .inl (.int a1)]) (st' := [.inl (.int a1)]) (P1 := P) rfl ⟨trivial, trivial⟩ ?_
  refine tr_if (fun h1 => ?_) (fun h1 => ?_)
  · refine tr_sw (t := 28) (by rw [h1]; rfl) ?_
    refine tr_nil (rows2 := kb_94_28) rfl (List.cons_ne_nil _ _) ?_
    refine tr_blk 3 (pc' := 35) (rows' := kb_94_28.drop 3) (loc' := [.inr (11, 0, 0, 0), .inl (.int a1)]) (st' := [.inl (.int (P.1 65 6))]) (P1 := P) rfl ⟨trivial, trivial, trivial, trivial⟩ ?_
    exact tr_reI (z := km_94) rfl ⟨_, rfl, rfl⟩ rfl
  refine tr_if (fun h2 => ?_) (fun h2 => ?_)
  · refine tr_sw (t := 36) (by rw [h2]; rfl) ?_
    refine tr_nil (rows2 := kb_94_36) rfl (List.cons_ne_nil _ _) ?_
    refine tr_blk 3 (pc' := 43) (rows' := kb_94_36.drop 3) (loc' := [.inr (11, 0, 0, 0), .inl (.int a1)]) (st' := [.inl (.int (P.1 1 1))]) (P1 := P) rfl ⟨trivial, trivial, trivial, trivial⟩ ?_
    exact tr_reI (z := km_94) rfl ⟨_, rfl, rfl⟩ rfl
  refine tr_if (fun h3 => ?_) (fun h3 => ?_)
  · refine tr_sw (t := 44) (by rw [h3]; rfl) ?_
    refine tr_nil (rows2 := kb_94_44) rfl (List.cons_ne_nil _ _) ?_
    refine tr_blk 3 (pc' := 51) (rows' := kb_94_44.drop 3) (loc' := [.inr (11, 0, 0, 0), .inl (.int a1)]) (st' := [.inl (.int (P.1 65 1))]) (P1 := P) rfl ⟨trivial, trivial, trivial, trivial⟩ ?_
    exact tr_reI (z := km_94) rfl ⟨_, rfl, rfl⟩ rfl
  refine tr_sw (t := 52) (ab_swd (k := 3) (by decide) rfl ⟨ab_nei h1 (by decide), ab_nei h2 (by decide), ab_nei h3 (by decide), trivial⟩) ?_
  refine tr_nil (rows2 := kb_94_52) rfl (List.cons_ne_nil _ _) ?_
  refine tr_blk 1 (pc' := 53) (rows' := kb_94_52.drop 1) (loc' := [.inr (11, 0, 0, 0), .inl (.int a1)]) (st' := [.inl (.int (-1 : Int32))]) (P1 := P) rfl ⟨trivial, trivial⟩ ?_
  exact tr_reI (z := km_94) rfl ⟨_, rfl, rfl⟩ rfl
def f_95 (a1 : Int32) (P : ab_P) : Option (Int32 × ab_P) :=
    ab_lt (ab_pI P 72 0 (0 : Int32)) fun P1 =>
    if a1 = (0 : Int32) then
      some ((P1.1 72 32), P1)
    else
    if a1 = (1 : Int32) then
      some ((P1.1 72 1), P1)
    else
    if a1 = (2 : Int32) then
      some ((P1.1 72 30), P1)
    else
    some ((-1 : Int32), P1)
theorem t_95 {xs : Nat × (Nat → Int32)} {d : Nat} : ∀ (a1 : Int32) (P : ab_P), ab_tr xs wI (d + 0) 95 0 [] [.inr (12, 0, 0, 72), .inl (.int a1)] [] P (f_95 a1 P) := by
  intro a1 P
  unfold f_95
  refine tr_nil (rows2 := kb_95_0) rfl (List.cons_ne_nil _ _) ?_
  refine tr_blk 3 (pc' := 5) (rows' := kb_95_0.drop 3) (loc' := [.inr (12, 0, 0, 72), .inl (.int a1)]) (st' := []) (P1 := (ab_pI P 72 0 (0 : Int32))) rfl ⟨trivial, trivial, trivial, trivial⟩ ?_
  refine tr_lt (fun P1 => ?_)
  refine tr_blk 1 (pc' := 6) (rows' := kb_95_0.drop 4) (loc' := [.inr (12, 0, 0, 72), .inl (.int a1)]) (st' := [.inl (.int a1)]) (P1 := P1) rfl ⟨trivial, trivial⟩ ?_
  refine tr_if (fun h2 => ?_) (fun h2 => ?_)
  · refine tr_ifF (cd := .ne) (fun q => q h2) ?_
    refine tr_blk 2 (pc' := 13) (rows' := kb_95_0.drop 7) (loc' := [.inr (12, 0, 0, 72), .inl (.int a1)]) (st' := [.inl (.int (P1.1 72 32))]) (P1 := P1) rfl ⟨trivial, trivial, trivial⟩ ?_
    refine tr_goto ?_
    refine tr_nil (rows2 := kb_95_41) rfl (List.cons_ne_nil _ _) ?_
    exact tr_reI (z := km_95) rfl ⟨_, rfl, rfl⟩ rfl
  · refine tr_ifT (cd := .ne) h2 ?_
    refine tr_nil (rows2 := kb_95_16) rfl (List.cons_ne_nil _ _) ?_
    refine tr_blk 2 (pc' := 18) (rows' := kb_95_16.drop 2) (loc' := [.inr (12, 0, 0, 72), .inl (.int a1)]) (st' := [.inl (.int (1 : Int32)), .inl (.int a1)]) (P1 := P1) rfl ⟨trivial, trivial, trivial⟩ ?_
    refine tr_if (fun h3 => ?_) (fun h3 => ?_)
    · refine tr_icF (cd := .ne) (fun q => q h3) ?_
      refine tr_blk 2 (pc' := 25) (rows' := kb_95_16.drop 5) (loc' := [.inr (12, 0, 0, 72), .inl (.int a1)]) (st' := [.inl (.int (P1.1 72 1))]) (P1 := P1) rfl ⟨trivial, trivial, trivial⟩ ?_
      refine tr_goto ?_
      refine tr_nil (rows2 := kb_95_41) rfl (List.cons_ne_nil _ _) ?_
      exact tr_reI (z := km_95) rfl ⟨_, rfl, rfl⟩ rfl
    · refine tr_icT (cd := .ne) h3 ?_
      refine tr_nil (rows2 := kb_95_28) rfl (List.cons_ne_nil _ _) ?_
      refine tr_blk 2 (pc' := 30) (rows' := kb_95_28.drop 2) (loc' := [.inr (12, 0, 0, 72), .inl (.int a1)]) (st' := [.inl (.int (2 : Int32)), .inl (.int a1)]) (P1 := P1) rfl ⟨trivial, trivial, trivial⟩ ?_
      refine tr_if (fun h4 => ?_) (fun h4 => ?_)
      · refine tr_icF (cd := .ne) (fun q => q h4) ?_
        refine tr_blk 2 (pc' := 37) (rows' := kb_95_28.drop 5) (loc' := [.inr (12, 0, 0, 72), .inl (.int a1)]) (st' := [.inl (.int (P1.1 72 30))]) (P1 := P1) rfl ⟨trivial, trivial, trivial⟩ ?_
        refine tr_goto ?_
        refine tr_nil (rows2 := kb_95_41) rfl (List.cons_ne_nil _ _) ?_
        exact tr_reI (z := km_95) rfl ⟨_, rfl, rfl⟩ rfl
      · refine tr_icT (cd := .ne) h4 ?_
        refine tr_nil (rows2 := kb_95_40) rfl (List.cons_ne_nil _ _) ?_
        refine tr_blk 1 (pc' := 41) (rows' := kb_95_40.drop 1) (loc' := [.inr (12, 0, 0, 72), .inl (.int a1)]) (st' := [.inl (.int (-1 : Int32))]) (P1 := P1) rfl ⟨trivial, trivial⟩ ?_
        refine tr_nil (rows2 := kb_95_41) rfl (List.cons_ne_nil _ _) ?_
        exact tr_reI (z := km_95) rfl ⟨_, rfl, rfl⟩ rfl
