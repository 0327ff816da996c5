def f_11_150 (N : Nat) : Nat → Int32 → Int32 → Int32 → ab_P → Option (Int32 × ab_P)
  | 0, _, _, _, _ => none
  | n + 1, x2, x3, x4, P =>
    if x4 < x2 then
      if ab_gi x4 30 then
      ab_b2 (f_124_366_4 477 (444 + 1 + x4.toNatClampNeg) N P) fun v19 P18 =>
      if v19 = (0 : Int32) then
        f_11_150 N n x2 (x3 + (0 : Int32)) (x4 + 1) P18
      else
      f_11_150 N n x2 (x3 + (1 : Int32)) (x4 + 1) P18
      else none
    else
    ab_lt (ab_pI P 72 31 (x2 - x3)) fun P16 =>
    some (x3, P16)
theorem t_11_150 {xs : Nat × (Nat → Int32)} {d : Nat} (N : Nat) : ∀ n : Nat, ∀ (x2 : Int32) (x3 : Int32) (x4 : Int32) (d1 : Int32) (P : ab_P), ab_tr xs wI (d + 7) 11 150 [] [.inr (12, 0, 0, 72), .inl (.int d1), .inl (.int x2), .inl (.int x3), .inl (.int x4)] [] P (f_11_150 N n x2 x3 x4 P) := by
  intro n
  induction n with
  | zero => intro x2 x3 x4 d1 P; exact tr_no
  | succ n ih =>
    intro x2 x3 x4 d1 P
    refine tr_nil (rows2 := kb_11_150) rfl (List.cons_ne_nil _ _) ?_
    refine tr_blk 2 (pc' := 153) (rows' := kb_11_150.drop 2) (loc' := [.inr (12, 0, 0, 72), .inl (.int d1), .inl (.int x2), .inl (.int x3), .inl (.int x4)]) (st' := [.inl (.int x2), .inl (.int x4)]) (P1 := P) rfl ⟨trivial, trivial, trivial⟩ ?_
    refine tr_if (fun h20 => ?_) (fun h20 => ?_)
    · refine tr_icF (cd := .ge) (Int32.not_le.mpr h20) ?_
      refine tr_gd (fun h17 => ?_)
      refine tr_blk 8 (pc' := 169) (rows' := kb_11_150.drop 11) (loc' := [.inr (12, 0, 0, 72), .inl (.int d1), .inl (.int x2), .inl (.int x3), .inl (.int x4)]) (st' := [.inr (20, 4, 0, (444 + 1 + x4.toNatClampNeg)), .inr (20, 366, 0, 477), .inr (12, 0, 0, 72), .inl (.int x3)]) (P1 := P) rfl ⟨trivial, trivial, trivial, trivial, trivial, trivial, trivial, ⟨h17, ab_grl h17⟩, trivial⟩ ?_
      refine tr_cWI (z := km_124) (av := [.inr (12, 0, 0, 72), .inr (20, 366, 0, 477), .inr (20, 4, 0, (444 + 1 + x4.toNatClampNeg))]) (st' := [.inl (.int x3)]) rfl rfl rfl (Nat.le_of_ble_eq_true rfl) ⟨rfl, Or.inl (by decide)⟩ rfl (Nat.le_of_ble_eq_true rfl) (t_124_366_4 477 (444 + 1 + x4.toNatClampNeg) N P) (fun v19 P18 => ?_)
      refine tr_if (fun h21 => ?_) (fun h21 => ?_)
      · refine tr_ifT (cd := .eq) h21 ?_
        refine tr_nil (rows2 := kb_11_179) rfl (List.cons_ne_nil _ _) ?_
        refine tr_blk 1 (pc' := 180) (rows' := kb_11_179.drop 1) (loc' := [.inr (12, 0, 0, 72), .inl (.int d1), .inl (.int x2), .inl (.int x3), .inl (.int x4)]) (st' := [.inl (.int (0 : Int32)), .inl (.int x3)]) (P1 := P18) rfl ⟨trivial, trivial⟩ ?_
        refine tr_nil (rows2 := kb_11_180) rfl (List.cons_ne_nil _ _) ?_
        refine tr_blk 3 (pc' := 185) (rows' := kb_11_180.drop 3) (loc' := [.inr (12, 0, 0, 72), .inl (.int d1), .inl (.int x2), .inl (.int (x3 + (0 : Int32))), .inl (.int (x4 + 1))]) (st' := []) (P1 := P18) rfl ⟨trivial, trivial, trivial, trivial⟩ ?_
        refine tr_goto ?_
        exact ih x2 (x3 + (0 : Int32)) (x4 + 1) (d1) P18
      · refine tr_ifF (cd := .eq) h21 ?_
        refine tr_blk 1 (pc' := 176) (rows' := kb_11_150.drop 14) (loc' := [.inr (12, 0, 0, 72), .inl (.int d1), .inl (.int x2), .inl (.int x3), .inl (.int x4)]) (st' := [.inl (.int (1 : Int32)), .inl (.int x3)]) (P1 := P18) rfl ⟨trivial, trivial⟩ ?_
        refine tr_goto ?_
        refine tr_nil (rows2 := kb_11_180) rfl (List.cons_ne_nil _ _) ?_
        refine tr_blk 3 (pc' := 185) (rows' := kb_11_180.drop 3) (loc' := [.inr (12, 0, 0, 72), .inl (.int d1), .inl (.int x2), .inl (.int (x3 + (1 : Int32))), .inl (.int (x4 + 1))]) (st' := []) (P1 := P18) rfl ⟨trivial, trivial, trivial, trivial⟩ ?_
        refine tr_goto ?_
        exact ih x2 (x3 + (1 : Int32)) (x4 + 1) (d1) P18
    · refine tr_icT (cd := .ge) (Int32.not_lt.mp h20) ?_
      refine tr_nil (rows2 := kb_11_188) rfl (List.cons_ne_nil _ _) ?_
      refine tr_blk 5 (pc' := 195) (rows' := kb_11_188.drop 5) (loc' := [.inr (12, 0, 0, 72), .inl (.int d1), .inl (.int x2), .inl (.int x3), .inl (.int x4)]) (st' := []) (P1 := (ab_pI P 72 31 (x2 - x3))) rfl ⟨trivial, trivial, trivial, trivial, trivial, trivial⟩ ?_
      refine tr_lt (fun P16 => ?_)
      refine tr_blk 1 (pc' := 196) (rows' := kb_11_188.drop 6) (loc' := [.inr (12, 0, 0, 72), .inl (.int d1), .inl (.int x2), .inl (.int x3), .inl (.int x4)]) (st' := [.inl (.int x3)]) (P1 := P16) rfl ⟨trivial, trivial⟩ ?_
      exact tr_reI (z := km_11) rfl ⟨_, rfl, rfl⟩ rfl
def f_11_114 (N : Nat) (x2 : Int32) (P : ab_P) : Option (Int32 × ab_P) :=
    ab_lt (ab_pI P 72 3 (-1 : Int32)) fun P12 =>
    if ab_gi (P12.1 72 30) 20 then
    Option.bind (f_123_366_366 477 (479 + 1 + ((P12.1 72 30)).toNatClampNeg) N P12) fun P14 =>
    ab_lt (ab_pI P14 72 30 ((P14.1 72 30) + (1 : Int32))) fun P15 =>
    f_11_150 N N x2 (0 : Int32) (0 : Int32) P15
    else none
theorem t_11_114 {xs : Nat × (Nat → Int32)} {d : Nat} (N : Nat) : ∀ (x2 : Int32) (d1 : Int32) (P : ab_P), ab_tr xs wI (d + 7) 11 114 [] [.inr (12, 0, 0, 72), .inl (.int d1), .inl (.int x2), ab_top, ab_top] [] P (f_11_114 N x2 P) := by
  intro x2 d1 P
  unfold f_11_114
  refine tr_nil (rows2 := kb_11_114) rfl (List.cons_ne_nil _ _) ?_
  refine tr_blk 3 (pc' := 119) (rows' := kb_11_114.drop 3) (loc' := [.inr (12, 0, 0, 72), .inl (.int d1), .inl (.int x2), ab_top, ab_top]) (st' := []) (P1 := (ab_pI P 72 3 (-1 : Int32))) rfl ⟨trivial, trivial, trivial, trivial⟩ ?_
  refine tr_lt (fun P12 => ?_)
  refine tr_gd (fun h13 => ?_)
  refine tr_blk 7 (pc' := 132) (rows' := kb_11_114.drop 10) (loc' := [.inr (12, 0, 0, 72), .inl (.int d1), .inl (.int x2), ab_top, ab_top]) (st' := [.inr (20, 366, 0, (479 + 1 + ((P12.1 72 30)).toNatClampNeg)), .inr (20, 366, 0, 477)]) (P1 := P12) rfl ⟨trivial, trivial, trivial, trivial, trivial, trivial, ⟨h13, ab_grl h13⟩, trivial⟩ ?_
  refine tr_cWV (z := km_123) (av := [.inr (20, 366, 0, 477), .inr (20, 366, 0, (479 + 1 + ((P12.1 72 30)).toNatClampNeg))]) (st' := []) rfl rfl rfl (Nat.le_of_ble_eq_true rfl) trivial rfl (Nat.le_of_ble_eq_true rfl) (t_123_366_366 477 (479 + 1 + ((P12.1 72 30)).toNatClampNeg) N P12) (fun P14 => ?_)
  refine tr_blk 6 (pc' := 145) (rows' := kb_11_114.drop 17) (loc' := [.inr (12, 0, 0, 72), .inl (.int d1), .inl (.int x2), ab_top, ab_top]) (st' := []) (P1 := (ab_pI P14 72 30 ((P14.1 72 30) + (1 : Int32)))) rfl ⟨trivial, trivial, trivial, trivial, trivial, trivial, trivial⟩ ?_
  refine tr_lt (fun P15 => ?_)
  refine tr_blk 4 (pc' := 150) (rows' := kb_11_114.drop 21) (loc' := [.inr (12, 0, 0, 72), .inl (.int d1), .inl (.int x2), .inl (.int (0 : Int32)), .inl (.int (0 : Int32))]) (st' := []) (P1 := P15) rfl ⟨trivial, trivial, trivial, trivial, trivial⟩ ?_
  exact t_11_150 N N x2 (0 : Int32) (0 : Int32) (d1) P15
def f_11_102 (N : Nat) (x2 : Int32) (P : ab_P) : Option (Int32 × ab_P) :=
    if (P.1 72 5) = (0 : Int32) then
      f_11_114 N x2 P
    else
    ab_b2 (f_117 P) fun v11 P10 =>
    some (v11, P10)
theorem t_11_102 {xs : Nat × (Nat → Int32)} {d : Nat} (N : Nat) : ∀ (x2 : Int32) (d1 : Int32) (P : ab_P), ab_tr xs wI (d + 7) 11 102 [] [.inr (12, 0, 0, 72), .inl (.int d1), .inl (.int x2), ab_top, ab_top] [] P (f_11_102 N x2 P) := by
  intro x2 d1 P
  unfold f_11_102
  refine tr_nil (rows2 := kb_11_102) rfl (List.cons_ne_nil _ _) ?_
  refine tr_blk 2 (pc' := 106) (rows' := kb_11_102.drop 2) (loc' := [.inr (12, 0, 0, 72), .inl (.int d1), .inl (.int x2), ab_top, ab_top]) (st' := [.inl (.int (P.1 72 5))]) (P1 := P) rfl ⟨trivial, trivial, trivial⟩ ?_
  refine tr_if (fun h22 => ?_) (fun h22 => ?_)
  · refine tr_ifT (cd := .eq) h22 ?_
    exact t_11_114 N x2 (d1) P
  · refine tr_ifF (cd := .eq) h22 ?_
    refine tr_blk 1 (pc' := 110) (rows' := kb_11_102.drop 4) (loc' := [.inr (12, 0, 0, 72), .inl (.int d1), .inl (.int x2), ab_top, ab_top]) (st' := [.inr (12, 0, 0, 72)]) (P1 := P) rfl ⟨trivial, trivial⟩ ?_
    refine tr_cWI (z := km_117) (av := [.inr (12, 0, 0, 72)]) (st' := []) rfl rfl rfl (Nat.le_of_ble_eq_true rfl) ⟨rfl, Or.inl (by decide)⟩ rfl (Nat.le_of_ble_eq_true rfl) (t_117 P) (fun v11 P10 => ?_)
    exact tr_reI (z := km_11) rfl ⟨_, rfl, rfl⟩ rfl
def f_11_69 (N : Nat) : Nat → Int32 → ab_P → Option (Int32 × ab_P)
  | 0, _, _ => none
  | n + 1, x2, P =>
    if (P.1 72 5) = (0 : Int32) then
      if (P.1 72 4) < (P.1 72 2) then
        Option.bind (f_122 N x2 P) fun P8 =>
        Option.bind (f_116 N P8) fun P9 =>
        f_11_69 N n (x2 + 1) P9
      else
      f_11_102 N x2 P
    else
    f_11_102 N x2 P
theorem t_11_69 {xs : Nat × (Nat → Int32)} {d : Nat} (N : Nat) : ∀ n : Nat, ∀ (x2 : Int32) (d1 : Int32) (P : ab_P), ab_tr xs wI (d + 7) 11 69 [] [.inr (12, 0, 0, 72), .inl (.int d1), .inl (.int x2), ab_top, ab_top] [] P (f_11_69 N n x2 P) := by
  intro n
  induction n with
  | zero => intro x2 d1 P; exact tr_no
  | succ n ih =>
    intro x2 d1 P
    refine tr_nil (rows2 := kb_11_69) rfl (List.cons_ne_nil _ _) ?_
    refine tr_blk 2 (pc' := 73) (rows' := kb_11_69.drop 2) (loc' := [.inr (12, 0, 0, 72), .inl (.int d1), .inl (.int x2), ab_top, ab_top]) (st' := [.inl (.int (P.1 72 5))]) (P1 := P) rfl ⟨trivial, trivial, trivial⟩ ?_
    refine tr_if (fun h23 => ?_) (fun h23 => ?_)
    · refine tr_ifF (cd := .ne) (fun q => q h23) ?_
      refine tr_blk 4 (pc' := 84) (rows' := kb_11_69.drop 7) (loc' := [.inr (12, 0, 0, 72), .inl (.int d1), .inl (.int x2), ab_top, ab_top]) (st' := [.inl (.int (P.1 72 2)), .inl (.int (P.1 72 4))]) (P1 := P) rfl ⟨trivial, trivial, trivial, trivial, trivial⟩ ?_
      refine tr_if (fun h24 => ?_) (fun h24 => ?_)
      · refine tr_icF (cd := .ge) (Int32.not_le.mpr h24) ?_
        refine tr_blk 2 (pc' := 89) (rows' := kb_11_69.drop 10) (loc' := [.inr (12, 0, 0, 72), .inl (.int d1), .inl (.int x2), ab_top, ab_top]) (st' := [.inl (.int x2), .inr (12, 0, 0, 72)]) (P1 := P) rfl ⟨trivial, trivial, trivial⟩ ?_
        refine tr_cWV (z := km_122) (av := [.inr (12, 0, 0, 72), .inl (.int x2)]) (st' := []) rfl rfl rfl (Nat.le_of_ble_eq_true rfl) ⟨rfl, Or.inl (by decide)⟩ rfl (Nat.le_of_ble_eq_true rfl) (t_122 N x2 P) (fun P8 => ?_)
        refine tr_blk 2 (pc' := 96) (rows' := kb_11_69.drop 13) (loc' := [.inr (12, 0, 0, 72), .inl (.int d1), .inl (.int (x2 + 1)), ab_top, ab_top]) (st' := [.inr (12, 0, 0, 72)]) (P1 := P8) rfl ⟨trivial, trivial, trivial⟩ ?_
        refine tr_cWV (z := km_116) (av := [.inr (12, 0, 0, 72)]) (st' := []) rfl rfl rfl (Nat.le_of_ble_eq_true rfl) ⟨rfl, Or.inl (by decide)⟩ rfl (Nat.le_of_ble_eq_true rfl) (t_116 N P8) (fun P9 => ?_)
        refine tr_goto ?_
        exact ih (x2 + 1) (d1) P9
      · refine tr_icT (cd := .ge) (Int32.not_lt.mp h24) ?_
        exact t_11_102 N x2 (d1) P
    · refine tr_ifT (cd := .ne) h23 ?_
      exact t_11_102 N x2 (d1) P
def f_11_40 (N : Nat) (x1 : Int32) (P : ab_P) : Option (Int32 × ab_P) :=
    if (P.1 72 30) = (20 : Int32) then
      ab_lt (ab_pI P 72 1 (0 : Int32)) fun P6 =>
      ab_lt (ab_pI P6 72 3 (-1 : Int32)) fun P7 =>
      some ((-20 : Int32), P7)
    else
    Option.bind (f_114 N x1 P) fun P5 =>
    f_11_69 N N (0 : Int32) P5
theorem t_11_40 {xs : Nat × (Nat → Int32)} {d : Nat} (N : Nat) : ∀ (x1 : Int32) (P : ab_P), ab_tr xs wI (d + 7) 11 40 [] [.inr (12, 0, 0, 72), .inl (.int x1), ab_top, ab_top, ab_top] [] P (f_11_40 N x1 P) := by
  intro x1 P
  unfold f_11_40
  refine tr_nil (rows2 := kb_11_40) rfl (List.cons_ne_nil _ _) ?_
  refine tr_blk 3 (pc' := 46) (rows' := kb_11_40.drop 3) (loc' := [.inr (12, 0, 0, 72), .inl (.int x1), ab_top, ab_top, ab_top]) (st' := [.inl (.int (20 : Int32)), .inl (.int (P.1 72 30))]) (P1 := P) rfl ⟨trivial, trivial, trivial, trivial⟩ ?_
  refine tr_if (fun h25 => ?_) (fun h25 => ?_)
  · refine tr_icF (cd := .ne) (fun q => q h25) ?_
    refine tr_blk 3 (pc' := 54) (rows' := kb_11_40.drop 7) (loc' := [.inr (12, 0, 0, 72), .inl (.int x1), ab_top, ab_top, ab_top]) (st' := []) (P1 := (ab_pI P 72 1 (0 : Int32))) rfl ⟨trivial, trivial, trivial, trivial⟩ ?_
    refine tr_lt (fun P6 => ?_)
    refine tr_blk 3 (pc' := 59) (rows' := kb_11_40.drop 10) (loc' := [.inr (12, 0, 0, 72), .inl (.int x1), ab_top, ab_top, ab_top]) (st' := []) (P1 := (ab_pI P6 72 3 (-1 : Int32))) rfl ⟨trivial, trivial, trivial, trivial⟩ ?_
    refine tr_lt (fun P7 => ?_)
    refine tr_blk 1 (pc' := 61) (rows' := kb_11_40.drop 11) (loc' := [.inr (12, 0, 0, 72), .inl (.int x1), ab_top, ab_top, ab_top]) (st' := [.inl (.int (-20 : Int32))]) (P1 := P7) rfl ⟨trivial, trivial⟩ ?_
    exact tr_reI (z := km_11) rfl ⟨_, rfl, rfl⟩ rfl
  · refine tr_icT (cd := .ne) h25 ?_
    refine tr_nil (rows2 := kb_11_62) rfl (List.cons_ne_nil _ _) ?_
    refine tr_blk 2 (pc' := 64) (rows' := kb_11_62.drop 2) (loc' := [.inr (12, 0, 0, 72), .inl (.int x1), ab_top, ab_top, ab_top]) (st' := [.inl (.int x1), .inr (12, 0, 0, 72)]) (P1 := P) rfl ⟨trivial, trivial, trivial⟩ ?_
    refine tr_cWV (z := km_114) (av := [.inr (12, 0, 0, 72), .inl (.int x1)]) (st' := []) rfl rfl rfl (Nat.le_of_ble_eq_true rfl) ⟨rfl, Or.inl (by decide)⟩ rfl (Nat.le_of_ble_eq_true rfl) (t_114 N x1 P) (fun P5 => ?_)
    refine tr_blk 2 (pc' := 69) (rows' := kb_11_62.drop 5) (loc' := [.inr (12, 0, 0, 72), .inl (.int x1), .inl (.int (0 : Int32)), ab_top, ab_top]) (st' := []) (P1 := P5) rfl ⟨trivial, trivial, trivial⟩ ?_
    exact t_11_69 N N (0 : Int32) (x1) P5
def f_11_30 (N : Nat) (x1 : Int32) (s0 : Int32) (P : ab_P) : Option (Int32 × ab_P) :=
    ab_b2 (f_113 s0 (1 : Int32) (1 : Int32) P) fun v4 P3 =>
    if v4 = (0 : Int32) then
      f_11_40 N x1 P3
    else
    some ((0 : Int32), P3)
theorem t_11_30 {xs : Nat × (Nat → Int32)} {d : Nat} (N : Nat) : ∀ (x1 : Int32) (s0 : Int32) (P : ab_P), ab_tr xs wI (d + 7) 11 30 [] [.inr (12, 0, 0, 72), .inl (.int x1), ab_top, ab_top, ab_top] [.inl (.int s0), .inr (12, 0, 0, 72)] P (f_11_30 N x1 s0 P) := by
  intro x1 s0 P
  unfold f_11_30
  refine tr_nil (rows2 := kb_11_30) rfl (List.cons_ne_nil _ _) ?_
  refine tr_blk 2 (pc' := 32) (rows' := kb_11_30.drop 2) (loc' := [.inr (12, 0, 0, 72), .inl (.int x1), ab_top, ab_top, ab_top]) (st' := [.inl (.int (1 : Int32)), .inl (.int (1 : Int32)), .inl (.int s0), .inr (12, 0, 0, 72)]) (P1 := P) rfl ⟨trivial, trivial, trivial⟩ ?_
  refine tr_cWI (z := km_113) (av := [.inr (12, 0, 0, 72), .inl (.int s0), .inl (.int (1 : Int32)), .inl (.int (1 : Int32))]) (st' := []) rfl rfl rfl (Nat.le_of_ble_eq_true rfl) ⟨rfl, Or.inl (by decide)⟩ rfl (Nat.le_of_ble_eq_true rfl) (t_113 s0 (1 : Int32) (1 : Int32) P) (fun v4 P3 => ?_)
  refine tr_if (fun h26 => ?_) (fun h26 => ?_)
  · refine tr_ifT (cd := .eq) h26 ?_
    exact t_11_40 N x1 P3
  · refine tr_ifF (cd := .eq) h26 ?_
    refine tr_blk 1 (pc' := 39) (rows' := kb_11_30.drop 5) (loc' := [.inr (12, 0, 0, 72), .inl (.int x1), ab_top, ab_top, ab_top]) (st' := [.inl (.int (0 : Int32))]) (P1 := P3) rfl ⟨trivial, trivial⟩ ?_
    exact tr_reI (z := km_11) rfl ⟨_, rfl, rfl⟩ rfl
def f_11 (N : Nat) (a1 : Int32) (P : ab_P) : Option (Int32 × ab_P) :=
    ab_lt (ab_pI P 72 0 (0 : Int32)) fun P1 =>
    Option.bind (f_112 P1 a1 (0 : Int32) (P1.1 72 1)) fun v2 =>
    if v2 = (0 : Int32) then
      f_11_30 N a1 (1 : Int32) P1
    else
    if (200 : Int32) < a1 then
      f_11_30 N a1 (1 : Int32) P1
    else
    f_11_30 N a1 (0 : Int32) P1
theorem t_11 {xs : Nat × (Nat → Int32)} {d : Nat} (N : Nat) : ∀ (a1 : Int32) (P : ab_P), ab_tr xs wI (d + 7) 11 0 [] [.inr (12, 0, 0, 72), .inl (.int a1), ab_top, ab_top, ab_top] [] P (f_11 N a1 P) := by
  intro a1 P
  unfold f_11
  refine tr_nil (rows2 := kb_11_0) rfl (List.cons_ne_nil _ _) ?_
  refine tr_blk 3 (pc' := 5) (rows' := kb_11_0.drop 3) (loc' := [.inr (12, 0, 0, 72), .inl (.int a1), ab_top, ab_top, ab_top]) (st' := []) (P1 := (ab_pI P 72 0 (0 : Int32))) rfl ⟨trivial, trivial, trivial, trivial⟩ ?_
  refine tr_lt (fun P1 => ?_)
  refine tr_blk 5 (pc' := 12) (rows' := kb_11_0.drop 8) (loc' := [.inr (12, 0, 0, 72), .inl (.int a1), ab_top, ab_top, ab_top]) (st' := [.inl (.int (P1.1 72 1)), .inl (.int (0 : Int32)), .inl (.int a1), .inr (12, 0, 0, 72)]) (P1 := P1) rfl ⟨trivial, trivial, trivial, trivial, trivial, trivial⟩ ?_
  refine tr_cRI (z := km_112) (av := [.inl (.int a1), .inl (.int (0 : Int32)), .inl (.int (P1.1 72 1))]) (st' := [.inr (12, 0, 0, 72)]) rfl rfl rfl (Nat.le_of_ble_eq_true rfl) trivial rfl (Nat.le_of_ble_eq_true rfl) (t_112 P1 a1 (0 : Int32) (P1.1 72 1)) (fun v2 => ?_)
  refine tr_if (fun h27 => ?_) (fun h27 => ?_)
  · refine tr_ifT (cd := .eq) h27 ?_
    refine tr_nil (rows2 := kb_11_25) rfl (List.cons_ne_nil _ _) ?_
    refine tr_blk 1 (pc' := 26) (rows' := kb_11_25.drop 1) (loc' := [.inr (12, 0, 0, 72), .inl (.int a1), ab_top, ab_top, ab_top]) (st' := [.inl (.int (1 : Int32)), .inr (12, 0, 0, 72)]) (P1 := P1) rfl ⟨trivial, trivial⟩ ?_
    refine tr_goto ?_
    exact t_11_30 N a1 (1 : Int32) P1
  · refine tr_ifF (cd := .eq) h27 ?_
    refine tr_blk 2 (pc' := 22) (rows' := kb_11_0.drop 12) (loc' := [.inr (12, 0, 0, 72), .inl (.int a1), ab_top, ab_top, ab_top]) (st' := [.inl (.int (200 : Int32)), .inl (.int a1), .inr (12, 0, 0, 72)]) (P1 := P1) rfl ⟨trivial, trivial, trivial⟩ ?_
    refine tr_if (fun h28 => ?_) (fun h28 => ?_)
    · refine tr_icF (cd := .le) (Int32.not_le.mpr h28) ?_
      refine tr_nil (rows2 := kb_11_25) rfl (List.cons_ne_nil _ _) ?_
      refine tr_blk 1 (pc' := 26) (rows' := kb_11_25.drop 1) (loc' := [.inr (12, 0, 0, 72), .inl (.int a1), ab_top, ab_top, ab_top]) (st' := [.inl (.int (1 : Int32)), .inr (12, 0, 0, 72)]) (P1 := P1) rfl ⟨trivial, trivial⟩ ?_
      refine tr_goto ?_
      exact t_11_30 N a1 (1 : Int32) P1
    · refine tr_icT (cd := .le) (Int32.not_lt.mp h28) ?_
      refine tr_nil (rows2 := kb_11_29) rfl (List.cons_ne_nil _ _) ?_
      refine tr_blk 1 (pc' := 30) (rows' := kb_11_29.drop 1) (loc' := [.inr (12, 0, 0, 72), .inl (.int a1), ab_top, ab_top, ab_top]) (st' := [.inl (.int (0 : Int32)), .inr (12, 0, 0, 72)]) (P1 := P1) rfl ⟨trivial, trivial⟩ ?_
      exact t_11_30 N a1 (0 : Int32) P1
def f_294_49 (i0 : Nat) (N : Nat) (x3 : Int32) (s0 : Int32) (P : ab_P) : Option ab_P :=
    ab_b2 (f_323 N (0 : Int32) (9999 : Int32) P) fun v8 P7 =>
    Option.bind (f_324 N (59 : Int32) P7) fun P9 =>
    if (P9.1 i0 2) < (0 : Int32) then
      some P9
    else
    if (P9.1 i0 2) < (8 : Int32) then
      if ab_gi (P9.1 i0 2) 8 then
      ab_lt (ab_pI P9 (i0 + 1) ((P9.1 i0 2)).toNatClampNeg x3) fun P11 =>
      if ab_gi (P11.1 i0 2) 8 then
      ab_lt (ab_pI P11 (i0 + 2) ((P11.1 i0 2)).toNatClampNeg (s0 * v8)) fun P13 =>
      ab_lt (ab_pI P13 i0 2 ((P13.1 i0 2) + (1 : Int32))) fun P14 =>
      some P14
      else none
      else none
    else
    some P9
theorem t_294_49 {xs : Nat × (Nat → Int32)} {d : Nat} (i0 : Nat) (N : Nat) : ∀ (x3 : Int32) (s0 : Int32) (d2 : Int32) (P : ab_P), ab_tr xs wV (d + 3) 294 49 [] [.inr (0, 0, 0, i0), .inr (9, 0, 0, 1), .inl (.int d2), .inl (.int x3), ab_top, ab_top] [.inl (.int s0)] P (f_294_49 i0 N x3 s0 P) := by
  intro x3 s0 d2 P
  unfold f_294_49
  refine tr_nil (rows2 := kb_294_49) rfl (List.cons_ne_nil _ _) ?_
  refine tr_blk 4 (pc' := 56) (rows' := kb_294_49.drop 4) (loc' := [.inr (0, 0, 0, i0), .inr (9, 0, 0, 1), .inl (.int d2), .inl (.int x3), .inl (.int s0), ab_top]) (st' := [.inl (.int (9999 : Int32)), .inl (.int (0 : Int32)), .inr (9, 0, 0, 1)]) (P1 := P) rfl ⟨trivial, trivial, trivial, trivial, trivial⟩ ?_
  refine tr_cWI (z := km_323) (av := [.inr (9, 0, 0, 1), .inl (.int (0 : Int32)), .inl (.int (9999 : Int32))]) (st' := []) rfl rfl rfl (Nat.le_of_ble_eq_true rfl) ⟨rfl, Or.inl (by decide)⟩ rfl (Nat.le_of_ble_eq_true rfl) (t_323 N (0 : Int32) (9999 : Int32) P) (fun v8 P7 => ?_)
  refine tr_blk 3 (pc' := 64) (rows' := kb_294_49.drop 8) (loc' := [.inr (0, 0, 0, i0), .inr (9, 0, 0, 1), .inl (.int d2), .inl (.int x3), .inl (.int s0), .inl (.int v8)]) (st' := [.inl (.int (59 : Int32)), .inr (9, 0, 0, 1)]) (P1 := P7) rfl ⟨trivial, trivial, trivial, trivial⟩ ?_
  refine tr_cWV (z := km_324) (av := [.inr (9, 0, 0, 1), .inl (.int (59 : Int32))]) (st' := []) rfl rfl rfl (Nat.le_of_ble_eq_true rfl) ⟨rfl, Or.inl (by decide)⟩ rfl (Nat.le_of_ble_eq_true rfl) (t_324 N (59 : Int32) P7) (fun P9 => ?_)
  refine tr_blk 2 (pc' := 71) (rows' := kb_294_49.drop 11) (loc' := [.inr (0, 0, 0, i0), .inr (9, 0, 0, 1), .inl (.int d2), .inl (.int x3), .inl (.int s0), .inl (.int v8)]) (st' := [.inl (.int (P9.1 i0 2))]) (P1 := P9) rfl ⟨trivial, trivial, trivial⟩ ?_
  refine tr_if (fun h15 => ?_) (fun h15 => ?_)
  · refine tr_ifT (cd := .lt) h15 ?_
    refine tr_nil (rows2 := kb_294_117) rfl (List.cons_ne_nil _ _) ?_
    exact tr_reV (z := km_294) rfl rfl rfl
  · refine tr_ifF (cd := .lt) h15 ?_
    refine tr_blk 3 (pc' := 80) (rows' := kb_294_49.drop 15) (loc' := [.inr (0, 0, 0, i0), .inr (9, 0, 0, 1), .inl (.int d2), .inl (.int x3), .inl (.int s0), .inl (.int v8)]) (st' := [.inl (.int (8 : Int32)), .inl (.int (P9.1 i0 2))]) (P1 := P9) rfl ⟨trivial, trivial, trivial, trivial⟩ ?_
    refine tr_if (fun h16 => ?_) (fun h16 => ?_)
    · refine tr_icF (cd := .ge) (Int32.not_le.mpr h16) ?_
      refine tr_gd (fun h10 => ?_)
      refine tr_blk 6 (pc' := 93) (rows' := kb_294_49.drop 22) (loc' := [.inr (0, 0, 0, i0), .inr (9, 0, 0, 1), .inl (.int d2), .inl (.int x3), .inl (.int s0), .inl (.int v8)]) (st' := []) (P1 := (ab_pI P9 (i0 + 1) ((P9.1 i0 2)).toNatClampNeg x3)) rfl ⟨trivial, trivial, trivial, trivial, trivial, h10, trivial⟩ ?_
      refine tr_lt (fun P11 => ?_)
      refine tr_gd (fun h12 => ?_)
      refine tr_blk 8 (pc' := 107) (rows' := kb_294_49.drop 30) (loc' := [.inr (0, 0, 0, i0), .inr (9, 0, 0, 1), .inl (.int d2), .inl (.int x3), .inl (.int s0), .inl (.int v8)]) (st' := []) (P1 := (ab_pI P11 (i0 + 2) ((P11.1 i0 2)).toNatClampNeg (s0 * v8))) rfl ⟨trivial, trivial, trivial, trivial, trivial, trivial, trivial, h12, trivial⟩ ?_
      refine tr_lt (fun P13 => ?_)
      refine tr_blk 6 (pc' := 117) (rows' := kb_294_49.drop 36) (loc' := [.inr (0, 0, 0, i0), .inr (9, 0, 0, 1), .inl (.int d2), .inl (.int x3), .inl (.int s0), .inl (.int v8)]) (st' := []) (P1 := (ab_pI P13 i0 2 ((P13.1 i0 2) + (1 : Int32)))) rfl ⟨trivial, trivial, trivial, trivial, trivial, trivial, trivial⟩ ?_
      refine tr_lt (fun P14 => ?_)
      refine tr_nil (rows2 := kb_294_117) rfl (List.cons_ne_nil _ _) ?_
      exact tr_reV (z := km_294) rfl rfl rfl
    · refine tr_icT (cd := .ge) (Int32.not_lt.mp h16) ?_
      refine tr_nil (rows2 := kb_294_117) rfl (List.cons_ne_nil _ _) ?_
      exact tr_reV (z := km_294) rfl rfl rfl
def f_294_35 (i0 : Nat) (N : Nat) (x3 : Int32) (P : ab_P) : Option ab_P :=
    ab_b2 (f_327 N (45 : Int32) P) fun v6 P5 =>
    if v6 = (0 : Int32) then
      f_294_49 i0 N x3 (1 : Int32) P5
    else
    f_294_49 i0 N x3 (-1 : Int32) P5
theorem t_294_35 {xs : Nat × (Nat → Int32)} {d : Nat} (i0 : Nat) (N : Nat) : ∀ (x3 : Int32) (d2 : Int32) (P : ab_P), ab_tr xs wV (d + 3) 294 35 [] [.inr (0, 0, 0, i0), .inr (9, 0, 0, 1), .inl (.int d2), .inl (.int x3), ab_top, ab_top] [] P (f_294_35 i0 N x3 P) := by
  intro x3 d2 P
  unfold f_294_35
  refine tr_nil (rows2 := kb_294_35) rfl (List.cons_ne_nil _ _) ?_
  refine tr_blk 2 (pc' := 38) (rows' := kb_294_35.drop 2) (loc' := [.inr (0, 0, 0, i0), .inr (9, 0, 0, 1), .inl (.int d2), .inl (.int x3), ab_top, ab_top]) (st' := [.inl (.int (45 : Int32)), .inr (9, 0, 0, 1)]) (P1 := P) rfl ⟨trivial, trivial, trivial⟩ ?_
  refine tr_cWI (z := km_327) (av := [.inr (9, 0, 0, 1), .inl (.int (45 : Int32))]) (st' := []) rfl rfl rfl (Nat.le_of_ble_eq_true rfl) ⟨rfl, Or.inl (by decide)⟩ rfl (Nat.le_of_ble_eq_true rfl) (t_327 N (45 : Int32) P) (fun v6 P5 => ?_)
  refine tr_if (fun h17 => ?_) (fun h17 => ?_)
  · refine tr_ifT (cd := .eq) h17 ?_
    refine tr_nil (rows2 := kb_294_48) rfl (List.cons_ne_nil _ _) ?_
    refine tr_blk 1 (pc' := 49) (rows' := kb_294_48.drop 1) (loc' := [.inr (0, 0, 0, i0), .inr (9, 0, 0, 1), .inl (.int d2), .inl (.int x3), ab_top, ab_top]) (st' := [.inl (.int (1 : Int32))]) (P1 := P5) rfl ⟨trivial, trivial⟩ ?_
    exact t_294_49 i0 N x3 (1 : Int32) (d2) P5
  · refine tr_ifF (cd := .eq) h17 ?_
    refine tr_blk 1 (pc' := 45) (rows' := kb_294_35.drop 5) (loc' := [.inr (0, 0, 0, i0), .inr (9, 0, 0, 1), .inl (.int d2), .inl (.int x3), ab_top, ab_top]) (st' := [.inl (.int (-1 : Int32))]) (P1 := P5) rfl ⟨trivial, trivial⟩ ?_
    refine tr_goto ?_
    exact t_294_49 i0 N x3 (-1 : Int32) (d2) P5
def f_294_27 (i0 : Nat) (N : Nat) (x3 : Int32) (P : ab_P) : Option ab_P :=
    Option.bind (f_201 P) fun v4 =>
    if v4 = (0 : Int32) then
      f_294_35 i0 N x3 P
    else
    some P
theorem t_294_27 {xs : Nat × (Nat → Int32)} {d : Nat} (i0 : Nat) (N : Nat) : ∀ (x3 : Int32) (d2 : Int32) (P : ab_P), ab_tr xs wV (d + 3) 294 27 [] [.inr (0, 0, 0, i0), .inr (9, 0, 0, 1), .inl (.int d2), .inl (.int x3), ab_top, ab_top] [] P (f_294_27 i0 N x3 P) := by
  intro x3 d2 P
  unfold f_294_27
  refine tr_nil (rows2 := kb_294_27) rfl (List.cons_ne_nil _ _) ?_
  refine tr_blk 1 (pc' := 28) (rows' := kb_294_27.drop 1) (loc' := [.inr (0, 0, 0, i0), .inr (9, 0, 0, 1), .inl (.int d2), .inl (.int x3), ab_top, ab_top]) (st' := [.inr (9, 0, 0, 1)]) (P1 := P) rfl ⟨trivial, trivial⟩ ?_
  refine tr_cRI (z := km_201) (av := [.inr (9, 0, 0, 1)]) (st' := []) rfl rfl rfl (Nat.le_of_ble_eq_true rfl) ⟨rfl, Or.inl (by decide)⟩ rfl (Nat.le_of_ble_eq_true rfl) (t_201 P) (fun v4 => ?_)
  refine tr_if (fun h18 => ?_) (fun h18 => ?_)
  · refine tr_ifT (cd := .eq) h18 ?_
    exact t_294_35 i0 N x3 (d2) P
  · refine tr_ifF (cd := .eq) h18 ?_
    exact tr_reV (z := km_294) rfl rfl rfl
def f_294 (i0 : Nat) (N : Nat) (a2 : Int32) (P : ab_P) : Option ab_P :=
    ab_b2 (f_323 N (0 : Int32) (a2 - (1 : Int32)) P) fun v2 P1 =>
    if (P1.1 i0 2) < (8 : Int32) then
      f_294_27 i0 N v2 P1
    else
    Option.bind (f_290 (3 : Int32) (P1.1 1 4) P1) fun P3 =>
    f_294_27 i0 N v2 P3
theorem t_294 {xs : Nat × (Nat → Int32)} {d : Nat} (i0 : Nat) (N : Nat) : ∀ (a2 : Int32) (P : ab_P), ab_tr xs wV (d + 3) 294 0 [] [.inr (0, 0, 0, i0), .inr (9, 0, 0, 1), .inl (.int a2), ab_top, ab_top, ab_top] [] P (f_294 i0 N a2 P) := by
  intro a2 P
  unfold f_294
  refine tr_nil (rows2 := kb_294_0) rfl (List.cons_ne_nil _ _) ?_
  refine tr_blk 5 (pc' := 5) (rows' := kb_294_0.drop 5) (loc' := [.inr (0, 0, 0, i0), .inr (9, 0, 0, 1), .inl (.int a2), ab_top, ab_top, ab_top]) (st' := [.inl (.int (a2 - (1 : Int32))), .inl (.int (0 : Int32)), .inr (9, 0, 0, 1)]) (P1 := P) rfl ⟨trivial, trivial, trivial, trivial, trivial, trivial⟩ ?_
  refine tr_cWI (z := km_323) (av := [.inr (9, 0, 0, 1), .inl (.int (0 : Int32)), .inl (.int (a2 - (1 : Int32)))]) (st' := []) rfl rfl rfl (Nat.le_of_ble_eq_true rfl) ⟨rfl, Or.inl (by decide)⟩ rfl (Nat.le_of_ble_eq_true rfl) (t_323 N (0 : Int32) (a2 - (1 : Int32)) P) (fun v2 P1 => ?_)
  refine tr_blk 4 (pc' := 15) (rows' := kb_294_0.drop 10) (loc' := [.inr (0, 0, 0, i0), .inr (9, 0, 0, 1), .inl (.int a2), .inl (.int v2), ab_top, ab_top]) (st' := [.inl (.int (8 : Int32)), .inl (.int (P1.1 i0 2))]) (P1 := P1) rfl ⟨trivial, trivial, trivial, trivial, trivial⟩ ?_
  refine tr_if (fun h19 => ?_) (fun h19 => ?_)
  · refine tr_icT (cd := .lt) h19 ?_
    exact t_294_27 i0 N v2 (a2) P1
  · refine tr_icF (cd := .lt) h19 ?_
    refine tr_blk 4 (pc' := 24) (rows' := kb_294_0.drop 15) (loc' := [.inr (0, 0, 0, i0), .inr (9, 0, 0, 1), .inl (.int a2), .inl (.int v2), ab_top, ab_top]) (st' := [.inl (.int (P1.1 1 4)), .inl (.int (3 : Int32)), .inr (9, 0, 0, 1)]) (P1 := P1) rfl ⟨trivial, trivial, trivial, trivial, trivial⟩ ?_
    refine tr_cWV (z := km_290) (av := [.inr (9, 0, 0, 1), .inl (.int (3 : Int32)), .inl (.int (P1.1 1 4))]) (st' := []) rfl rfl rfl (Nat.le_of_ble_eq_true rfl) ⟨rfl, Or.inl (by decide)⟩ rfl (Nat.le_of_ble_eq_true rfl) (t_290 (3 : Int32) (P1.1 1 4) P1) (fun P3 => ?_)
    exact t_294_27 i0 N v2 (a2) P3
def f_224_7 (i0 : Nat) (N : Nat) : Nat → Int32 → Int32 → ab_P → Option ab_P
  | 0, _, _, _ => none
  | n + 1, x2, x3, P =>
    if (8 : Int32) < x3 then
      some P
    else
    ab_b2 (f_282 N P) fun v3 P2 =>
    if v3 = (0 : Int32) then
      some P2
    else
    Option.bind (f_294 i0 N x2 P2) fun P4 =>
    f_224_7 i0 N n x2 (x3 + 1) P4
theorem t_224_7 {xs : Nat × (Nat → Int32)} {d : Nat} (i0 : Nat) (N : Nat) : ∀ n : Nat, ∀ (x2 : Int32) (x3 : Int32) (P : ab_P), ab_tr xs wV (d + 4) 224 7 [] [.inr (0, 0, 0, i0), .inr (9, 0, 0, 1), .inl (.int x2), .inl (.int x3)] [] P (f_224_7 i0 N n x2 x3 P) := by
  intro n
  induction n with
  | zero => intro x2 x3 P; exact tr_no
  | succ n ih =>
    intro x2 x3 P
    refine tr_nil (rows2 := kb_224_7) rfl (List.cons_ne_nil _ _) ?_
    refine tr_blk 2 (pc' := 10) (rows' := kb_224_7.drop 2) (loc' := [.inr (0, 0, 0, i0), .inr (9, 0, 0, 1), .inl (.int x2), .inl (.int x3)]) (st' := [.inl (.int (8 : Int32)), .inl (.int x3)]) (P1 := P) rfl ⟨trivial, trivial, trivial⟩ ?_
    refine tr_if (fun h5 => ?_) (fun h5 => ?_)
    · refine tr_icT (cd := .gt) h5 ?_
      refine tr_nil (rows2 := kb_224_32) rfl (List.cons_ne_nil _ _) ?_
      exact tr_reV (z := km_224) rfl rfl rfl
    · refine tr_icF (cd := .gt) h5 ?_
      refine tr_blk 1 (pc' := 14) (rows' := kb_224_7.drop 4) (loc' := [.inr (0, 0, 0, i0), .inr (9, 0, 0, 1), .inl (.int x2), .inl (.int x3)]) (st' := [.inr (9, 0, 0, 1)]) (P1 := P) rfl ⟨trivial, trivial⟩ ?_
      refine tr_cWI (z := km_282) (av := [.inr (9, 0, 0, 1)]) (st' := []) rfl rfl rfl (Nat.le_of_ble_eq_true rfl) ⟨rfl, Or.inl (by decide)⟩ rfl (Nat.le_of_ble_eq_true rfl) (t_282 N P) (fun v3 P2 => ?_)
      refine tr_if (fun h6 => ?_) (fun h6 => ?_)
      · refine tr_ifT (cd := .eq) h6 ?_
        refine tr_nil (rows2 := kb_224_32) rfl (List.cons_ne_nil _ _) ?_
        exact tr_reV (z := km_224) rfl rfl rfl
      · refine tr_ifF (cd := .eq) h6 ?_
        refine tr_blk 3 (pc' := 23) (rows' := kb_224_7.drop 9) (loc' := [.inr (0, 0, 0, i0), .inr (9, 0, 0, 1), .inl (.int x2), .inl (.int x3)]) (st' := [.inl (.int x2), .inr (9, 0, 0, 1), .inr (0, 0, 0, i0)]) (P1 := P2) rfl ⟨trivial, trivial, trivial, trivial⟩ ?_
        refine tr_cWV (z := km_294) (av := [.inr (0, 0, 0, i0), .inr (9, 0, 0, 1), .inl (.int x2)]) (st' := []) rfl rfl rfl (Nat.le_of_ble_eq_true rfl) ⟨rfl, Or.inl (by decide)⟩ rfl (Nat.le_of_ble_eq_true rfl) (t_294 i0 N x2 P2) (fun P4 => ?_)
        refine tr_blk 1 (pc' := 29) (rows' := kb_224_7.drop 11) (loc' := [.inr (0, 0, 0, i0), .inr (9, 0, 0, 1), .inl (.int x2), .inl (.int (x3 + 1))]) (st' := []) (P1 := P4) rfl ⟨trivial, trivial⟩ ?_
        refine tr_goto ?_
        exact ih x2 (x3 + 1) P4
def f_224 (i0 : Nat) (N : Nat) (a2 : Int32) (P : ab_P) : Option ab_P :=
    ab_lt (ab_pI P i0 2 (0 : Int32)) fun P1 =>
    f_224_7 i0 N N a2 (0 : Int32) P1
theorem t_224 {xs : Nat × (Nat → Int32)} {d : Nat} (i0 : Nat) (N : Nat) : ∀ (a2 : Int32) (P : ab_P), ab_tr xs wV (d + 4) 224 0 [] [.inr (0, 0, 0, i0), .inr (9, 0, 0, 1), .inl (.int a2), ab_top] [] P (f_224 i0 N a2 P) := by
  intro a2 P
  unfold f_224
  refine tr_nil (rows2 := kb_224_0) rfl (List.cons_ne_nil _ _) ?_
  refine tr_blk 3 (pc' := 5) (rows' := kb_224_0.drop 3) (loc' := [.inr (0, 0, 0, i0), .inr (9, 0, 0, 1), .inl (.int a2), ab_top]) (st' := []) (P1 := (ab_pI P i0 2 (0 : Int32))) rfl ⟨trivial, trivial, trivial, trivial⟩ ?_
  refine tr_lt (fun P1 => ?_)
  refine tr_blk 2 (pc' := 7) (rows' := kb_224_0.drop 5) (loc' := [.inr (0, 0, 0, i0), .inr (9, 0, 0, 1), .inl (.int a2), .inl (.int (0 : Int32))]) (st' := []) (P1 := P1) rfl ⟨trivial, trivial, trivial⟩ ?_
  exact t_224_7 i0 N N a2 (0 : Int32) P1
def f_225 (i0 : Nat) (i1 : Nat) (P : ab_P) : Option ab_P :=
    ab_lt (ab_pC P (i0 + 1) (P.1 (i1 + 1)) 0 0 8) fun P1 =>
    ab_lt (ab_pC P1 (i0 + 2) (P1.1 (i1 + 2)) 0 0 8) fun P2 =>
    ab_lt (ab_pI P2 i0 2 (P2.1 i1 2)) fun P3 =>
    some P3
theorem t_225 {xs : Nat × (Nat → Int32)} {d : Nat} (i0 : Nat) (i1 : Nat) : ∀ (P : ab_P), ab_tr xs wV (d + 0) 225 0 [] [.inr (0, 0, 0, i0), .inr (0, 0, 0, i1)] [] P (f_225 i0 i1 P) := by
  intro P
  unfold f_225
  refine tr_nil (rows2 := kb_225_0) rfl (List.cons_ne_nil _ _) ?_
  refine tr_blk 8 (pc' := 15) (rows' := kb_225_0.drop 8) (loc' := [.inr (0, 0, 0, i0), .inr (0, 0, 0, i1)]) (st' := []) (P1 := (ab_pC P (i0 + 1) (P.1 (i1 + 1)) 0 0 8)) rfl ⟨trivial, trivial, trivial, trivial, trivial, trivial, trivial, (by decide), trivial⟩ ?_
  refine tr_lt (fun P1 => ?_)
  refine tr_blk 8 (pc' := 30) (rows' := kb_225_0.drop 16) (loc' := [.inr (0, 0, 0, i0), .inr (0, 0, 0, i1)]) (st' := []) (P1 := (ab_pC P1 (i0 + 2) (P1.1 (i1 + 2)) 0 0 8)) rfl ⟨trivial, trivial, trivial, trivial, trivial, trivial, trivial, (by decide), trivial⟩ ?_
  refine tr_lt (fun P2 => ?_)
  refine tr_blk 4 (pc' := 38) (rows' := kb_225_0.drop 20) (loc' := [.inr (0, 0, 0, i0), .inr (0, 0, 0, i1)]) (st' := []) (P1 := (ab_pI P2 i0 2 (P2.1 i1 2))) rfl ⟨trivial, trivial, trivial, trivial, trivial⟩ ?_
  refine tr_lt (fun P3 => ?_)
  exact tr_reV (z := km_225) rfl rfl rfl
def f_125 (N : Nat) (a1 : Int32) (P : ab_P) : Option ((Int32 ⊕ Fin 3) × ab_P) :=
    ab_x2 (f_198 a1 (150 : Int32) P) (fun _ P1 =>
    Option.bind (f_199 a1 P1) fun P2 =>
    Option.bind (f_224 32 N (P2.1 3 5) P2) fun P3 =>
    Option.bind (f_201 P3) fun v4 =>
    if v4 = (0 : Int32) then
      Option.bind (f_225 21 32 P3) fun P5 =>
      some (.inl (P5.1 21 2), P5)
    else
    some (.inl ((P3.1 1 5) - (10 : Int32)), P3)) (fun q => q)
theorem t_125 {xs : Nat × (Nat → Int32)} {d : Nat} (N : Nat) : ∀ (a1 : Int32) (P : ab_P), ab_tr xs xI (d + 5) 125 0 [] [.inr (11, 0, 0, 0), .inl (.int a1)] [] P (f_125 N a1 P) := by
  intro a1 P
  unfold f_125
  refine tr_nil (rows2 := kb_125_0) rfl (List.cons_ne_nil _ _) ?_
  refine tr_blk 3 (pc' := 5) (rows' := kb_125_0.drop 3) (loc' := [.inr (11, 0, 0, 0), .inl (.int a1)]) (st' := [.inl (.int (150 : Int32)), .inl (.int a1), .inr (11, 0, 0, 0)]) (P1 := P) rfl ⟨trivial, trivial, trivial, trivial⟩ ?_
  refine tr_cax (fun _ => none) (zi := km_125) (fun _ => rfl) (fun _ _ => rfl) rfl rfl (z := km_198) (av := [.inr (11, 0, 0, 0), .inl (.int a1), .inl (.int (150 : Int32))]) (st' := []) rfl rfl rfl (Nat.le_of_ble_eq_true rfl) ⟨rfl, Or.inl (by decide)⟩ rfl (Nat.le_of_ble_eq_true rfl) (t_198 a1 (150 : Int32) P) (fun _ P1 => ?_)
  refine tr_blk 3 (pc' := 13) (rows' := kb_125_0.drop 7) (loc' := [.inr (11, 0, 0, 0), .inl (.int a1)]) (st' := [.inl (.int a1), .inr (9, 0, 0, 1)]) (P1 := P1) rfl ⟨trivial, trivial, trivial, trivial⟩ ?_
  refine tr_cWV (z := km_199) (av := [.inr (9, 0, 0, 1), .inl (.int a1)]) (st' := []) rfl rfl rfl (Nat.le_of_ble_eq_true rfl) ⟨rfl, Or.inl (by decide)⟩ rfl (Nat.le_of_ble_eq_true rfl) (t_199 a1 P1) (fun P2 => ?_)
  refine tr_blk 7 (pc' := 31) (rows' := kb_125_0.drop 15) (loc' := [.inr (11, 0, 0, 0), .inl (.int a1)]) (st' := [.inl (.int (P2.1 3 5)), .inr (9, 0, 0, 1), .inr (0, 0, 0, 32)]) (P1 := P2) rfl ⟨trivial, trivial, trivial, trivial, trivial, trivial, trivial, trivial⟩ ?_
  refine tr_cWV (z := km_224) (av := [.inr (0, 0, 0, 32), .inr (9, 0, 0, 1), .inl (.int (P2.1 3 5))]) (st' := []) rfl rfl rfl (Nat.le_of_ble_eq_true rfl) ⟨rfl, Or.inl (by decide)⟩ rfl (Nat.le_of_ble_eq_true rfl) (t_224 32 N (P2.1 3 5) P2) (fun P3 => ?_)
  refine tr_blk 2 (pc' := 38) (rows' := kb_125_0.drop 18) (loc' := [.inr (11, 0, 0, 0), .inl (.int a1)]) (st' := [.inr (9, 0, 0, 1)]) (P1 := P3) rfl ⟨trivial, trivial, trivial⟩ ?_
  refine tr_cRI (z := km_201) (av := [.inr (9, 0, 0, 1)]) (st' := []) rfl rfl rfl (Nat.le_of_ble_eq_true rfl) ⟨rfl, Or.inl (by decide)⟩ rfl (Nat.le_of_ble_eq_true rfl) (t_201 P3) (fun v4 => ?_)
  refine tr_if (fun h6 => ?_) (fun h6 => ?_)
  · refine tr_ifT (cd := .eq) h6 ?_
    refine tr_nil (rows2 := kb_125_55) rfl (List.cons_ne_nil _ _) ?_
    refine tr_blk 4 (pc' := 63) (rows' := kb_125_55.drop 4) (loc' := [.inr (11, 0, 0, 0), .inl (.int a1)]) (st' := [.inr (0, 0, 0, 32), .inr (0, 0, 0, 21)]) (P1 := P3) rfl ⟨trivial, trivial, trivial, trivial, trivial⟩ ?_
    refine tr_cWV (z := km_225) (av := [.inr (0, 0, 0, 21), .inr (0, 0, 0, 32)]) (st' := []) rfl rfl rfl (Nat.le_of_ble_eq_true rfl) ⟨rfl, Or.inl (by decide)⟩ rfl (Nat.le_of_ble_eq_true rfl) (t_225 21 32 P3) (fun P5 => ?_)
    refine tr_blk 3 (pc' := 73) (rows' := kb_125_55.drop 8) (loc' := [.inr (11, 0, 0, 0), .inl (.int a1)]) (st' := [.inl (.int (P5.1 21 2))]) (P1 := P5) rfl ⟨trivial, trivial, trivial, trivial⟩ ?_
    exact tr_reI (z := km_125) rfl ⟨_, rfl, rfl⟩ rfl
  · refine tr_ifF (cd := .eq) h6 ?_
    refine tr_blk 5 (pc' := 54) (rows' := kb_125_0.drop 25) (loc' := [.inr (11, 0, 0, 0), .inl (.int a1)]) (st' := [.inl (.int ((P3.1 1 5) - (10 : Int32)))]) (P1 := P3) rfl ⟨trivial, trivial, trivial, trivial, trivial, trivial⟩ ?_
    exact tr_reI (z := km_125) rfl ⟨_, rfl, rfl⟩ rfl
def f_12_1 (N : Nat) (a1 : Int32) (P : ab_P) : Option (Int32 × ab_P) :=
    ab_h2 (f_125 N a1 P) (fun v2 P1 =>
    ab_lt (ab_pL P1 570 0 (v2).toInt64) fun P3 =>
    some ((0 : Int32), P3))
    (fun _ => none) (fun P9 => some ((1 : Int32), P9)) (fun _ => none)
theorem t_12_1 {xs : Nat × (Nat → Int32)} {d : Nat} (N : Nat) : ∀ (a1 : Int32) (P : ab_P), ab_tr xs wI (d + 6) 12 0 [] [.inr (11, 0, 0, 0), .inl (.int a1), .inr (22, 1, 0, 570), ab_top] [] P (f_12_1 N a1 P) := by
  intro a1 P
  unfold f_12_1
  refine tr_nil (rows2 := kb_12_0) rfl (List.cons_ne_nil _ _) ?_
  refine tr_blk 4 (pc' := 4) (rows' := kb_12_0.drop 4) (loc' := [.inr (11, 0, 0, 0), .inl (.int a1), .inr (22, 1, 0, 570), ab_top]) (st' := [.inl (.int a1), .inr (11, 0, 0, 0), .inl (.int (0 : Int32)), .inr (22, 1, 0, 570)]) (P1 := P) rfl ⟨trivial, trivial, trivial, trivial, trivial⟩ ?_
  refine tr_cah (fun b => some (.inl (.int b))) (zi := km_12) (fun _ => rfl) rfl (z := km_125) (av := [.inr (11, 0, 0, 0), .inl (.int a1)]) (st' := [.inl (.int (0 : Int32)), .inr (22, 1, 0, 570)]) rfl rfl rfl (Nat.le_of_ble_eq_true rfl) ⟨rfl, Or.inl (by decide)⟩ rfl (Nat.le_of_ble_eq_true rfl) (t_125 N a1 P) (fun v2 P1 => ?_) ?_ ?_ ?_
  · refine tr_blk 2 (pc' := 9) (rows' := kb_12_0.drop 7) (loc' := [.inr (11, 0, 0, 0), .inl (.int a1), .inr (22, 1, 0, 570), ab_top]) (st' := []) (P1 := (ab_pL P1 570 0 (v2).toInt64)) rfl ⟨trivial, (ab_vi (by decide)), trivial⟩ ?_
    refine tr_lt (fun P3 => ?_)
    refine tr_goto ?_
    refine tr_nil (rows2 := kb_12_15) rfl (List.cons_ne_nil _ _) ?_
    refine tr_blk 1 (pc' := 16) (rows' := kb_12_15.drop 1) (loc' := [.inr (11, 0, 0, 0), .inl (.int a1), .inr (22, 1, 0, 570), ab_top]) (st' := [.inl (.int (0 : Int32))]) (P1 := P3) rfl ⟨trivial, trivial⟩ ?_
    exact tr_reI (z := km_12) rfl ⟨_, rfl, rfl⟩ rfl
  · exact fun _ => rfl
  · exact fun _ => tr_han (rows2 := kb_12_12) (z := km_12) _ (fun q => [.inr (11, 0, 0, 0), .inl (.int a1), .inr (22, 1, 0, 570), .inr (40, 1, 0, q)]) rfl (List.cons_ne_nil _ _) (fun q => rfl) ⟨trivial, trivial, trivial⟩ rfl ⟨_, rfl, rfl⟩ rfl
  · exact fun _ => rfl
def f_13_95 (N : Nat) (H47 : Int32 → ab_P → Option (Int32 × ab_P)) (x2 : Int32) (x4 : Int32) (P : ab_P) : Option (Int32 × ab_P) :=
    ab_b2 (f_127 N (45 : Int32) P) fun v14 P13 =>
    ab_b2 (f_128 N (0 : Int32) (9999 : Int32) P13) fun v16 P15 =>
    Option.bind (f_129 N (59 : Int32) P15) fun P17 =>
    if (P17.1 72 5) = (0 : Int32) then
      if ab_gi x2 8 then
      ab_lt (ab_pI P17 (435 + 1 + x2.toNatClampNeg) 0 x4) fun P20 =>
      if ab_gi x2 8 then
      if v14 = (0 : Int32) then
        ab_lt (ab_pI P20 (435 + 1 + x2.toNatClampNeg) 1 v16) fun P22 =>
        Option.bind (f_116 N P22) fun P23 =>
        H47 (x2 + 1) P23
      else
      ab_lt (ab_pI P20 (435 + 1 + x2.toNatClampNeg) 1 (-v16)) fun P24 =>
      Option.bind (f_116 N P24) fun P25 =>
      H47 (x2 + 1) P25
      else none
      else none
    else
    Option.bind (f_116 N P17) fun P18 =>
    H47 x2 P18
theorem t_13_95 {xs : Nat × (Nat → Int32)} {d : Nat} (N : Nat) (H47 : Int32 → ab_P → Option (Int32 × ab_P)) (hH47 : ∀ (x2 : Int32) (d1 : Int32) (d3 : ab_V) (d4 : ab_V) (d5 : ab_V) (d6 : ab_V) (P : ab_P), ab_tr xs wI (d + 4) 13 47 [] [.inr (12, 0, 0, 72), .inl (.int d1), .inl (.int x2), d3, d4, d5, d6] [] P (H47 x2 P)) : ∀ (x2 : Int32) (x4 : Int32) (d1 : Int32) (d3 : Int32) (d5 : ab_V) (d6 : ab_V) (P : ab_P), ab_tr xs wI (d + 4) 13 95 [] [.inr (12, 0, 0, 72), .inl (.int d1), .inl (.int x2), .inl (.int d3), .inl (.int x4), d5, d6] [] P (f_13_95 N H47 x2 x4 P) := by
  intro x2 x4 d1 d3 d5 d6 P
  unfold f_13_95
  refine tr_nil (rows2 := kb_13_95) rfl (List.cons_ne_nil _ _) ?_
  refine tr_blk 2 (pc' := 98) (rows' := kb_13_95.drop 2) (loc' := [.inr (12, 0, 0, 72), .inl (.int d1), .inl (.int x2), .inl (.int d3), .inl (.int x4), d5, d6]) (st' := [.inl (.int (45 : Int32)), .inr (12, 0, 0, 72)]) (P1 := P) rfl ⟨trivial, trivial, trivial⟩ ?_
  refine tr_cWI (z := km_127) (av := [.inr (12, 0, 0, 72), .inl (.int (45 : Int32))]) (st' := []) rfl rfl rfl (Nat.le_of_ble_eq_true rfl) ⟨rfl, Or.inl (by decide)⟩ rfl (Nat.le_of_ble_eq_true rfl) (t_127 N (45 : Int32) P) (fun v14 P13 => ?_)
  refine tr_blk 4 (pc' := 108) (rows' := kb_13_95.drop 7) (loc' := [.inr (12, 0, 0, 72), .inl (.int d1), .inl (.int x2), .inl (.int d3), .inl (.int x4), .inl (.int v14), d6]) (st' := [.inl (.int (9999 : Int32)), .inl (.int (0 : Int32)), .inr (12, 0, 0, 72)]) (P1 := P13) rfl ⟨trivial, trivial, trivial, trivial, trivial⟩ ?_
  refine tr_cWI (z := km_128) (av := [.inr (12, 0, 0, 72), .inl (.int (0 : Int32)), .inl (.int (9999 : Int32))]) (st' := []) rfl rfl rfl (Nat.le_of_ble_eq_true rfl) ⟨rfl, Or.inl (by decide)⟩ rfl (Nat.le_of_ble_eq_true rfl) (t_128 N (0 : Int32) (9999 : Int32) P13) (fun v16 P15 => ?_)
  refine tr_blk 3 (pc' := 116) (rows' := kb_13_95.drop 11) (loc' := [.inr (12, 0, 0, 72), .inl (.int d1), .inl (.int x2), .inl (.int d3), .inl (.int x4), .inl (.int v14), .inl (.int v16)]) (st' := [.inl (.int (59 : Int32)), .inr (12, 0, 0, 72)]) (P1 := P15) rfl ⟨trivial, trivial, trivial, trivial⟩ ?_
  refine tr_cWV (z := km_129) (av := [.inr (12, 0, 0, 72), .inl (.int (59 : Int32))]) (st' := []) rfl rfl rfl (Nat.le_of_ble_eq_true rfl) ⟨rfl, Or.inl (by decide)⟩ rfl (Nat.le_of_ble_eq_true rfl) (t_129 N (59 : Int32) P15) (fun P17 => ?_)
  refine tr_blk 2 (pc' := 123) (rows' := kb_13_95.drop 14) (loc' := [.inr (12, 0, 0, 72), .inl (.int d1), .inl (.int x2), .inl (.int d3), .inl (.int x4), .inl (.int v14), .inl (.int v16)]) (st' := [.inl (.int (P17.1 72 5))]) (P1 := P17) rfl ⟨trivial, trivial, trivial⟩ ?_
  refine tr_if (fun h31 => ?_) (fun h31 => ?_)
  · refine tr_ifF (cd := .ne) (fun q => q h31) ?_
    refine tr_gd (fun h19 => ?_)
    refine tr_blk 7 (pc' := 136) (rows' := kb_13_95.drop 22) (loc' := [.inr (12, 0, 0, 72), .inl (.int d1), .inl (.int x2), .inl (.int d3), .inl (.int x4), .inl (.int v14), .inl (.int v16)]) (st' := []) (P1 := (ab_pI P17 (435 + 1 + x2.toNatClampNeg) 0 x4)) rfl ⟨trivial, trivial, trivial, ⟨h19, ab_grl h19⟩, trivial, trivial, (ab_vi (by decide)), trivial⟩ ?_
    refine tr_lt (fun P20 => ?_)
    refine tr_gd (fun h21 => ?_)
    refine tr_blk 6 (pc' := 145) (rows' := kb_13_95.drop 28) (loc' := [.inr (12, 0, 0, 72), .inl (.int d1), .inl (.int x2), .inl (.int d3), .inl (.int x4), .inl (.int v14), .inl (.int v16)]) (st' := [.inl (.int v14), .inl (.int (1 : Int32)), .inr (20, 2, 0, (435 + 1 + x2.toNatClampNeg))]) (P1 := P20) rfl ⟨trivial, trivial, trivial, ⟨h21, ab_grl h21⟩, trivial, trivial, trivial⟩ ?_
    refine tr_if (fun h32 => ?_) (fun h32 => ?_)
    · refine tr_ifT (cd := .eq) h32 ?_
      refine tr_nil (rows2 := kb_13_154) rfl (List.cons_ne_nil _ _) ?_
      refine tr_blk 1 (pc' := 156) (rows' := kb_13_154.drop 1) (loc' := [.inr (12, 0, 0, 72), .inl (.int d1), .inl (.int x2), .inl (.int d3), .inl (.int x4), .inl (.int v14), .inl (.int v16)]) (st' := [.inl (.int v16), .inl (.int (1 : Int32)), .inr (20, 2, 0, (435 + 1 + x2.toNatClampNeg))]) (P1 := P20) rfl ⟨trivial, trivial⟩ ?_
      refine tr_nil (rows2 := kb_13_156) rfl (List.cons_ne_nil _ _) ?_
      refine tr_blk 1 (pc' := 157) (rows' := kb_13_156.drop 1) (loc' := [.inr (12, 0, 0, 72), .inl (.int d1), .inl (.int x2), .inl (.int d3), .inl (.int x4), .inl (.int v14), .inl (.int v16)]) (st' := []) (P1 := (ab_pI P20 (435 + 1 + x2.toNatClampNeg) 1 v16)) rfl ⟨(ab_vi (by decide)), trivial⟩ ?_
      refine tr_lt (fun P22 => ?_)
      refine tr_blk 1 (pc' := 160) (rows' := kb_13_156.drop 2) (loc' := [.inr (12, 0, 0, 72), .inl (.int d1), .inl (.int (x2 + 1)), .inl (.int d3), .inl (.int x4), .inl (.int v14), .inl (.int v16)]) (st' := []) (P1 := P22) rfl ⟨trivial, trivial⟩ ?_
      refine tr_nil (rows2 := kb_13_160) rfl (List.cons_ne_nil _ _) ?_
      refine tr_blk 1 (pc' := 161) (rows' := kb_13_160.drop 1) (loc' := [.inr (12, 0, 0, 72), .inl (.int d1), .inl (.int (x2 + 1)), .inl (.int d3), .inl (.int x4), .inl (.int v14), .inl (.int v16)]) (st' := [.inr (12, 0, 0, 72)]) (P1 := P22) rfl ⟨trivial, trivial⟩ ?_
      refine tr_cWV (z := km_116) (av := [.inr (12, 0, 0, 72)]) (st' := []) rfl rfl rfl (Nat.le_of_ble_eq_true rfl) ⟨rfl, Or.inl (by decide)⟩ rfl (Nat.le_of_ble_eq_true rfl) (t_116 N P22) (fun P23 => ?_)
      refine tr_goto ?_
      exact hH47 (x2 + 1) (d1) (.inl (.int d3)) (.inl (.int x4)) (.inl (.int v14)) (.inl (.int v16)) P23
    · refine tr_ifF (cd := .eq) h32 ?_
      refine tr_blk 2 (pc' := 151) (rows' := kb_13_95.drop 31) (loc' := [.inr (12, 0, 0, 72), .inl (.int d1), .inl (.int x2), .inl (.int d3), .inl (.int x4), .inl (.int v14), .inl (.int v16)]) (st' := [.inl (.int (-v16)), .inl (.int (1 : Int32)), .inr (20, 2, 0, (435 + 1 + x2.toNatClampNeg))]) (P1 := P20) rfl ⟨trivial, trivial, trivial⟩ ?_
      refine tr_goto ?_
      refine tr_nil (rows2 := kb_13_156) rfl (List.cons_ne_nil _ _) ?_
      refine tr_blk 1 (pc' := 157) (rows' := kb_13_156.drop 1) (loc' := [.inr (12, 0, 0, 72), .inl (.int d1), .inl (.int x2), .inl (.int d3), .inl (.int x4), .inl (.int v14), .inl (.int v16)]) (st' := []) (P1 := (ab_pI P20 (435 + 1 + x2.toNatClampNeg) 1 (-v16))) rfl ⟨(ab_vi (by decide)), trivial⟩ ?_
      refine tr_lt (fun P24 => ?_)
      refine tr_blk 1 (pc' := 160) (rows' := kb_13_156.drop 2) (loc' := [.inr (12, 0, 0, 72), .inl (.int d1), .inl (.int (x2 + 1)), .inl (.int d3), .inl (.int x4), .inl (.int v14), .inl (.int v16)]) (st' := []) (P1 := P24) rfl ⟨trivial, trivial⟩ ?_
      refine tr_nil (rows2 := kb_13_160) rfl (List.cons_ne_nil _ _) ?_
      refine tr_blk 1 (pc' := 161) (rows' := kb_13_160.drop 1) (loc' := [.inr (12, 0, 0, 72), .inl (.int d1), .inl (.int (x2 + 1)), .inl (.int d3), .inl (.int x4), .inl (.int v14), .inl (.int v16)]) (st' := [.inr (12, 0, 0, 72)]) (P1 := P24) rfl ⟨trivial, trivial⟩ ?_
      refine tr_cWV (z := km_116) (av := [.inr (12, 0, 0, 72)]) (st' := []) rfl rfl rfl (Nat.le_of_ble_eq_true rfl) ⟨rfl, Or.inl (by decide)⟩ rfl (Nat.le_of_ble_eq_true rfl) (t_116 N P24) (fun P25 => ?_)
      refine tr_goto ?_
      exact hH47 (x2 + 1) (d1) (.inl (.int d3)) (.inl (.int x4)) (.inl (.int v14)) (.inl (.int v16)) P25
  · refine tr_ifT (cd := .ne) h31 ?_
    refine tr_nil (rows2 := kb_13_160) rfl (List.cons_ne_nil _ _) ?_
    refine tr_blk 1 (pc' := 161) (rows' := kb_13_160.drop 1) (loc' := [.inr (12, 0, 0, 72), .inl (.int d1), .inl (.int x2), .inl (.int d3), .inl (.int x4), .inl (.int v14), .inl (.int v16)]) (st' := [.inr (12, 0, 0, 72)]) (P1 := P17) rfl ⟨trivial, trivial⟩ ?_
    refine tr_cWV (z := km_116) (av := [.inr (12, 0, 0, 72)]) (st' := []) rfl rfl rfl (Nat.le_of_ble_eq_true rfl) ⟨rfl, Or.inl (by decide)⟩ rfl (Nat.le_of_ble_eq_true rfl) (t_116 N P17) (fun P18 => ?_)
    refine tr_goto ?_
    exact hH47 x2 (d1) (.inl (.int d3)) (.inl (.int x4)) (.inl (.int v14)) (.inl (.int v16)) P18
def f_13_199 (H191 : Int32 → Int32 → ab_P → Option (Int32 × ab_P)) : Nat → Int32 → Int32 → Int32 → ab_P → Option (Int32 × ab_P)
  | 0, _, _, _, _ => none
  | n + 1, x2, x3, x4, P =>
    if x4 < (2 : Int32) then
      if ab_gi x3 8 then
      if ab_gi x3 8 then
      if ab_gi x4 2 then
      if ab_gi x4 2 then
      ab_lt (ab_pI P (426 + 1 + x3.toNatClampNeg) x4.toNatClampNeg (P.1 (435 + 1 + x3.toNatClampNeg) x4.toNatClampNeg)) fun P30 =>
      f_13_199 H191 n x2 x3 (x4 + 1) P30
      else none
      else none
      else none
      else none
    else
    H191 x2 (x3 + 1) P
theorem t_13_199 {xs : Nat × (Nat → Int32)} {d : Nat} (H191 : Int32 → Int32 → ab_P → Option (Int32 × ab_P)) (hH191 : ∀ (x2 : Int32) (x3 : Int32) (d1 : Int32) (d4 : ab_V) (d5 : ab_V) (d6 : ab_V) (P : ab_P), ab_tr xs wI (d + 4) 13 191 [] [.inr (12, 0, 0, 72), .inl (.int d1), .inl (.int x2), .inl (.int x3), d4, d5, d6] [] P (H191 x2 x3 P)) : ∀ n : Nat, ∀ (x2 : Int32) (x3 : Int32) (x4 : Int32) (d1 : Int32) (d5 : ab_V) (d6 : ab_V) (P : ab_P), ab_tr xs wI (d + 4) 13 199 [] [.inr (12, 0, 0, 72), .inl (.int d1), .inl (.int x2), .inl (.int x3), .inl (.int x4), d5, d6] [] P (f_13_199 H191 n x2 x3 x4 P) := by
  intro n
  induction n with
  | zero => intro x2 x3 x4 d1 d5 d6 P; exact tr_no
  | succ n ih =>
    intro x2 x3 x4 d1 d5 d6 P
    refine tr_nil (rows2 := kb_13_199) rfl (List.cons_ne_nil _ _) ?_
    refine tr_blk 2 (pc' := 202) (rows' := kb_13_199.drop 2) (loc' := [.inr (12, 0, 0, 72), .inl (.int d1), .inl (.int x2), .inl (.int x3), .inl (.int x4), d5, d6]) (st' := [.inl (.int (2 : Int32)), .inl (.int x4)]) (P1 := P) rfl ⟨trivial, trivial, trivial⟩ ?_
    refine tr_if (fun h33 => ?_) (fun h33 => ?_)
    · refine tr_icF (cd := .ge) (Int32.not_le.mpr h33) ?_
      refine tr_gd (fun h26 => ?_)
      refine tr_gd (fun h27 => ?_)
      refine tr_gd (fun h28 => ?_)
      refine tr_gd (fun h29 => ?_)
      refine tr_blk 12 (pc' := 223) (rows' := kb_13_199.drop 15) (loc' := [.inr (12, 0, 0, 72), .inl (.int d1), .inl (.int x2), .inl (.int x3), .inl (.int x4), d5, d6]) (st' := []) (P1 := (ab_pI P (426 + 1 + x3.toNatClampNeg) x4.toNatClampNeg (P.1 (435 + 1 + x3.toNatClampNeg) x4.toNatClampNeg))) rfl ⟨trivial, trivial, trivial, ⟨h26, ab_grl h26⟩, trivial, trivial, trivial, trivial, ⟨h27, ab_grl h27⟩, trivial, h28, h29, trivial⟩ ?_
      refine tr_lt (fun P30 => ?_)
      refine tr_blk 1 (pc' := 226) (rows' := kb_13_199.drop 16) (loc' := [.inr (12, 0, 0, 72), .inl (.int d1), .inl (.int x2), .inl (.int x3), .inl (.int (x4 + 1)), d5, d6]) (st' := []) (P1 := P30) rfl ⟨trivial, trivial⟩ ?_
      refine tr_goto ?_
      exact ih x2 x3 (x4 + 1) (d1) (d5) (d6) P30
    · refine tr_icT (cd := .ge) (Int32.not_lt.mp h33) ?_
      refine tr_nil (rows2 := kb_13_229) rfl (List.cons_ne_nil _ _) ?_
      refine tr_blk 1 (pc' := 232) (rows' := kb_13_229.drop 1) (loc' := [.inr (12, 0, 0, 72), .inl (.int d1), .inl (.int x2), .inl (.int (x3 + 1)), .inl (.int x4), d5, d6]) (st' := []) (P1 := P) rfl ⟨trivial, trivial⟩ ?_
      refine tr_goto ?_
      exact hH191 x2 (x3 + 1) (d1) (.inl (.int x4)) (d5) (d6) P
def f_13_191 (N : Nat) : Nat → Int32 → Int32 → ab_P → Option (Int32 × ab_P)
  | 0, _, _, _ => none
  | n + 1, x2, x3, P =>
    if x3 < x2 then
      f_13_199 (fun y0 y1 y2 => f_13_191 N n y0 y1 y2) N x2 x3 (0 : Int32) P
    else
    some (x2, P)
theorem t_13_191 {xs : Nat × (Nat → Int32)} {d : Nat} (N : Nat) : ∀ n : Nat, ∀ (x2 : Int32) (x3 : Int32) (d1 : Int32) (d4 : ab_V) (d5 : ab_V) (d6 : ab_V) (P : ab_P), ab_tr xs wI (d + 4) 13 191 [] [.inr (12, 0, 0, 72), .inl (.int d1), .inl (.int x2), .inl (.int x3), d4, d5, d6] [] P (f_13_191 N n x2 x3 P) := by
  intro n
  induction n with
  | zero => intro x2 x3 d1 d4 d5 d6 P; exact tr_no
  | succ n ih =>
    intro x2 x3 d1 d4 d5 d6 P
    refine tr_nil (rows2 := kb_13_191) rfl (List.cons_ne_nil _ _) ?_
    refine tr_blk 2 (pc' := 193) (rows' := kb_13_191.drop 2) (loc' := [.inr (12, 0, 0, 72), .inl (.int d1), .inl (.int x2), .inl (.int x3), d4, d5, d6]) (st' := [.inl (.int x2), .inl (.int x3)]) (P1 := P) rfl ⟨trivial, trivial, trivial⟩ ?_
    refine tr_if (fun h34 => ?_) (fun h34 => ?_)
    · refine tr_icF (cd := .ge) (Int32.not_le.mpr h34) ?_
      refine tr_blk 2 (pc' := 199) (rows' := kb_13_191.drop 5) (loc' := [.inr (12, 0, 0, 72), .inl (.int d1), .inl (.int x2), .inl (.int x3), .inl (.int (0 : Int32)), d5, d6]) (st' := []) (P1 := P) rfl ⟨trivial, trivial, trivial⟩ ?_
      exact t_13_199 _ ih N x2 x3 (0 : Int32) (d1) (d5) (d6) P
    · refine tr_icT (cd := .ge) (Int32.not_lt.mp h34) ?_
      refine tr_nil (rows2 := kb_13_235) rfl (List.cons_ne_nil _ _) ?_
      refine tr_blk 1 (pc' := 236) (rows' := kb_13_235.drop 1) (loc' := [.inr (12, 0, 0, 72), .inl (.int d1), .inl (.int x2), .inl (.int x3), d4, d5, d6]) (st' := [.inl (.int x2)]) (P1 := P) rfl ⟨trivial, trivial⟩ ?_
      exact tr_reI (z := km_13) rfl ⟨_, rfl, rfl⟩ rfl
def f_13_167 (N : Nat) (x2 : Int32) (P : ab_P) : Option (Int32 × ab_P) :=
    if (P.1 72 5) = (0 : Int32) then
      ab_lt (ab_pI P 72 3 (-1 : Int32)) fun P9 =>
      ab_lt (ab_pI P9 72 29 x2) fun P10 =>
      f_13_191 N N x2 (0 : Int32) P10
    else
    ab_b2 (f_117 P) fun v12 P11 =>
    some (v12, P11)
theorem t_13_167 {xs : Nat × (Nat → Int32)} {d : Nat} (N : Nat) : ∀ (x2 : Int32) (d1 : Int32) (d3 : ab_V) (d4 : ab_V) (d5 : ab_V) (d6 : ab_V) (P : ab_P), ab_tr xs wI (d + 4) 13 167 [] [.inr (12, 0, 0, 72), .inl (.int d1), .inl (.int x2), d3, d4, d5, d6] [] P (f_13_167 N x2 P) := by
  intro x2 d1 d3 d4 d5 d6 P
  unfold f_13_167
  refine tr_nil (rows2 := kb_13_167) rfl (List.cons_ne_nil _ _) ?_
  refine tr_blk 2 (pc' := 171) (rows' := kb_13_167.drop 2) (loc' := [.inr (12, 0, 0, 72), .inl (.int d1), .inl (.int x2), d3, d4, d5, d6]) (st' := [.inl (.int (P.1 72 5))]) (P1 := P) rfl ⟨trivial, trivial, trivial⟩ ?_
  refine tr_if (fun h35 => ?_) (fun h35 => ?_)
  · refine tr_ifT (cd := .eq) h35 ?_
    refine tr_nil (rows2 := kb_13_179) rfl (List.cons_ne_nil _ _) ?_
    refine tr_blk 3 (pc' := 184) (rows' := kb_13_179.drop 3) (loc' := [.inr (12, 0, 0, 72), .inl (.int d1), .inl (.int x2), d3, d4, d5, d6]) (st' := []) (P1 := (ab_pI P 72 3 (-1 : Int32))) rfl ⟨trivial, trivial, trivial, trivial⟩ ?_
    refine tr_lt (fun P9 => ?_)
    refine tr_blk 3 (pc' := 189) (rows' := kb_13_179.drop 6) (loc' := [.inr (12, 0, 0, 72), .inl (.int d1), .inl (.int x2), d3, d4, d5, d6]) (st' := []) (P1 := (ab_pI P9 72 29 x2)) rfl ⟨trivial, trivial, trivial, trivial⟩ ?_
    refine tr_lt (fun P10 => ?_)
    refine tr_blk 2 (pc' := 191) (rows' := kb_13_179.drop 8) (loc' := [.inr (12, 0, 0, 72), .inl (.int d1), .inl (.int x2), .inl (.int (0 : Int32)), d4, d5, d6]) (st' := []) (P1 := P10) rfl ⟨trivial, trivial, trivial⟩ ?_
    exact t_13_191 N N x2 (0 : Int32) (d1) (d4) (d5) (d6) P10
  · refine tr_ifF (cd := .eq) h35 ?_
    refine tr_blk 1 (pc' := 175) (rows' := kb_13_167.drop 4) (loc' := [.inr (12, 0, 0, 72), .inl (.int d1), .inl (.int x2), d3, d4, d5, d6]) (st' := [.inr (12, 0, 0, 72)]) (P1 := P) rfl ⟨trivial, trivial⟩ ?_
    refine tr_cWI (z := km_117) (av := [.inr (12, 0, 0, 72)]) (st' := []) rfl rfl rfl (Nat.le_of_ble_eq_true rfl) ⟨rfl, Or.inl (by decide)⟩ rfl (Nat.le_of_ble_eq_true rfl) (t_117 P) (fun v12 P11 => ?_)
    exact tr_reI (z := km_13) rfl ⟨_, rfl, rfl⟩ rfl
def f_13_47 (N : Nat) : Nat → Int32 → ab_P → Option (Int32 × ab_P)
  | 0, _, _ => none
  | n + 1, x2, P =>
    if (P.1 72 5) = (0 : Int32) then
      if (P.1 72 4) < (P.1 72 2) then
        ab_b2 (f_126 N P) fun v7 P6 =>
        if (P6.1 72 5) = (0 : Int32) then
          if x2 = (8 : Int32) then
            Option.bind (f_120 (3 : Int32) (P.1 72 4) P6) fun P8 =>
            f_13_95 N (fun y0 y1 => f_13_47 N n y0 y1) x2 v7 P8
          else
          f_13_95 N (fun y0 y1 => f_13_47 N n y0 y1) x2 v7 P6
        else
        f_13_95 N (fun y0 y1 => f_13_47 N n y0 y1) x2 v7 P6
      else
      f_13_167 N x2 P
    else
    f_13_167 N x2 P
theorem t_13_47 {xs : Nat × (Nat → Int32)} {d : Nat} (N : Nat) : ∀ n : Nat, ∀ (x2 : Int32) (d1 : Int32) (d3 : ab_V) (d4 : ab_V) (d5 : ab_V) (d6 : ab_V) (P : ab_P), ab_tr xs wI (d + 4) 13 47 [] [.inr (12, 0, 0, 72), .inl (.int d1), .inl (.int x2), d3, d4, d5, d6] [] P (f_13_47 N n x2 P) := by
  intro n
  induction n with
  | zero => intro x2 d1 d3 d4 d5 d6 P; exact tr_no
  | succ n ih =>
    intro x2 d1 d3 d4 d5 d6 P
    refine tr_nil (rows2 := kb_13_47) rfl (List.cons_ne_nil _ _) ?_
    refine tr_blk 2 (pc' := 51) (rows' := kb_13_47.drop 2) (loc' := [.inr (12, 0, 0, 72), .inl (.int d1), .inl (.int x2), d3, d4, d5, d6]) (st' := [.inl (.int (P.1 72 5))]) (P1 := P) rfl ⟨trivial, trivial, trivial⟩ ?_
    refine tr_if (fun h36 => ?_) (fun h36 => ?_)
    · refine tr_ifF (cd := .ne) (fun q => q h36) ?_
      refine tr_blk 4 (pc' := 62) (rows' := kb_13_47.drop 7) (loc' := [.inr (12, 0, 0, 72), .inl (.int d1), .inl (.int x2), d3, d4, d5, d6]) (st' := [.inl (.int (P.1 72 2)), .inl (.int (P.1 72 4))]) (P1 := P) rfl ⟨trivial, trivial, trivial, trivial, trivial⟩ ?_
      refine tr_if (fun h37 => ?_) (fun h37 => ?_)
      · refine tr_icF (cd := .ge) (Int32.not_le.mpr h37) ?_
        refine tr_blk 4 (pc' := 71) (rows' := kb_13_47.drop 12) (loc' := [.inr (12, 0, 0, 72), .inl (.int d1), .inl (.int x2), .inl (.int (P.1 72 4)), d4, d5, d6]) (st' := [.inr (12, 0, 0, 72)]) (P1 := P) rfl ⟨trivial, trivial, trivial, trivial, trivial⟩ ?_
        refine tr_cWI (z := km_126) (av := [.inr (12, 0, 0, 72)]) (st' := []) rfl rfl rfl (Nat.le_of_ble_eq_true rfl) ⟨rfl, Or.inl (by decide)⟩ rfl (Nat.le_of_ble_eq_true rfl) (t_126 N P) (fun v7 P6 => ?_)
        refine tr_blk 3 (pc' := 80) (rows' := kb_13_47.drop 16) (loc' := [.inr (12, 0, 0, 72), .inl (.int d1), .inl (.int x2), .inl (.int (P.1 72 4)), .inl (.int v7), d5, d6]) (st' := [.inl (.int (P6.1 72 5))]) (P1 := P6) rfl ⟨trivial, trivial, trivial, trivial⟩ ?_
        refine tr_if (fun h38 => ?_) (fun h38 => ?_)
        · refine tr_ifF (cd := .ne) (fun q => q h38) ?_
          refine tr_blk 2 (pc' := 86) (rows' := kb_13_47.drop 19) (loc' := [.inr (12, 0, 0, 72), .inl (.int d1), .inl (.int x2), .inl (.int (P.1 72 4)), .inl (.int v7), d5, d6]) (st' := [.inl (.int (8 : Int32)), .inl (.int x2)]) (P1 := P6) rfl ⟨trivial, trivial, trivial⟩ ?_
          refine tr_if (fun h39 => ?_) (fun h39 => ?_)
          · refine tr_icF (cd := .ne) (fun q => q h39) ?_
            refine tr_blk 3 (pc' := 92) (rows' := kb_13_47.drop 23) (loc' := [.inr (12, 0, 0, 72), .inl (.int d1), .inl (.int x2), .inl (.int (P.1 72 4)), .inl (.int v7), d5, d6]) (st' := [.inl (.int (P.1 72 4)), .inl (.int (3 : Int32)), .inr (12, 0, 0, 72)]) (P1 := P6) rfl ⟨trivial, trivial, trivial, trivial⟩ ?_
            refine tr_cWV (z := km_120) (av := [.inr (12, 0, 0, 72), .inl (.int (3 : Int32)), .inl (.int (P.1 72 4))]) (st' := []) rfl rfl rfl (Nat.le_of_ble_eq_true rfl) ⟨rfl, Or.inl (by decide)⟩ rfl (Nat.le_of_ble_eq_true rfl) (t_120 (3 : Int32) (P.1 72 4) P6) (fun P8 => ?_)
            exact t_13_95 N _ ih x2 v7 (d1) ((P.1 72 4)) (d5) (d6) P8
          · refine tr_icT (cd := .ne) h39 ?_
            exact t_13_95 N _ ih x2 v7 (d1) ((P.1 72 4)) (d5) (d6) P6
        · refine tr_ifT (cd := .ne) h38 ?_
          exact t_13_95 N _ ih x2 v7 (d1) ((P.1 72 4)) (d5) (d6) P6
      · refine tr_icT (cd := .ge) (Int32.not_lt.mp h37) ?_
        exact t_13_167 N x2 (d1) (d3) (d4) (d5) (d6) P
    · refine tr_ifT (cd := .ne) h36 ?_
      exact t_13_167 N x2 (d1) (d3) (d4) (d5) (d6) P
def f_13_30 (N : Nat) (x1 : Int32) (s0 : Int32) (P : ab_P) : Option (Int32 × ab_P) :=
    ab_b2 (f_113 s0 (1 : Int32) (1 : Int32) P) fun v4 P3 =>
    if v4 = (0 : Int32) then
      Option.bind (f_114 N x1 P3) fun P5 =>
      f_13_47 N N (0 : Int32) P5
    else
    some ((0 : Int32), P3)
theorem t_13_30 {xs : Nat × (Nat → Int32)} {d : Nat} (N : Nat) : ∀ (x1 : Int32) (s0 : Int32) (P : ab_P), ab_tr xs wI (d + 4) 13 30 [] [.inr (12, 0, 0, 72), .inl (.int x1), ab_top, ab_top, ab_top, ab_top, ab_top] [.inl (.int s0), .inr (12, 0, 0, 72)] P (f_13_30 N x1 s0 P) := by
  intro x1 s0 P
  unfold f_13_30
  refine tr_nil (rows2 := kb_13_30) rfl (List.cons_ne_nil _ _) ?_
  refine tr_blk 2 (pc' := 32) (rows' := kb_13_30.drop 2) (loc' := [.inr (12, 0, 0, 72), .inl (.int x1), ab_top, ab_top, ab_top, ab_top, ab_top]) (st' := [.inl (.int (1 : Int32)), .inl (.int (1 : Int32)), .inl (.int s0), .inr (12, 0, 0, 72)]) (P1 := P) rfl ⟨trivial, trivial, trivial⟩ ?_
  refine tr_cWI (z := km_113) (av := [.inr (12, 0, 0, 72), .inl (.int s0), .inl (.int (1 : Int32)), .inl (.int (1 : Int32))]) (st' := []) rfl rfl rfl (Nat.le_of_ble_eq_true rfl) ⟨rfl, Or.inl (by decide)⟩ rfl (Nat.le_of_ble_eq_true rfl) (t_113 s0 (1 : Int32) (1 : Int32) P) (fun v4 P3 => ?_)
  refine tr_if (fun h40 => ?_) (fun h40 => ?_)
  · refine tr_ifT (cd := .eq) h40 ?_
    refine tr_nil (rows2 := kb_13_40) rfl (List.cons_ne_nil _ _) ?_
    refine tr_blk 2 (pc' := 42) (rows' := kb_13_40.drop 2) (loc' := [.inr (12, 0, 0, 72), .inl (.int x1), ab_top, ab_top, ab_top, ab_top, ab_top]) (st' := [.inl (.int x1), .inr (12, 0, 0, 72)]) (P1 := P3) rfl ⟨trivial, trivial, trivial⟩ ?_
    refine tr_cWV (z := km_114) (av := [.inr (12, 0, 0, 72), .inl (.int x1)]) (st' := []) rfl rfl rfl (Nat.le_of_ble_eq_true rfl) ⟨rfl, Or.inl (by decide)⟩ rfl (Nat.le_of_ble_eq_true rfl) (t_114 N x1 P3) (fun P5 => ?_)
    refine tr_blk 2 (pc' := 47) (rows' := kb_13_40.drop 5) (loc' := [.inr (12, 0, 0, 72), .inl (.int x1), .inl (.int (0 : Int32)), ab_top, ab_top, ab_top, ab_top]) (st' := []) (P1 := P5) rfl ⟨trivial, trivial, trivial⟩ ?_
    exact t_13_47 N N (0 : Int32) (x1) (ab_top) (ab_top) (ab_top) (ab_top) P5
  · refine tr_ifF (cd := .eq) h40 ?_
    refine tr_blk 1 (pc' := 39) (rows' := kb_13_30.drop 5) (loc' := [.inr (12, 0, 0, 72), .inl (.int x1), ab_top, ab_top, ab_top, ab_top, ab_top]) (st' := [.inl (.int (0 : Int32))]) (P1 := P3) rfl ⟨trivial, trivial⟩ ?_
    exact tr_reI (z := km_13) rfl ⟨_, rfl, rfl⟩ rfl
def f_13 (N : Nat) (a1 : Int32) (P : ab_P) : Option (Int32 × ab_P) :=
    ab_lt (ab_pI P 72 0 (0 : Int32)) fun P1 =>
    Option.bind (f_112 P1 a1 (0 : Int32) (P1.1 72 1)) fun v2 =>
    if v2 = (0 : Int32) then
      f_13_30 N a1 (1 : Int32) P1
    else
    if (150 : Int32) < a1 then
      f_13_30 N a1 (1 : Int32) P1
    else
    f_13_30 N a1 (0 : Int32) P1
theorem t_13 {xs : Nat × (Nat → Int32)} {d : Nat} (N : Nat) : ∀ (a1 : Int32) (P : ab_P), ab_tr xs wI (d + 4) 13 0 [] [.inr (12, 0, 0, 72), .inl (.int a1), ab_top, ab_top, ab_top, ab_top, ab_top] [] P (f_13 N a1 P) := by
  intro a1 P
  unfold f_13
  refine tr_nil (rows2 := kb_13_0) rfl (List.cons_ne_nil _ _) ?_
  refine tr_blk 3 (pc' := 5) (rows' := kb_13_0.drop 3) (loc' := [.inr (12, 0, 0, 72), .inl (.int a1), ab_top, ab_top, ab_top, ab_top, ab_top]) (st' := []) (P1 := (ab_pI P 72 0 (0 : Int32))) rfl ⟨trivial, trivial, trivial, trivial⟩ ?_
  refine tr_lt (fun P1 => ?_)
  refine tr_blk 5 (pc' := 12) (rows' := kb_13_0.drop 8) (loc' := [.inr (12, 0, 0, 72), .inl (.int a1), ab_top, ab_top, ab_top, ab_top, ab_top]) (st' := [.inl (.int (P1.1 72 1)), .inl (.int (0 : Int32)), .inl (.int a1), .inr (12, 0, 0, 72)]) (P1 := P1) rfl ⟨trivial, trivial, trivial, trivial, trivial, trivial⟩ ?_
  refine tr_cRI (z := km_112) (av := [.inl (.int a1), .inl (.int (0 : Int32)), .inl (.int (P1.1 72 1))]) (st' := [.inr (12, 0, 0, 72)]) rfl rfl rfl (Nat.le_of_ble_eq_true rfl) trivial rfl (Nat.le_of_ble_eq_true rfl) (t_112 P1 a1 (0 : Int32) (P1.1 72 1)) (fun v2 => ?_)
  refine tr_if (fun h41 => ?_) (fun h41 => ?_)
  · refine tr_ifT (cd := .eq) h41 ?_
    refine tr_nil (rows2 := kb_13_25) rfl (List.cons_ne_nil _ _) ?_
    refine tr_blk 1 (pc' := 26) (rows' := kb_13_25.drop 1) (loc' := [.inr (12, 0, 0, 72), .inl (.int a1), ab_top, ab_top, ab_top, ab_top, ab_top]) (st' := [.inl (.int (1 : Int32)), .inr (12, 0, 0, 72)]) (P1 := P1) rfl ⟨trivial, trivial⟩ ?_
    refine tr_goto ?_
    exact t_13_30 N a1 (1 : Int32) P1
  · refine tr_ifF (cd := .eq) h41 ?_
    refine tr_blk 2 (pc' := 22) (rows' := kb_13_0.drop 12) (loc' := [.inr (12, 0, 0, 72), .inl (.int a1), ab_top, ab_top, ab_top, ab_top, ab_top]) (st' := [.inl (.int (150 : Int32)), .inl (.int a1), .inr (12, 0, 0, 72)]) (P1 := P1) rfl ⟨trivial, trivial, trivial⟩ ?_
    refine tr_if (fun h42 => ?_) (fun h42 => ?_)
    · refine tr_icF (cd := .le) (Int32.not_le.mpr h42) ?_
      refine tr_nil (rows2 := kb_13_25) rfl (List.cons_ne_nil _ _) ?_
      refine tr_blk 1 (pc' := 26) (rows' := kb_13_25.drop 1) (loc' := [.inr (12, 0, 0, 72), .inl (.int a1), ab_top, ab_top, ab_top, ab_top, ab_top]) (st' := [.inl (.int (1 : Int32)), .inr (12, 0, 0, 72)]) (P1 := P1) rfl ⟨trivial, trivial⟩ ?_
      refine tr_goto ?_
      exact t_13_30 N a1 (1 : Int32) P1
    · refine tr_icT (cd := .le) (Int32.not_lt.mp h42) ?_
      refine tr_nil (rows2 := kb_13_29) rfl (List.cons_ne_nil _ _) ?_
      refine tr_blk 1 (pc' := 30) (rows' := kb_13_29.drop 1) (loc' := [.inr (12, 0, 0, 72), .inl (.int a1), ab_top, ab_top, ab_top, ab_top, ab_top]) (st' := [.inl (.int (0 : Int32)), .inr (12, 0, 0, 72)]) (P1 := P1) rfl ⟨trivial, trivial⟩ ?_
      exact t_13_30 N a1 (0 : Int32) P1
def f_14 (P : ab_P) : Option Int32 :=
    some (P.1 1 6)
theorem t_14 {xs : Nat × (Nat → Int32)} {d : Nat} (P : ab_P) : ab_tr xs (rI P) (d + 0) 14 0 [] [.inr (11, 0, 0, 0)] [] P (f_14 P) := by
  unfold f_14
  refine tr_nil (rows2 := kb_14_0) rfl (List.cons_ne_nil _ _) ?_
  refine tr_blk 3 (pc' := 7) (rows' := kb_14_0.drop 3) (loc' := [.inr (11, 0, 0, 0)]) (st' := [.inl (.int (P.1 1 6))]) (P1 := P) rfl ⟨trivial, trivial, trivial, trivial⟩ ?_
  exact tr_reI (z := km_14) rfl ⟨_, rfl, rfl⟩ rfl
def f_15 (P : ab_P) : Option (Int32 × ab_P) :=
    ab_lt (ab_pI P 72 0 (0 : Int32)) fun P1 =>
    some ((P1.1 72 3), P1)
theorem t_15 {xs : Nat × (Nat → Int32)} {d : Nat} : ∀ (P : ab_P), ab_tr xs wI (d + 0) 15 0 [] [.inr (12, 0, 0, 72)] [] P (f_15 P) := by
  intro P
  unfold f_15
  refine tr_nil (rows2 := kb_15_0) rfl (List.cons_ne_nil _ _) ?_
  refine tr_blk 3 (pc' := 5) (rows' := kb_15_0.drop 3) (loc' := [.inr (12, 0, 0, 72)]) (st' := []) (P1 := (ab_pI P 72 0 (0 : Int32))) rfl ⟨trivial, trivial, trivial, trivial⟩ ?_
  refine tr_lt (fun P1 => ?_)
  refine tr_blk 2 (pc' := 9) (rows' := kb_15_0.drop 5) (loc' := [.inr (12, 0, 0, 72)]) (st' := [.inl (.int (P1.1 72 3))]) (P1 := P1) rfl ⟨trivial, trivial, trivial⟩ ?_
  exact tr_reI (z := km_15) rfl ⟨_, rfl, rfl⟩ rfl
def f_130 (i1 : Nat) (P : ab_P) : Option ab_P :=
    if (0 : Int32) < (P.1 65 1) then
      ab_lt (ab_pI P 65 1 ((P.1 65 1) - (1 : Int32))) fun P1 =>
      Option.bind (f_227 20 66 i1 (P1.1 65 1) P1) fun P2 =>
      some P2
    else
    some P
theorem t_130 {xs : Nat × (Nat → Int32)} {d : Nat} (i1 : Nat) : ∀ (P : ab_P), ab_tr xs wV (d + 2) 130 0 [] [.inr (3, 0, 0, 65), .inr (6, 0, 0, i1)] [] P (f_130 i1 P) := by
  intro P
  unfold f_130
  refine tr_nil (rows2 := kb_130_0) rfl (List.cons_ne_nil _ _) ?_
  refine tr_blk 2 (pc' := 4) (rows' := kb_130_0.drop 2) (loc' := [.inr (3, 0, 0, 65), .inr (6, 0, 0, i1)]) (st' := [.inl (.int (P.1 65 1))]) (P1 := P) rfl ⟨trivial, trivial, trivial⟩ ?_
  refine tr_if (fun h3 => ?_) (fun h3 => ?_)
  · refine tr_ifF (cd := .le) (Int32.not_le.mpr h3) ?_
    refine tr_blk 6 (pc' := 17) (rows' := kb_130_0.drop 9) (loc' := [.inr (3, 0, 0, 65), .inr (6, 0, 0, i1)]) (st' := []) (P1 := (ab_pI P 65 1 ((P.1 65 1) - (1 : Int32)))) rfl ⟨trivial, trivial, trivial, trivial, trivial, trivial, trivial⟩ ?_
    refine tr_lt (fun P1 => ?_)
    refine tr_blk 5 (pc' := 26) (rows' := kb_130_0.drop 14) (loc' := [.inr (3, 0, 0, 65), .inr (6, 0, 0, i1)]) (st' := [.inr (6, 0, 0, i1), .inl (.int (P1.1 65 1)), .inr (25, 20, 0, 66)]) (P1 := P1) rfl ⟨trivial, trivial, trivial, trivial, trivial, trivial⟩ ?_
    refine tr_cWV (z := km_227) (av := [.inr (25, 20, 0, 66), .inl (.int (P1.1 65 1)), .inr (6, 0, 0, i1)]) (st' := []) rfl rfl rfl (Nat.le_of_ble_eq_true rfl) trivial rfl (Nat.le_of_ble_eq_true rfl) (t_227 20 66 i1 (P1.1 65 1) P1) (fun P2 => ?_)
    refine tr_nil (rows2 := kb_130_29) rfl (List.cons_ne_nil _ _) ?_
    exact tr_reV (z := km_130) rfl rfl rfl
  · refine tr_ifT (cd := .le) (Int32.not_lt.mp h3) ?_
    refine tr_nil (rows2 := kb_130_29) rfl (List.cons_ne_nil _ _) ?_
    exact tr_reV (z := km_130) rfl rfl rfl
def f_16 (P : ab_P) : Option (Int32 × ab_P) :=
    if (P.1 65 1) = (0 : Int32) then
      some ((-1 : Int32), P)
    else
    Option.bind (f_130 43 P) fun P1 =>
    ab_lt (ab_pI P1 52 6 (0 : Int32)) fun P2 =>
    some ((P2.1 65 1), P2)
theorem t_16 {xs : Nat × (Nat → Int32)} {d : Nat} : ∀ (P : ab_P), ab_tr xs wI (d + 3) 16 0 [] [.inr (11, 0, 0, 0)] [] P (f_16 P) := by
  intro P
  unfold f_16
  refine tr_nil (rows2 := kb_16_0) rfl (List.cons_ne_nil _ _) ?_
  refine tr_blk 3 (pc' := 7) (rows' := kb_16_0.drop 3) (loc' := [.inr (11, 0, 0, 0)]) (st' := [.inl (.int (P.1 65 1))]) (P1 := P) rfl ⟨trivial, trivial, trivial, trivial⟩ ?_
  refine tr_if (fun h3 => ?_) (fun h3 => ?_)
  · refine tr_ifF (cd := .ne) (fun q => q h3) ?_
    refine tr_blk 1 (pc' := 11) (rows' := kb_16_0.drop 5) (loc' := [.inr (11, 0, 0, 0)]) (st' := [.inl (.int (-1 : Int32))]) (P1 := P) rfl ⟨trivial, trivial⟩ ?_
    exact tr_reI (z := km_16) rfl ⟨_, rfl, rfl⟩ rfl
  · refine tr_ifT (cd := .ne) h3 ?_
    refine tr_nil (rows2 := kb_16_12) rfl (List.cons_ne_nil _ _) ?_
    refine tr_blk 4 (pc' := 20) (rows' := kb_16_12.drop 4) (loc' := [.inr (11, 0, 0, 0)]) (st' := [.inr (6, 0, 0, 43), .inr (3, 0, 0, 65)]) (P1 := P) rfl ⟨trivial, trivial, trivial, trivial, trivial⟩ ?_
    refine tr_cWV (z := km_130) (av := [.inr (3, 0, 0, 65), .inr (6, 0, 0, 43)]) (st' := []) rfl rfl rfl (Nat.le_of_ble_eq_true rfl) ⟨rfl, Or.inl (by decide)⟩ rfl (Nat.le_of_ble_eq_true rfl) (t_130 43 P) (fun P1 => ?_)
    refine tr_blk 4 (pc' := 31) (rows' := kb_16_12.drop 9) (loc' := [.inr (11, 0, 0, 0)]) (st' := []) (P1 := (ab_pI P1 52 6 (0 : Int32))) rfl ⟨trivial, trivial, trivial, trivial, trivial⟩ ?_
    refine tr_lt (fun P2 => ?_)
    refine tr_blk 3 (pc' := 38) (rows' := kb_16_12.drop 12) (loc' := [.inr (11, 0, 0, 0)]) (st' := [.inl (.int (P2.1 65 1))]) (P1 := P2) rfl ⟨trivial, trivial, trivial, trivial⟩ ?_
    exact tr_reI (z := km_16) rfl ⟨_, rfl, rfl⟩ rfl
def f_17 (N : Nat) (P : ab_P) : Option (Int32 × ab_P) :=
    ab_lt (ab_pI P 72 0 (0 : Int32)) fun P1 =>
    if (P1.1 72 30) = (0 : Int32) then
      some ((-1 : Int32), P1)
    else
    ab_lt (ab_pI P1 72 30 ((P1.1 72 30) - (1 : Int32))) fun P2 =>
    if ab_gi (P2.1 72 30) 20 then
    Option.bind (f_123_366_366 (479 + 1 + ((P2.1 72 30)).toNatClampNeg) 477 N P2) fun P4 =>
    ab_lt (ab_pI P4 72 31 (0 : Int32)) fun P5 =>
    some ((P5.1 72 30), P5)
    else none
theorem t_17 {xs : Nat × (Nat → Int32)} {d : Nat} (N : Nat) : ∀ (P : ab_P), ab_tr xs wI (d + 1) 17 0 [] [.inr (12, 0, 0, 72)] [] P (f_17 N P) := by
  intro P
  unfold f_17
  refine tr_nil (rows2 := kb_17_0) rfl (List.cons_ne_nil _ _) ?_
  refine tr_blk 3 (pc' := 5) (rows' := kb_17_0.drop 3) (loc' := [.inr (12, 0, 0, 72)]) (st' := []) (P1 := (ab_pI P 72 0 (0 : Int32))) rfl ⟨trivial, trivial, trivial, trivial⟩ ?_
  refine tr_lt (fun P1 => ?_)
  refine tr_blk 2 (pc' := 9) (rows' := kb_17_0.drop 5) (loc' := [.inr (12, 0, 0, 72)]) (st' := [.inl (.int (P1.1 72 30))]) (P1 := P1) rfl ⟨trivial, trivial, trivial⟩ ?_
  refine tr_if (fun h6 => ?_) (fun h6 => ?_)
  · refine tr_ifF (cd := .ne) (fun q => q h6) ?_
    refine tr_blk 1 (pc' := 13) (rows' := kb_17_0.drop 7) (loc' := [.inr (12, 0, 0, 72)]) (st' := [.inl (.int (-1 : Int32))]) (P1 := P1) rfl ⟨trivial, trivial⟩ ?_
    exact tr_reI (z := km_17) rfl ⟨_, rfl, rfl⟩ rfl
  · refine tr_ifT (cd := .ne) h6 ?_
    refine tr_nil (rows2 := kb_17_14) rfl (List.cons_ne_nil _ _) ?_
    refine tr_blk 6 (pc' := 24) (rows' := kb_17_14.drop 6) (loc' := [.inr (12, 0, 0, 72)]) (st' := []) (P1 := (ab_pI P1 72 30 ((P1.1 72 30) - (1 : Int32)))) rfl ⟨trivial, trivial, trivial, trivial, trivial, trivial, trivial⟩ ?_
    refine tr_lt (fun P2 => ?_)
    refine tr_gd (fun h3 => ?_)
    refine tr_blk 7 (pc' := 37) (rows' := kb_17_14.drop 13) (loc' := [.inr (12, 0, 0, 72)]) (st' := [.inr (20, 366, 0, 477), .inr (20, 366, 0, (479 + 1 + ((P2.1 72 30)).toNatClampNeg))]) (P1 := P2) rfl ⟨trivial, trivial, trivial, trivial, ⟨h3, ab_grl h3⟩, trivial, trivial, trivial⟩ ?_
    refine tr_cWV (z := km_123) (av := [.inr (20, 366, 0, (479 + 1 + ((P2.1 72 30)).toNatClampNeg)), .inr (20, 366, 0, 477)]) (st' := []) rfl rfl rfl (Nat.le_of_ble_eq_true rfl) trivial rfl (Nat.le_of_ble_eq_true rfl) (t_123_366_366 (479 + 1 + ((P2.1 72 30)).toNatClampNeg) 477 N P2) (fun P4 => ?_)
    refine tr_blk 3 (pc' := 45) (rows' := kb_17_14.drop 17) (loc' := [.inr (12, 0, 0, 72)]) (st' := []) (P1 := (ab_pI P4 72 31 (0 : Int32))) rfl ⟨trivial, trivial, trivial, trivial⟩ ?_
    refine tr_lt (fun P5 => ?_)
    refine tr_blk 2 (pc' := 49) (rows' := kb_17_14.drop 19) (loc' := [.inr (12, 0, 0, 72)]) (st' := [.inl (.int (P5.1 72 30))]) (P1 := P5) rfl ⟨trivial, trivial, trivial⟩ ?_
    exact tr_reI (z := km_17) rfl ⟨_, rfl, rfl⟩ rfl
def f_229_4 (i0 : Nat) (P : ab_P) : Nat → Int32 → Int32 → Option Int32
  | 0, _, _ => none
  | n + 1, x1, x2 =>
    if x2 < (P.1 i0 2) then
      Option.bind (f_263 i0 P x2) fun v1 =>
      if v1 = (0 : Int32) then
        f_229_4 i0 P n (x1 + (0 : Int32)) (x2 + 1)
      else
      f_229_4 i0 P n (x1 + (1 : Int32)) (x2 + 1)
    else
    some x1
theorem t_229_4 {xs : Nat × (Nat → Int32)} {d : Nat} (i0 : Nat) (P : ab_P) : ∀ n : Nat, ∀ (x1 : Int32) (x2 : Int32), ab_tr xs (rI P) (d + 2) 229 4 [] [.inr (6, 0, 0, i0), .inl (.int x1), .inl (.int x2)] [] P (f_229_4 i0 P n x1 x2) := by
  intro n
  induction n with
  | zero => intro x1 x2; exact tr_no
  | succ n ih =>
    intro x1 x2
    refine tr_nil (rows2 := kb_229_4) rfl (List.cons_ne_nil _ _) ?_
    refine tr_blk 3 (pc' := 9) (rows' := kb_229_4.drop 3) (loc' := [.inr (6, 0, 0, i0), .inl (.int x1), .inl (.int x2)]) (st' := [.inl (.int (P.1 i0 2)), .inl (.int x2)]) (P1 := P) rfl ⟨trivial, trivial, trivial, trivial⟩ ?_
    refine tr_if (fun h2 => ?_) (fun h2 => ?_)
    · refine tr_icF (cd := .ge) (Int32.not_le.mpr h2) ?_
      refine tr_blk 3 (pc' := 15) (rows' := kb_229_4.drop 7) (loc' := [.inr (6, 0, 0, i0), .inl (.int x1), .inl (.int x2)]) (st' := [.inl (.int x2), .inr (6, 0, 0, i0), .inl (.int x1)]) (P1 := P) rfl ⟨trivial, trivial, trivial, trivial⟩ ?_
      refine tr_cRI (z := km_263) (av := [.inr (6, 0, 0, i0), .inl (.int x2)]) (st' := [.inl (.int x1)]) rfl rfl rfl (Nat.le_of_ble_eq_true rfl) ⟨rfl, Or.inl (by decide)⟩ rfl (Nat.le_of_ble_eq_true rfl) (t_263 i0 P x2) (fun v1 => ?_)
      refine tr_if (fun h3 => ?_) (fun h3 => ?_)
      · refine tr_ifT (cd := .eq) h3 ?_
        refine tr_nil (rows2 := kb_229_25) rfl (List.cons_ne_nil _ _) ?_
        refine tr_blk 1 (pc' := 26) (rows' := kb_229_25.drop 1) (loc' := [.inr (6, 0, 0, i0), .inl (.int x1), .inl (.int x2)]) (st' := [.inl (.int (0 : Int32)), .inl (.int x1)]) (P1 := P) rfl ⟨trivial, trivial⟩ ?_
        refine tr_nil (rows2 := kb_229_26) rfl (List.cons_ne_nil _ _) ?_
        refine tr_blk 3 (pc' := 31) (rows' := kb_229_26.drop 3) (loc' := [.inr (6, 0, 0, i0), .inl (.int (x1 + (0 : Int32))), .inl (.int (x2 + 1))]) (st' := []) (P1 := P) rfl ⟨trivial, trivial, trivial, trivial⟩ ?_
        refine tr_goto ?_
        exact ih (x1 + (0 : Int32)) (x2 + 1)
      · refine tr_ifF (cd := .eq) h3 ?_
        refine tr_blk 1 (pc' := 22) (rows' := kb_229_4.drop 10) (loc' := [.inr (6, 0, 0, i0), .inl (.int x1), .inl (.int x2)]) (st' := [.inl (.int (1 : Int32)), .inl (.int x1)]) (P1 := P) rfl ⟨trivial, trivial⟩ ?_
        refine tr_goto ?_
        refine tr_nil (rows2 := kb_229_26) rfl (List.cons_ne_nil _ _) ?_
        refine tr_blk 3 (pc' := 31) (rows' := kb_229_26.drop 3) (loc' := [.inr (6, 0, 0, i0), .inl (.int (x1 + (1 : Int32))), .inl (.int (x2 + 1))]) (st' := []) (P1 := P) rfl ⟨trivial, trivial, trivial, trivial⟩ ?_
        refine tr_goto ?_
        exact ih (x1 + (1 : Int32)) (x2 + 1)
    · refine tr_icT (cd := .ge) (Int32.not_lt.mp h2) ?_
      refine tr_nil (rows2 := kb_229_34) rfl (List.cons_ne_nil _ _) ?_
      refine tr_blk 1 (pc' := 35) (rows' := kb_229_34.drop 1) (loc' := [.inr (6, 0, 0, i0), .inl (.int x1), .inl (.int x2)]) (st' := [.inl (.int x1)]) (P1 := P) rfl ⟨trivial, trivial⟩ ?_
      exact tr_reI (z := km_229) rfl ⟨_, rfl, rfl⟩ rfl
def f_229 (i0 : Nat) (N : Nat) (P : ab_P) : Option Int32 :=
    f_229_4 i0 P N (0 : Int32) (0 : Int32)
theorem t_229 {xs : Nat × (Nat → Int32)} {d : Nat} (i0 : Nat) (N : Nat) (P : ab_P) : ab_tr xs (rI P) (d + 2) 229 0 [] [.inr (6, 0, 0, i0), ab_top, ab_top] [] P (f_229 i0 N P) := by
  unfold f_229
  refine tr_nil (rows2 := kb_229_0) rfl (List.cons_ne_nil _ _) ?_
  refine tr_blk 4 (pc' := 4) (rows' := kb_229_0.drop 4) (loc' := [.inr (6, 0, 0, i0), .inl (.int (0 : Int32)), .inl (.int (0 : Int32))]) (st' := []) (P1 := P) rfl ⟨trivial, trivial, trivial, trivial, trivial⟩ ?_
  exact t_229_4 i0 P N (0 : Int32) (0 : Int32)
def f_131_16 (N : Nat) (x1 : Int32) (s0 : Int32) (P : ab_P) : Option ((Int32 ⊕ Fin 3) × ab_P) :=
    ab_x2 (f_228 s0 P) (fun _ P1 =>
    if x1 = 0 then
      some (.inl (P1.1 3 5), P1)
    else
    if x1 = 1 then
      some (.inl (P1.1 43 2), P1)
    else
    if x1 = 2 then
      Option.bind (f_229 43 N P1) fun v2 =>
      some (.inl v2, P1)
    else
    if x1 = 3 then
      some (.inl (P1.1 43 3), P1)
    else
    if x1 = 4 then
      some (.inl (P1.1 3 7), P1)
    else
    if x1 = 5 then
      some (.inl (P1.1 46 5), P1)
    else
    if x1 = 6 then
      some (.inl (P1.1 21 2), P1)
    else
    some (.inl (P1.1 52 6), P1)) (fun q => q)
theorem t_131_16 {xs : Nat × (Nat → Int32)} {d : Nat} (N : Nat) : ∀ (x1 : Int32) (s0 : Int32) (P : ab_P), ab_tr xs xI (d + 3) 131 16 [] [.inr (11, 0, 0, 0), .inl (.int x1)] [.inl (.int s0), .inr (11, 0, 0, 0)] P (f_131_16 N x1 s0 P) := by
  intro x1 s0 P
  unfold f_131_16
  refine tr_nil (rows2 := kb_131_16) rfl (List.cons_ne_nil _ _) ?_
  refine tr_cax (fun _ => none) (zi := km_131) (fun _ => rfl) (fun _ _ => rfl) rfl rfl (z := km_228) (av := [.inr (11, 0, 0, 0), .inl (.int s0)]) (st' := []) rfl rfl rfl (Nat.le_of_ble_eq_true rfl) ⟨rfl, Or.inl (by decide)⟩ rfl (Nat.le_of_ble_eq_true rfl) (t_228 s0 P) (fun _ P1 => ?_)
  refine tr_blk 1 (pc' := 20) (rows' := kb_131_16.drop 2) (loc' := [.inr (11, 0, 0, 0), .inl (.int x1)]) (st' := [.inl (.int x1)]) (P1 := P1) rfl ⟨trivial, trivial⟩ ?_
  refine tr_if (fun h3 => ?_) (fun h3 => ?_)
  · refine tr_sw (t := 64) (by rw [h3]; rfl) ?_
    refine tr_nil (rows2 := kb_131_64) rfl (List.cons_ne_nil _ _) ?_
    refine tr_blk 3 (pc' := 71) (rows' := kb_131_64.drop 3) (loc' := [.inr (11, 0, 0, 0), .inl (.int x1)]) (st' := [.inl (.int (P1.1 3 5))]) (P1 := P1) rfl ⟨trivial, trivial, trivial, trivial⟩ ?_
    exact tr_reI (z := km_131) rfl ⟨_, rfl, rfl⟩ rfl
  refine tr_if (fun h4 => ?_) (fun h4 => ?_)
  · refine tr_sw (t := 72) (by rw [h4]; rfl) ?_
    refine tr_nil (rows2 := kb_131_72) rfl (List.cons_ne_nil _ _) ?_
    refine tr_blk 3 (pc' := 79) (rows' := kb_131_72.drop 3) (loc' := [.inr (11, 0, 0, 0), .inl (.int x1)]) (st' := [.inl (.int (P1.1 43 2))]) (P1 := P1) rfl ⟨trivial, trivial, trivial, trivial⟩ ?_
    exact tr_reI (z := km_131) rfl ⟨_, rfl, rfl⟩ rfl
  refine tr_if (fun h5 => ?_) (fun h5 => ?_)
  · refine tr_sw (t := 80) (by rw [h5]; rfl) ?_
    refine tr_nil (rows2 := kb_131_80) rfl (List.cons_ne_nil _ _) ?_
    refine tr_blk 2 (pc' := 84) (rows' := kb_131_80.drop 2) (loc' := [.inr (11, 0, 0, 0), .inl (.int x1)]) (st' := [.inr (6, 0, 0, 43)]) (P1 := P1) rfl ⟨trivial, trivial, trivial⟩ ?_
    refine tr_cRI (z := km_229) (av := [.inr (6, 0, 0, 43)]) (st' := []) rfl rfl rfl (Nat.le_of_ble_eq_true rfl) ⟨rfl, Or.inl (by decide)⟩ rfl (Nat.le_of_ble_eq_true rfl) (t_229 43 N P1) (fun v2 => ?_)
    exact tr_reI (z := km_131) rfl ⟨_, rfl, rfl⟩ rfl
  refine tr_if (fun h6 => ?_) (fun h6 => ?_)
  · refine tr_sw (t := 88) (by rw [h6]; rfl) ?_
    refine tr_nil (rows2 := kb_131_88) rfl (List.cons_ne_nil _ _) ?_
    refine tr_blk 3 (pc' := 95) (rows' := kb_131_88.drop 3) (loc' := [.inr (11, 0, 0, 0), .inl (.int x1)]) (st' := [.inl (.int (P1.1 43 3))]) (P1 := P1) rfl ⟨trivial, trivial, trivial, trivial⟩ ?_
    exact tr_reI (z := km_131) rfl ⟨_, rfl, rfl⟩ rfl
  refine tr_if (fun h7 => ?_) (fun h7 => ?_)
  · refine tr_sw (t := 96) (by rw [h7]; rfl) ?_
    refine tr_nil (rows2 := kb_131_96) rfl (List.cons_ne_nil _ _) ?_
    refine tr_blk 3 (pc' := 103) (rows' := kb_131_96.drop 3) (loc' := [.inr (11, 0, 0, 0), .inl (.int x1)]) (st' := [.inl (.int (P1.1 3 7))]) (P1 := P1) rfl ⟨trivial, trivial, trivial, trivial⟩ ?_
    exact tr_reI (z := km_131) rfl ⟨_, rfl, rfl⟩ rfl
  refine tr_if (fun h8 => ?_) (fun h8 => ?_)
  · refine tr_sw (t := 104) (by rw [h8]; rfl) ?_
    refine tr_nil (rows2 := kb_131_104) rfl (List.cons_ne_nil _ _) ?_
    refine tr_blk 3 (pc' := 111) (rows' := kb_131_104.drop 3) (loc' := [.inr (11, 0, 0, 0), .inl (.int x1)]) (st' := [.inl (.int (P1.1 46 5))]) (P1 := P1) rfl ⟨trivial, trivial, trivial, trivial⟩ ?_
    exact tr_reI (z := km_131) rfl ⟨_, rfl, rfl⟩ rfl
  refine tr_if (fun h9 => ?_) (fun h9 => ?_)
  · refine tr_sw (t := 112) (by rw [h9]; rfl) ?_
    refine tr_nil (rows2 := kb_131_112) rfl (List.cons_ne_nil _ _) ?_
    refine tr_blk 3 (pc' := 119) (rows' := kb_131_112.drop 3) (loc' := [.inr (11, 0, 0, 0), .inl (.int x1)]) (st' := [.inl (.int (P1.1 21 2))]) (P1 := P1) rfl ⟨trivial, trivial, trivial, trivial⟩ ?_
    exact tr_reI (z := km_131) rfl ⟨_, rfl, rfl⟩ rfl
  refine tr_sw (t := 120) (ab_swd (k := 7) (by decide) rfl ⟨ab_nei h3 (by decide), ab_nei h4 (by decide), ab_nei h5 (by decide), ab_nei h6 (by decide), ab_nei h7 (by decide), ab_nei h8 (by decide), ab_nei h9 (by decide), trivial⟩) ?_
  refine tr_nil (rows2 := kb_131_120) rfl (List.cons_ne_nil _ _) ?_
  refine tr_blk 3 (pc' := 127) (rows' := kb_131_120.drop 3) (loc' := [.inr (11, 0, 0, 0), .inl (.int x1)]) (st' := [.inl (.int (P1.1 52 6))]) (P1 := P1) rfl ⟨trivial, trivial, trivial, trivial⟩ ?_
  exact tr_reI (z := km_131) rfl ⟨_, rfl, rfl⟩ rfl
def f_131 (N : Nat) (a1 : Int32) (P : ab_P) : Option ((Int32 ⊕ Fin 3) × ab_P) :=
    if a1 < (0 : Int32) then
      f_131_16 N a1 (0 : Int32) P
    else
    if (7 : Int32) < a1 then
      f_131_16 N a1 (0 : Int32) P
    else
    f_131_16 N a1 (1 : Int32) P
theorem t_131 {xs : Nat × (Nat → Int32)} {d : Nat} (N : Nat) : ∀ (a1 : Int32) (P : ab_P), ab_tr xs xI (d + 3) 131 0 [] [.inr (11, 0, 0, 0), .inl (.int a1)] [] P (f_131 N a1 P) := by
  intro a1 P
  unfold f_131
  refine tr_nil (rows2 := kb_131_0) rfl (List.cons_ne_nil _ _) ?_
  refine tr_blk 2 (pc' := 2) (rows' := kb_131_0.drop 2) (loc' := [.inr (11, 0, 0, 0), .inl (.int a1)]) (st' := [.inl (.int a1), .inr (11, 0, 0, 0)]) (P1 := P) rfl ⟨trivial, trivial, trivial⟩ ?_
  refine tr_if (fun h10 => ?_) (fun h10 => ?_)
  · refine tr_ifT (cd := .lt) h10 ?_
    refine tr_nil (rows2 := kb_131_15) rfl (List.cons_ne_nil _ _) ?_
    refine tr_blk 1 (pc' := 16) (rows' := kb_131_15.drop 1) (loc' := [.inr (11, 0, 0, 0), .inl (.int a1)]) (st' := [.inl (.int (0 : Int32)), .inr (11, 0, 0, 0)]) (P1 := P) rfl ⟨trivial, trivial⟩ ?_
    exact t_131_16 N a1 (0 : Int32) P
  · refine tr_ifF (cd := .lt) h10 ?_
    refine tr_blk 2 (pc' := 8) (rows' := kb_131_0.drop 5) (loc' := [.inr (11, 0, 0, 0), .inl (.int a1)]) (st' := [.inl (.int (7 : Int32)), .inl (.int a1), .inr (11, 0, 0, 0)]) (P1 := P) rfl ⟨trivial, trivial, trivial⟩ ?_
    refine tr_if (fun h11 => ?_) (fun h11 => ?_)
    · refine tr_icT (cd := .gt) h11 ?_
      refine tr_nil (rows2 := kb_131_15) rfl (List.cons_ne_nil _ _) ?_
      refine tr_blk 1 (pc' := 16) (rows' := kb_131_15.drop 1) (loc' := [.inr (11, 0, 0, 0), .inl (.int a1)]) (st' := [.inl (.int (0 : Int32)), .inr (11, 0, 0, 0)]) (P1 := P) rfl ⟨trivial, trivial⟩ ?_
      exact t_131_16 N a1 (0 : Int32) P
    · refine tr_icF (cd := .gt) h11 ?_
      refine tr_blk 1 (pc' := 12) (rows' := kb_131_0.drop 7) (loc' := [.inr (11, 0, 0, 0), .inl (.int a1)]) (st' := [.inl (.int (1 : Int32)), .inr (11, 0, 0, 0)]) (P1 := P) rfl ⟨trivial, trivial⟩ ?_
      refine tr_goto ?_
      exact t_131_16 N a1 (1 : Int32) P
def f_18_1 (N : Nat) (a1 : Int32) (P : ab_P) : Option (Int32 × ab_P) :=
    ab_h2 (f_131 N a1 P) (fun v2 P1 =>
    ab_lt (ab_pL P1 570 0 (v2).toInt64) fun P3 =>
    some ((0 : Int32), P3))
    (fun _ => none) (fun P9 => some ((1 : Int32), P9)) (fun _ => none)
theorem t_18_1 {xs : Nat × (Nat → Int32)} {d : Nat} (N : Nat) : ∀ (a1 : Int32) (P : ab_P), ab_tr xs wI (d + 4) 18 0 [] [.inr (11, 0, 0, 0), .inl (.int a1), .inr (22, 1, 0, 570), ab_top] [] P (f_18_1 N a1 P) := by
  intro a1 P
  unfold f_18_1
  refine tr_nil (rows2 := kb_18_0) rfl (List.cons_ne_nil _ _) ?_
  refine tr_blk 4 (pc' := 4) (rows' := kb_18_0.drop 4) (loc' := [.inr (11, 0, 0, 0), .inl (.int a1), .inr (22, 1, 0, 570), ab_top]) (st' := [.inl (.int a1), .inr (11, 0, 0, 0), .inl (.int (0 : Int32)), .inr (22, 1, 0, 570)]) (P1 := P) rfl ⟨trivial, trivial, trivial, trivial, trivial⟩ ?_
  refine tr_cah (fun b => some (.inl (.int b))) (zi := km_18) (fun _ => rfl) rfl (z := km_131) (av := [.inr (11, 0, 0, 0), .inl (.int a1)]) (st' := [.inl (.int (0 : Int32)), .inr (22, 1, 0, 570)]) rfl rfl rfl (Nat.le_of_ble_eq_true rfl) ⟨rfl, Or.inl (by decide)⟩ rfl (Nat.le_of_ble_eq_true rfl) (t_131 N a1 P) (fun v2 P1 => ?_) ?_ ?_ ?_
  · refine tr_blk 2 (pc' := 9) (rows' := kb_18_0.drop 7) (loc' := [.inr (11, 0, 0, 0), .inl (.int a1), .inr (22, 1, 0, 570), ab_top]) (st' := []) (P1 := (ab_pL P1 570 0 (v2).toInt64)) rfl ⟨trivial, (ab_vi (by decide)), trivial⟩ ?_
    refine tr_lt (fun P3 => ?_)
    refine tr_goto ?_
    refine tr_nil (rows2 := kb_18_15) rfl (List.cons_ne_nil _ _) ?_
    refine tr_blk 1 (pc' := 16) (rows' := kb_18_15.drop 1) (loc' := [.inr (11, 0, 0, 0), .inl (.int a1), .inr (22, 1, 0, 570), ab_top]) (st' := [.inl (.int (0 : Int32))]) (P1 := P3) rfl ⟨trivial, trivial⟩ ?_
    exact tr_reI (z := km_18) rfl ⟨_, rfl, rfl⟩ rfl
  · exact fun _ => rfl
  · exact fun _ => tr_han (rows2 := kb_18_12) (z := km_18) _ (fun q => [.inr (11, 0, 0, 0), .inl (.int a1), .inr (22, 1, 0, 570), .inr (40, 1, 0, q)]) rfl (List.cons_ne_nil _ _) (fun q => rfl) ⟨trivial, trivial, trivial⟩ rfl ⟨_, rfl, rfl⟩ rfl
  · exact fun _ => rfl
def f_132_366_4 (i1 : Nat) (P : ab_P) : Nat → Int32 → Int32 → Option Int32
  | 0, _, _ => none
  | n + 1, x2, x3 =>
    if x3 < (P.1 i1 360) then
      Option.bind (f_144_366 i1 P x3) fun v1 =>
      if v1 = (0 : Int32) then
        f_132_366_4 i1 P n (x2 + (0 : Int32)) (x3 + 1)
      else
      f_132_366_4 i1 P n (x2 + (1 : Int32)) (x3 + 1)
    else
    some x2
theorem t_132_366_4 {xs : Nat × (Nat → Int32)} {d : Nat} (i1 : Nat) (P : ab_P) : ∀ n : Nat, ∀ (x2 : Int32) (x3 : Int32), ab_tr xs (rI P) (d + 2) 132 4 [] [.inr (12, 0, 0, 72), .inr (20, 366, 0, i1), .inl (.int x2), .inl (.int x3)] [] P (f_132_366_4 i1 P n x2 x3) := by
  intro n
  induction n with
  | zero => intro x2 x3; exact tr_no
  | succ n ih =>
    intro x2 x3
    refine tr_nil (rows2 := kb_132_4) rfl (List.cons_ne_nil _ _) ?_
    refine tr_blk 4 (pc' := 10) (rows' := kb_132_4.drop 4) (loc' := [.inr (12, 0, 0, 72), .inr (20, 366, 0, i1), .inl (.int x2), .inl (.int x3)]) (st' := [.inl (.int (P.1 i1 360)), .inl (.int x3)]) (P1 := P) rfl ⟨trivial, trivial, trivial, (ab_vi (by decide)), trivial⟩ ?_
    refine tr_if (fun h2 => ?_) (fun h2 => ?_)
    · refine tr_icF (cd := .ge) (Int32.not_le.mpr h2) ?_
      refine tr_blk 3 (pc' := 16) (rows' := kb_132_4.drop 8) (loc' := [.inr (12, 0, 0, 72), .inr (20, 366, 0, i1), .inl (.int x2), .inl (.int x3)]) (st' := [.inl (.int x3), .inr (20, 366, 0, i1), .inl (.int x2)]) (P1 := P) rfl ⟨trivial, trivial, trivial, trivial⟩ ?_
      refine tr_cRI (z := km_144) (av := [.inr (20, 366, 0, i1), .inl (.int x3)]) (st' := [.inl (.int x2)]) rfl rfl rfl (Nat.le_of_ble_eq_true rfl) trivial rfl (Nat.le_of_ble_eq_true rfl) (t_144_366 i1 P x3) (fun v1 => ?_)
      refine tr_if (fun h3 => ?_) (fun h3 => ?_)
      · refine tr_ifT (cd := .eq) h3 ?_
        refine tr_nil (rows2 := kb_132_26) rfl (List.cons_ne_nil _ _) ?_
        refine tr_blk 1 (pc' := 27) (rows' := kb_132_26.drop 1) (loc' := [.inr (12, 0, 0, 72), .inr (20, 366, 0, i1), .inl (.int x2), .inl (.int x3)]) (st' := [.inl (.int (0 : Int32)), .inl (.int x2)]) (P1 := P) rfl ⟨trivial, trivial⟩ ?_
        refine tr_nil (rows2 := kb_132_27) rfl (List.cons_ne_nil _ _) ?_
        refine tr_blk 3 (pc' := 32) (rows' := kb_132_27.drop 3) (loc' := [.inr (12, 0, 0, 72), .inr (20, 366, 0, i1), .inl (.int (x2 + (0 : Int32))), .inl (.int (x3 + 1))]) (st' := []) (P1 := P) rfl ⟨trivial, trivial, trivial, trivial⟩ ?_
        refine tr_goto ?_
        exact ih (x2 + (0 : Int32)) (x3 + 1)
      · refine tr_ifF (cd := .eq) h3 ?_
        refine tr_blk 1 (pc' := 23) (rows' := kb_132_4.drop 11) (loc' := [.inr (12, 0, 0, 72), .inr (20, 366, 0, i1), .inl (.int x2), .inl (.int x3)]) (st' := [.inl (.int (1 : Int32)), .inl (.int x2)]) (P1 := P) rfl ⟨trivial, trivial⟩ ?_
        refine tr_goto ?_
        refine tr_nil (rows2 := kb_132_27) rfl (List.cons_ne_nil _ _) ?_
        refine tr_blk 3 (pc' := 32) (rows' := kb_132_27.drop 3) (loc' := [.inr (12, 0, 0, 72), .inr (20, 366, 0, i1), .inl (.int (x2 + (1 : Int32))), .inl (.int (x3 + 1))]) (st' := []) (P1 := P) rfl ⟨trivial, trivial, trivial, trivial⟩ ?_
        refine tr_goto ?_
        exact ih (x2 + (1 : Int32)) (x3 + 1)
    · refine tr_icT (cd := .ge) (Int32.not_lt.mp h2) ?_
      refine tr_nil (rows2 := kb_132_35) rfl (List.cons_ne_nil _ _) ?_
      refine tr_blk 1 (pc' := 36) (rows' := kb_132_35.drop 1) (loc' := [.inr (12, 0, 0, 72), .inr (20, 366, 0, i1), .inl (.int x2), .inl (.int x3)]) (st' := [.inl (.int x2)]) (P1 := P) rfl ⟨trivial, trivial⟩ ?_
      exact tr_reI (z := km_132) rfl ⟨_, rfl, rfl⟩ rfl
def f_132_366 (i1 : Nat) (N : Nat) (P : ab_P) : Option Int32 :=
    f_132_366_4 i1 P N (0 : Int32) (0 : Int32)
theorem t_132_366 {xs : Nat × (Nat → Int32)} {d : Nat} (i1 : Nat) (N : Nat) (P : ab_P) : ab_tr xs (rI P) (d + 2) 132 0 [] [.inr (12, 0, 0, 72), .inr (20, 366, 0, i1), ab_top, ab_top] [] P (f_132_366 i1 N P) := by
  unfold f_132_366
  refine tr_nil (rows2 := kb_132_0) rfl (List.cons_ne_nil _ _) ?_
  refine tr_blk 4 (pc' := 4) (rows' := kb_132_0.drop 4) (loc' := [.inr (12, 0, 0, 72), .inr (20, 366, 0, i1), .inl (.int (0 : Int32)), .inl (.int (0 : Int32))]) (st' := []) (P1 := P) rfl ⟨trivial, trivial, trivial, trivial, trivial⟩ ?_
  exact t_132_366_4 i1 P N (0 : Int32) (0 : Int32)
def f_19_31 (N : Nat) (x1 : Int32) (P : ab_P) : Option (Int32 × ab_P) :=
    if x1 = 0 then
      some ((P.1 76 0), P)
    else
    if x1 = 1 then
      some ((P.1 477 360), P)
    else
    if x1 = 2 then
      Option.bind (f_132_366 477 N P) fun v5 =>
      some (v5, P)
    else
    if x1 = 3 then
      some ((P.1 477 361), P)
    else
    if x1 = 4 then
      if ab_gi (x1 - (2 : Int32)) 4 then
      some ((P.1 76 ((x1 - (2 : Int32))).toNatClampNeg), P)
      else none
    else
    if x1 = 5 then
      if ab_gi (x1 - (2 : Int32)) 4 then
      some ((P.1 76 ((x1 - (2 : Int32))).toNatClampNeg), P)
      else none
    else
    if x1 = 6 then
      some ((P.1 72 29), P)
    else
    some ((P.1 72 31), P)
theorem t_19_31 {xs : Nat × (Nat → Int32)} {d : Nat} (N : Nat) : ∀ (x1 : Int32) (P : ab_P), ab_tr xs wI (d + 3) 19 31 [] [.inr (12, 0, 0, 72), .inl (.int x1)] [] P (f_19_31 N x1 P) := by
  intro x1 P
  unfold f_19_31
  refine tr_nil (rows2 := kb_19_31) rfl (List.cons_ne_nil _ _) ?_
  refine tr_blk 1 (pc' := 32) (rows' := kb_19_31.drop 1) (loc' := [.inr (12, 0, 0, 72), .inl (.int x1)]) (st' := [.inl (.int x1)]) (P1 := P) rfl ⟨trivial, trivial⟩ ?_
  refine tr_if (fun h8 => ?_) (fun h8 => ?_)
  · refine tr_sw (t := 76) (by rw [h8]; rfl) ?_
    refine tr_nil (rows2 := kb_19_76) rfl (List.cons_ne_nil _ _) ?_
    refine tr_blk 4 (pc' := 82) (rows' := kb_19_76.drop 4) (loc' := [.inr (12, 0, 0, 72), .inl (.int x1)]) (st' := [.inl (.int (P.1 76 0))]) (P1 := P) rfl ⟨trivial, trivial, trivial, (ab_vi (by decide)), trivial⟩ ?_
    exact tr_reI (z := km_19) rfl ⟨_, rfl, rfl⟩ rfl
  refine tr_if (fun h9 => ?_) (fun h9 => ?_)
  · refine tr_sw (t := 83) (by rw [h9]; rfl) ?_
    refine tr_nil (rows2 := kb_19_83) rfl (List.cons_ne_nil _ _) ?_
    refine tr_blk 4 (pc' := 91) (rows' := kb_19_83.drop 4) (loc' := [.inr (12, 0, 0, 72), .inl (.int x1)]) (st' := [.inl (.int (P.1 477 360))]) (P1 := P) rfl ⟨trivial, trivial, trivial, (ab_vi (by decide)), trivial⟩ ?_
    exact tr_reI (z := km_19) rfl ⟨_, rfl, rfl⟩ rfl
  refine tr_if (fun h10 => ?_) (fun h10 => ?_)
  · refine tr_sw (t := 92) (by rw [h10]; rfl) ?_
    refine tr_nil (rows2 := kb_19_92) rfl (List.cons_ne_nil _ _) ?_
    refine tr_blk 3 (pc' := 97) (rows' := kb_19_92.drop 3) (loc' := [.inr (12, 0, 0, 72), .inl (.int x1)]) (st' := [.inr (20, 366, 0, 477), .inr (12, 0, 0, 72)]) (P1 := P) rfl ⟨trivial, trivial, trivial, trivial⟩ ?_
    refine tr_cRI (z := km_132) (av := [.inr (12, 0, 0, 72), .inr (20, 366, 0, 477)]) (st' := []) rfl rfl rfl (Nat.le_of_ble_eq_true rfl) ⟨rfl, Or.inl (by decide)⟩ rfl (Nat.le_of_ble_eq_true rfl) (t_132_366 477 N P) (fun v5 => ?_)
    exact tr_reI (z := km_19) rfl ⟨_, rfl, rfl⟩ rfl
  refine tr_if (fun h11 => ?_) (fun h11 => ?_)
  · refine tr_sw (t := 101) (by rw [h11]; rfl) ?_
    refine tr_nil (rows2 := kb_19_101) rfl (List.cons_ne_nil _ _) ?_
    refine tr_blk 4 (pc' := 109) (rows' := kb_19_101.drop 4) (loc' := [.inr (12, 0, 0, 72), .inl (.int x1)]) (st' := [.inl (.int (P.1 477 361))]) (P1 := P) rfl ⟨trivial, trivial, trivial, (ab_vi (by decide)), trivial⟩ ?_
    exact tr_reI (z := km_19) rfl ⟨_, rfl, rfl⟩ rfl
  refine tr_if (fun h12 => ?_) (fun h12 => ?_)
  · refine tr_sw (t := 110) (by rw [h12]; rfl) ?_
    refine tr_nil (rows2 := kb_19_110) rfl (List.cons_ne_nil _ _) ?_
    refine tr_gd (fun h6 => ?_)
    refine tr_blk 6 (pc' := 118) (rows' := kb_19_110.drop 6) (loc' := [.inr (12, 0, 0, 72), .inl (.int x1)]) (st' := [.inl (.int (P.1 76 ((x1 - (2 : Int32))).toNatClampNeg))]) (P1 := P) rfl ⟨trivial, trivial, trivial, trivial, trivial, h6, trivial⟩ ?_
    exact tr_reI (z := km_19) rfl ⟨_, rfl, rfl⟩ rfl
  refine tr_if (fun h13 => ?_) (fun h13 => ?_)
  · refine tr_sw (t := 110) (by rw [h13]; rfl) ?_
    refine tr_nil (rows2 := kb_19_110) rfl (List.cons_ne_nil _ _) ?_
    refine tr_gd (fun h7 => ?_)
    refine tr_blk 6 (pc' := 118) (rows' := kb_19_110.drop 6) (loc' := [.inr (12, 0, 0, 72), .inl (.int x1)]) (st' := [.inl (.int (P.1 76 ((x1 - (2 : Int32))).toNatClampNeg))]) (P1 := P) rfl ⟨trivial, trivial, trivial, trivial, trivial, h7, trivial⟩ ?_
    exact tr_reI (z := km_19) rfl ⟨_, rfl, rfl⟩ rfl
  refine tr_if (fun h14 => ?_) (fun h14 => ?_)
  · refine tr_sw (t := 119) (by rw [h14]; rfl) ?_
    refine tr_nil (rows2 := kb_19_119) rfl (List.cons_ne_nil _ _) ?_
    refine tr_blk 2 (pc' := 123) (rows' := kb_19_119.drop 2) (loc' := [.inr (12, 0, 0, 72), .inl (.int x1)]) (st' := [.inl (.int (P.1 72 29))]) (P1 := P) rfl ⟨trivial, trivial, trivial⟩ ?_
    exact tr_reI (z := km_19) rfl ⟨_, rfl, rfl⟩ rfl
  refine tr_sw (t := 124) (ab_swd (k := 7) (by decide) rfl ⟨ab_nei h8 (by decide), ab_nei h9 (by decide), ab_nei h10 (by decide), ab_nei h11 (by decide), ab_nei h12 (by decide), ab_nei h13 (by decide), ab_nei h14 (by decide), trivial⟩) ?_
  refine tr_nil (rows2 := kb_19_124) rfl (List.cons_ne_nil _ _) ?_
  refine tr_blk 2 (pc' := 128) (rows' := kb_19_124.drop 2) (loc' := [.inr (12, 0, 0, 72), .inl (.int x1)]) (st' := [.inl (.int (P.1 72 31))]) (P1 := P) rfl ⟨trivial, trivial, trivial⟩ ?_
  exact tr_reI (z := km_19) rfl ⟨_, rfl, rfl⟩ rfl
def f_19_21 (N : Nat) (x1 : Int32) (s0 : Int32) (P : ab_P) : Option (Int32 × ab_P) :=
    ab_b2 (f_113 s0 (1 : Int32) (1 : Int32) P) fun v4 P3 =>
    if v4 = (0 : Int32) then
      f_19_31 N x1 P3
    else
    some ((0 : Int32), P3)
theorem t_19_21 {xs : Nat × (Nat → Int32)} {d : Nat} (N : Nat) : ∀ (x1 : Int32) (s0 : Int32) (P : ab_P), ab_tr xs wI (d + 3) 19 21 [] [.inr (12, 0, 0, 72), .inl (.int x1)] [.inl (.int s0), .inr (12, 0, 0, 72)] P (f_19_21 N x1 s0 P) := by
  intro x1 s0 P
  unfold f_19_21
  refine tr_nil (rows2 := kb_19_21) rfl (List.cons_ne_nil _ _) ?_
  refine tr_blk 2 (pc' := 23) (rows' := kb_19_21.drop 2) (loc' := [.inr (12, 0, 0, 72), .inl (.int x1)]) (st' := [.inl (.int (1 : Int32)), .inl (.int (1 : Int32)), .inl (.int s0), .inr (12, 0, 0, 72)]) (P1 := P) rfl ⟨trivial, trivial, trivial⟩ ?_
  refine tr_cWI (z := km_113) (av := [.inr (12, 0, 0, 72), .inl (.int s0), .inl (.int (1 : Int32)), .inl (.int (1 : Int32))]) (st' := []) rfl rfl rfl (Nat.le_of_ble_eq_true rfl) ⟨rfl, Or.inl (by decide)⟩ rfl (Nat.le_of_ble_eq_true rfl) (t_113 s0 (1 : Int32) (1 : Int32) P) (fun v4 P3 => ?_)
  refine tr_if (fun h15 => ?_) (fun h15 => ?_)
  · refine tr_ifT (cd := .eq) h15 ?_
    exact t_19_31 N x1 P3
  · refine tr_ifF (cd := .eq) h15 ?_
    refine tr_blk 1 (pc' := 30) (rows' := kb_19_21.drop 5) (loc' := [.inr (12, 0, 0, 72), .inl (.int x1)]) (st' := [.inl (.int (0 : Int32))]) (P1 := P3) rfl ⟨trivial, trivial⟩ ?_
    exact tr_reI (z := km_19) rfl ⟨_, rfl, rfl⟩ rfl
def f_19 (N : Nat) (a1 : Int32) (P : ab_P) : Option (Int32 × ab_P) :=
    ab_lt (ab_pI P 72 0 (0 : Int32)) fun P1 =>
    Option.bind (f_112 P1 a1 (0 : Int32) (7 : Int32)) fun v2 =>
    if v2 = (0 : Int32) then
      f_19_21 N a1 (1 : Int32) P1
    else
    f_19_21 N a1 (0 : Int32) P1
theorem t_19 {xs : Nat × (Nat → Int32)} {d : Nat} (N : Nat) : ∀ (a1 : Int32) (P : ab_P), ab_tr xs wI (d + 3) 19 0 [] [.inr (12, 0, 0, 72), .inl (.int a1)] [] P (f_19 N a1 P) := by
  intro a1 P
  unfold f_19
  refine tr_nil (rows2 := kb_19_0) rfl (List.cons_ne_nil _ _) ?_
  refine tr_blk 3 (pc' := 5) (rows' := kb_19_0.drop 3) (loc' := [.inr (12, 0, 0, 72), .inl (.int a1)]) (st' := []) (P1 := (ab_pI P 72 0 (0 : Int32))) rfl ⟨trivial, trivial, trivial, trivial⟩ ?_
  refine tr_lt (fun P1 => ?_)
  refine tr_blk 4 (pc' := 10) (rows' := kb_19_0.drop 7) (loc' := [.inr (12, 0, 0, 72), .inl (.int a1)]) (st' := [.inl (.int (7 : Int32)), .inl (.int (0 : Int32)), .inl (.int a1), .inr (12, 0, 0, 72)]) (P1 := P1) rfl ⟨trivial, trivial, trivial, trivial, trivial⟩ ?_
  refine tr_cRI (z := km_112) (av := [.inl (.int a1), .inl (.int (0 : Int32)), .inl (.int (7 : Int32))]) (st' := [.inr (12, 0, 0, 72)]) rfl rfl rfl (Nat.le_of_ble_eq_true rfl) trivial rfl (Nat.le_of_ble_eq_true rfl) (t_112 P1 a1 (0 : Int32) (7 : Int32)) (fun v2 => ?_)
  refine tr_if (fun h16 => ?_) (fun h16 => ?_)
  · refine tr_ifF (cd := .ne) (fun q => q h16) ?_
    refine tr_blk 1 (pc' := 17) (rows' := kb_19_0.drop 10) (loc' := [.inr (12, 0, 0, 72), .inl (.int a1)]) (st' := [.inl (.int (1 : Int32)), .inr (12, 0, 0, 72)]) (P1 := P1) rfl ⟨trivial, trivial⟩ ?_
    refine tr_goto ?_
    exact t_19_21 N a1 (1 : Int32) P1
  · refine tr_ifT (cd := .ne) h16 ?_
    refine tr_nil (rows2 := kb_19_20) rfl (List.cons_ne_nil _ _) ?_
    refine tr_blk 1 (pc' := 21) (rows' := kb_19_20.drop 1) (loc' := [.inr (12, 0, 0, 72), .inl (.int a1)]) (st' := [.inl (.int (0 : Int32)), .inr (12, 0, 0, 72)]) (P1 := P1) rfl ⟨trivial, trivial⟩ ?_
    exact t_19_21 N a1 (0 : Int32) P1
def f_230 (a1 : Int32) (P : ab_P) : Option ((Unit ⊕ Fin 3) × ab_P) :=
    if a1 < (0 : Int32) then
      ab_lt (ab_pI P 71 0 ((P.1 71 0) + (1 : Int32))) fun P1 =>
      some (.inr 0, ab_ex P1)
    else
    if a1 < (P.1 43 2) then
      some (.inl (), P)
    else
    ab_lt (ab_pI P 71 0 ((P.1 71 0) + (1 : Int32))) fun P2 =>
    some (.inr 0, ab_ex P2)
theorem t_230 {xs : Nat × (Nat → Int32)} {d : Nat} : ∀ (a1 : Int32) (P : ab_P), ab_tr xs xV (d + 0) 230 0 [] [.inr (11, 0, 0, 0), .inl (.int a1)] [] P (f_230 a1 P) := by
  intro a1 P
  unfold f_230
  refine tr_nil (rows2 := kb_230_0) rfl (List.cons_ne_nil _ _) ?_
  refine tr_blk 1 (pc' := 1) (rows' := kb_230_0.drop 1) (loc' := [.inr (11, 0, 0, 0), .inl (.int a1)]) (st' := [.inl (.int a1)]) (P1 := P) rfl ⟨trivial, trivial⟩ ?_
  refine tr_if (fun h3 => ?_) (fun h3 => ?_)
  · refine tr_ifT (cd := .lt) h3 ?_
    refine tr_nil (rows2 := kb_230_15) rfl (List.cons_ne_nil _ _) ?_
    refine tr_blk 8 (pc' := 25) (rows' := kb_230_15.drop 8) (loc' := [.inr (11, 0, 0, 0), .inl (.int a1)]) (st' := []) (P1 := (ab_pI P 71 0 ((P.1 71 0) + (1 : Int32)))) rfl ⟨trivial, trivial, trivial, trivial, (ab_vi (by decide)), trivial, trivial, (ab_vi (by decide)), trivial⟩ ?_
    refine tr_lt (fun P1 => ?_)
    exact tr_thr (z := km_230) rfl rfl rfl
  · refine tr_ifF (cd := .lt) h3 ?_
    refine tr_blk 4 (pc' := 12) (rows' := kb_230_0.drop 6) (loc' := [.inr (11, 0, 0, 0), .inl (.int a1)]) (st' := [.inl (.int (P.1 43 2)), .inl (.int a1)]) (P1 := P) rfl ⟨trivial, trivial, trivial, trivial, trivial⟩ ?_
    refine tr_if (fun h4 => ?_) (fun h4 => ?_)
    · refine tr_icT (cd := .lt) h4 ?_
      refine tr_nil (rows2 := kb_230_36) rfl (List.cons_ne_nil _ _) ?_
      exact tr_reV (z := km_230) rfl rfl rfl
    · refine tr_icF (cd := .lt) h4 ?_
      refine tr_nil (rows2 := kb_230_15) rfl (List.cons_ne_nil _ _) ?_
      refine tr_blk 8 (pc' := 25) (rows' := kb_230_15.drop 8) (loc' := [.inr (11, 0, 0, 0), .inl (.int a1)]) (st' := []) (P1 := (ab_pI P 71 0 ((P.1 71 0) + (1 : Int32)))) rfl ⟨trivial, trivial, trivial, trivial, (ab_vi (by decide)), trivial, trivial, (ab_vi (by decide)), trivial⟩ ?_
      refine tr_lt (fun P2 => ?_)
      exact tr_thr (z := km_230) rfl rfl rfl
def f_133_21 (x1 : Int32) (x2 : Int32) (s0 : Int32) (P : ab_P) : Option ((Int32 ⊕ Fin 3) × ab_P) :=
    ab_x2 (f_228 s0 P) (fun _ P2 =>
    Option.bind (f_231 43 P2 x2 x1) fun v3 =>
    some (.inl v3, P2)) (fun q => q)
theorem t_133_21 {xs : Nat × (Nat → Int32)} {d : Nat} : ∀ (x1 : Int32) (x2 : Int32) (s0 : Int32) (P : ab_P), ab_tr xs xI (d + 1) 133 21 [] [.inr (11, 0, 0, 0), .inl (.int x1), .inl (.int x2)] [.inl (.int s0), .inr (11, 0, 0, 0)] P (f_133_21 x1 x2 s0 P) := by
  intro x1 x2 s0 P
  unfold f_133_21
  refine tr_nil (rows2 := kb_133_21) rfl (List.cons_ne_nil _ _) ?_
  refine tr_cax (fun _ => none) (zi := km_133) (fun _ => rfl) (fun _ _ => rfl) rfl rfl (z := km_228) (av := [.inr (11, 0, 0, 0), .inl (.int s0)]) (st' := []) rfl rfl rfl (Nat.le_of_ble_eq_true rfl) ⟨rfl, Or.inl (by decide)⟩ rfl (Nat.le_of_ble_eq_true rfl) (t_228 s0 P) (fun _ P2 => ?_)
  refine tr_blk 4 (pc' := 30) (rows' := kb_133_21.drop 5) (loc' := [.inr (11, 0, 0, 0), .inl (.int x1), .inl (.int x2)]) (st' := [.inl (.int x1), .inl (.int x2), .inr (6, 0, 0, 43)]) (P1 := P2) rfl ⟨trivial, trivial, trivial, trivial, trivial⟩ ?_
  refine tr_cRI (z := km_231) (av := [.inr (6, 0, 0, 43), .inl (.int x2), .inl (.int x1)]) (st' := []) rfl rfl rfl (Nat.le_of_ble_eq_true rfl) ⟨rfl, Or.inl (by decide)⟩ rfl (Nat.le_of_ble_eq_true rfl) (t_231 43 P2 x2 x1) (fun v3 => ?_)
  exact tr_reI (z := km_133) rfl ⟨_, rfl, rfl⟩ rfl
def f_133 (a1 : Int32) (a2 : Int32) (P : ab_P) : Option ((Int32 ⊕ Fin 3) × ab_P) :=
    ab_x2 (f_230 a1 P) (fun _ P1 =>
    if a2 < (0 : Int32) then
      f_133_21 a1 a2 (0 : Int32) P1
    else
    if (7 : Int32) < a2 then
      f_133_21 a1 a2 (0 : Int32) P1
    else
    f_133_21 a1 a2 (1 : Int32) P1) (fun q => q)
theorem t_133 {xs : Nat × (Nat → Int32)} {d : Nat} : ∀ (a1 : Int32) (a2 : Int32) (P : ab_P), ab_tr xs xI (d + 1) 133 0 [] [.inr (11, 0, 0, 0), .inl (.int a1), .inl (.int a2)] [] P (f_133 a1 a2 P) := by
  intro a1 a2 P
  unfold f_133
  refine tr_nil (rows2 := kb_133_0) rfl (List.cons_ne_nil _ _) ?_
  refine tr_blk 2 (pc' := 2) (rows' := kb_133_0.drop 2) (loc' := [.inr (11, 0, 0, 0), .inl (.int a1), .inl (.int a2)]) (st' := [.inl (.int a1), .inr (11, 0, 0, 0)]) (P1 := P) rfl ⟨trivial, trivial, trivial⟩ ?_
  refine tr_cax (fun _ => none) (zi := km_133) (fun _ => rfl) (fun _ _ => rfl) rfl rfl (z := km_230) (av := [.inr (11, 0, 0, 0), .inl (.int a1)]) (st' := []) rfl rfl rfl (Nat.le_of_ble_eq_true rfl) ⟨rfl, Or.inl (by decide)⟩ rfl (Nat.le_of_ble_eq_true rfl) (t_230 a1 P) (fun _ P1 => ?_)
  refine tr_blk 2 (pc' := 7) (rows' := kb_133_0.drop 5) (loc' := [.inr (11, 0, 0, 0), .inl (.int a1), .inl (.int a2)]) (st' := [.inl (.int a2), .inr (11, 0, 0, 0)]) (P1 := P1) rfl ⟨trivial, trivial, trivial⟩ ?_
  refine tr_if (fun h4 => ?_) (fun h4 => ?_)
  · refine tr_ifT (cd := .lt) h4 ?_
    refine tr_nil (rows2 := kb_133_20) rfl (List.cons_ne_nil _ _) ?_
    refine tr_blk 1 (pc' := 21) (rows' := kb_133_20.drop 1) (loc' := [.inr (11, 0, 0, 0), .inl (.int a1), .inl (.int a2)]) (st' := [.inl (.int (0 : Int32)), .inr (11, 0, 0, 0)]) (P1 := P1) rfl ⟨trivial, trivial⟩ ?_
    exact t_133_21 a1 a2 (0 : Int32) P1
  · refine tr_ifF (cd := .lt) h4 ?_
    refine tr_blk 2 (pc' := 13) (rows' := kb_133_0.drop 8) (loc' := [.inr (11, 0, 0, 0), .inl (.int a1), .inl (.int a2)]) (st' := [.inl (.int (7 : Int32)), .inl (.int a2), .inr (11, 0, 0, 0)]) (P1 := P1) rfl ⟨trivial, trivial, trivial⟩ ?_
    refine tr_if (fun h5 => ?_) (fun h5 => ?_)
    · refine tr_icT (cd := .gt) h5 ?_
      refine tr_nil (rows2 := kb_133_20) rfl (List.cons_ne_nil _ _) ?_
      refine tr_blk 1 (pc' := 21) (rows' := kb_133_20.drop 1) (loc' := [.inr (11, 0, 0, 0), .inl (.int a1), .inl (.int a2)]) (st' := [.inl (.int (0 : Int32)), .inr (11, 0, 0, 0)]) (P1 := P1) rfl ⟨trivial, trivial⟩ ?_
      exact t_133_21 a1 a2 (0 : Int32) P1
    · refine tr_icF (cd := .gt) h5 ?_
      refine tr_blk 1 (pc' := 17) (rows' := kb_133_0.drop 10) (loc' := [.inr (11, 0, 0, 0), .inl (.int a1), .inl (.int a2)]) (st' := [.inl (.int (1 : Int32)), .inr (11, 0, 0, 0)]) (P1 := P1) rfl ⟨trivial, trivial⟩ ?_
      refine tr_goto ?_
      exact t_133_21 a1 a2 (1 : Int32) P1
def f_20_1 (a1 : Int32) (a2 : Int32) (P : ab_P) : Option (Int32 × ab_P) :=
    ab_h2 (f_133 a1 a2 P) (fun v2 P1 =>
    ab_lt (ab_pL P1 570 0 (v2).toInt64) fun P3 =>
    some ((0 : Int32), P3))
    (fun P9 => some ((1 : Int32), P9)) (fun P9 => some ((2 : Int32), P9)) (fun _ => none)
theorem t_20_1 {xs : Nat × (Nat → Int32)} {d : Nat} : ∀ (a1 : Int32) (a2 : Int32) (P : ab_P), ab_tr xs wI (d + 2) 20 0 [] [.inr (11, 0, 0, 0), .inl (.int a1), .inl (.int a2), .inr (22, 1, 0, 570), ab_top] [] P (f_20_1 a1 a2 P) := by
  intro a1 a2 P
  unfold f_20_1
  refine tr_nil (rows2 := kb_20_0) rfl (List.cons_ne_nil _ _) ?_
  refine tr_blk 5 (pc' := 5) (rows' := kb_20_0.drop 5) (loc' := [.inr (11, 0, 0, 0), .inl (.int a1), .inl (.int a2), .inr (22, 1, 0, 570), ab_top]) (st' := [.inl (.int a2), .inl (.int a1), .inr (11, 0, 0, 0), .inl (.int (0 : Int32)), .inr (22, 1, 0, 570)]) (P1 := P) rfl ⟨trivial, trivial, trivial, trivial, trivial, trivial⟩ ?_
  refine tr_cah (fun b => some (.inl (.int b))) (zi := km_20) (fun _ => rfl) rfl (z := km_133) (av := [.inr (11, 0, 0, 0), .inl (.int a1), .inl (.int a2)]) (st' := [.inl (.int (0 : Int32)), .inr (22, 1, 0, 570)]) rfl rfl rfl (Nat.le_of_ble_eq_true rfl) ⟨rfl, Or.inl (by decide)⟩ rfl (Nat.le_of_ble_eq_true rfl) (t_133 a1 a2 P) (fun v2 P1 => ?_) ?_ ?_ ?_
  · refine tr_blk 2 (pc' := 10) (rows' := kb_20_0.drop 8) (loc' := [.inr (11, 0, 0, 0), .inl (.int a1), .inl (.int a2), .inr (22, 1, 0, 570), ab_top]) (st' := []) (P1 := (ab_pL P1 570 0 (v2).toInt64)) rfl ⟨trivial, (ab_vi (by decide)), trivial⟩ ?_
    refine tr_lt (fun P3 => ?_)
    refine tr_goto ?_
    refine tr_nil (rows2 := kb_20_21) rfl (List.cons_ne_nil _ _) ?_
    refine tr_blk 1 (pc' := 22) (rows' := kb_20_21.drop 1) (loc' := [.inr (11, 0, 0, 0), .inl (.int a1), .inl (.int a2), .inr (22, 1, 0, 570), ab_top]) (st' := [.inl (.int (0 : Int32))]) (P1 := P3) rfl ⟨trivial, trivial⟩ ?_
    exact tr_reI (z := km_20) rfl ⟨_, rfl, rfl⟩ rfl
  · exact fun _ => tr_han (rows2 := kb_20_13) (z := km_20) _ (fun q => [.inr (11, 0, 0, 0), .inl (.int a1), .inl (.int a2), .inr (22, 1, 0, 570), .inr (40, 0, 0, q)]) rfl (List.cons_ne_nil _ _) (fun q => rfl) ⟨trivial, trivial, trivial⟩ rfl ⟨_, rfl, rfl⟩ rfl
  · exact fun _ => tr_han (rows2 := kb_20_17) (z := km_20) _ (fun q => [.inr (11, 0, 0, 0), .inl (.int a1), .inl (.int a2), .inr (22, 1, 0, 570), .inr (40, 1, 0, q)]) rfl (List.cons_ne_nil _ _) (fun q => rfl) ⟨trivial, trivial, trivial⟩ rfl ⟨_, rfl, rfl⟩ rfl
  · exact fun _ => rfl
def f_134 (P : ab_P) (a1 : Int32) : Option Int32 :=
    Option.bind (f_112 P a1 (0 : Int32) ((P.1 477 360) - (1 : Int32))) fun v1 =>
    if vp_nar .boolean v1 = v1 then
    some v1
    else none
theorem t_134 {xs : Nat × (Nat → Int32)} {d : Nat} (P : ab_P) : ∀ (a1 : Int32), ab_tr xs (rI P) (d + 1) 134 0 [] [.inr (12, 0, 0, 72), .inl (.int a1)] [] P (f_134 P a1) := by
  intro a1
  unfold f_134
  refine tr_nil (rows2 := kb_134_0) rfl (List.cons_ne_nil _ _) ?_
  refine tr_blk 8 (pc' := 12) (rows' := kb_134_0.drop 8) (loc' := [.inr (12, 0, 0, 72), .inl (.int a1)]) (st' := [.inl (.int ((P.1 477 360) - (1 : Int32))), .inl (.int (0 : Int32)), .inl (.int a1)]) (P1 := P) rfl ⟨trivial, trivial, trivial, trivial, trivial, (ab_vi (by decide)), trivial, trivial, trivial⟩ ?_
  refine tr_cRI (z := km_112) (av := [.inl (.int a1), .inl (.int (0 : Int32)), .inl (.int ((P.1 477 360) - (1 : Int32)))]) (st' := []) rfl rfl rfl (Nat.le_of_ble_eq_true rfl) trivial rfl (Nat.le_of_ble_eq_true rfl) (t_112 P a1 (0 : Int32) ((P.1 477 360) - (1 : Int32))) (fun v1 => ?_)
  refine tr_gd (fun h2 => ?_)
  exact tr_reI (z := km_134) rfl ⟨_, rfl, ab_nar (by decide) h2⟩ rfl
def f_21_43 (x1 : Int32) (x2 : Int32) (s0 : Int32) (P : ab_P) : Option (Int32 × ab_P) :=
    ab_b2 (f_113 s0 (2 : Int32) (1 : Int32) P) fun v7 P6 =>
    if v7 = (0 : Int32) then
      Option.bind (f_135_366 477 P6 x1 x2) fun v8 =>
      some (v8, P6)
    else
    some ((0 : Int32), P6)
theorem t_21_43 {xs : Nat × (Nat → Int32)} {d : Nat} : ∀ (x1 : Int32) (x2 : Int32) (s0 : Int32) (P : ab_P), ab_tr xs wI (d + 2) 21 43 [] [.inr (12, 0, 0, 72), .inl (.int x1), .inl (.int x2)] [.inl (.int s0), .inr (12, 0, 0, 72)] P (f_21_43 x1 x2 s0 P) := by
  intro x1 x2 s0 P
  unfold f_21_43
  refine tr_nil (rows2 := kb_21_43) rfl (List.cons_ne_nil _ _) ?_
  refine tr_blk 2 (pc' := 45) (rows' := kb_21_43.drop 2) (loc' := [.inr (12, 0, 0, 72), .inl (.int x1), .inl (.int x2)]) (st' := [.inl (.int (1 : Int32)), .inl (.int (2 : Int32)), .inl (.int s0), .inr (12, 0, 0, 72)]) (P1 := P) rfl ⟨trivial, trivial, trivial⟩ ?_
  refine tr_cWI (z := km_113) (av := [.inr (12, 0, 0, 72), .inl (.int s0), .inl (.int (2 : Int32)), .inl (.int (1 : Int32))]) (st' := []) rfl rfl rfl (Nat.le_of_ble_eq_true rfl) ⟨rfl, Or.inl (by decide)⟩ rfl (Nat.le_of_ble_eq_true rfl) (t_113 s0 (2 : Int32) (1 : Int32) P) (fun v7 P6 => ?_)
  refine tr_if (fun h9 => ?_) (fun h9 => ?_)
  · refine tr_ifT (cd := .eq) h9 ?_
    refine tr_nil (rows2 := kb_21_53) rfl (List.cons_ne_nil _ _) ?_
    refine tr_blk 4 (pc' := 59) (rows' := kb_21_53.drop 4) (loc' := [.inr (12, 0, 0, 72), .inl (.int x1), .inl (.int x2)]) (st' := [.inl (.int x2), .inl (.int x1), .inr (20, 366, 0, 477)]) (P1 := P6) rfl ⟨trivial, trivial, trivial, trivial, trivial⟩ ?_
    refine tr_cRI (z := km_135) (av := [.inr (20, 366, 0, 477), .inl (.int x1), .inl (.int x2)]) (st' := []) rfl rfl rfl (Nat.le_of_ble_eq_true rfl) trivial rfl (Nat.le_of_ble_eq_true rfl) (t_135_366 477 P6 x1 x2) (fun v8 => ?_)
    exact tr_reI (z := km_21) rfl ⟨_, rfl, rfl⟩ rfl
  · refine tr_ifF (cd := .eq) h9 ?_
    refine tr_nil (rows2 := kb_21_51) rfl (List.cons_ne_nil _ _) ?_
    refine tr_blk 1 (pc' := 52) (rows' := kb_21_51.drop 1) (loc' := [.inr (12, 0, 0, 72), .inl (.int x1), .inl (.int x2)]) (st' := [.inl (.int (0 : Int32))]) (P1 := P6) rfl ⟨trivial, trivial⟩ ?_
    exact tr_reI (z := km_21) rfl ⟨_, rfl, rfl⟩ rfl
def f_21_19 (x1 : Int32) (x2 : Int32) (s0 : Int32) (P : ab_P) : Option (Int32 × ab_P) :=
    ab_b2 (f_113 s0 (1 : Int32) (0 : Int32) P) fun v4 P3 =>
    if v4 = (0 : Int32) then
      Option.bind (f_112 P3 x2 (0 : Int32) (7 : Int32)) fun v5 =>
      if v5 = (0 : Int32) then
        f_21_43 x1 x2 (1 : Int32) P3
      else
      f_21_43 x1 x2 (0 : Int32) P3
    else
    some ((0 : Int32), P3)
theorem t_21_19 {xs : Nat × (Nat → Int32)} {d : Nat} : ∀ (x1 : Int32) (x2 : Int32) (s0 : Int32) (P : ab_P), ab_tr xs wI (d + 2) 21 19 [] [.inr (12, 0, 0, 72), .inl (.int x1), .inl (.int x2)] [.inl (.int s0), .inr (12, 0, 0, 72)] P (f_21_19 x1 x2 s0 P) := by
  intro x1 x2 s0 P
  unfold f_21_19
  refine tr_nil (rows2 := kb_21_19) rfl (List.cons_ne_nil _ _) ?_
  refine tr_blk 2 (pc' := 21) (rows' := kb_21_19.drop 2) (loc' := [.inr (12, 0, 0, 72), .inl (.int x1), .inl (.int x2)]) (st' := [.inl (.int (0 : Int32)), .inl (.int (1 : Int32)), .inl (.int s0), .inr (12, 0, 0, 72)]) (P1 := P) rfl ⟨trivial, trivial, trivial⟩ ?_
  refine tr_cWI (z := km_113) (av := [.inr (12, 0, 0, 72), .inl (.int s0), .inl (.int (1 : Int32)), .inl (.int (0 : Int32))]) (st' := []) rfl rfl rfl (Nat.le_of_ble_eq_true rfl) ⟨rfl, Or.inl (by decide)⟩ rfl (Nat.le_of_ble_eq_true rfl) (t_113 s0 (1 : Int32) (0 : Int32) P) (fun v4 P3 => ?_)
  refine tr_if (fun h10 => ?_) (fun h10 => ?_)
  · refine tr_ifF (cd := .ne) (fun q => q h10) ?_
    refine tr_blk 4 (pc' := 32) (rows' := kb_21_19.drop 8) (loc' := [.inr (12, 0, 0, 72), .inl (.int x1), .inl (.int x2)]) (st' := [.inl (.int (7 : Int32)), .inl (.int (0 : Int32)), .inl (.int x2), .inr (12, 0, 0, 72)]) (P1 := P3) rfl ⟨trivial, trivial, trivial, trivial, trivial⟩ ?_
    refine tr_cRI (z := km_112) (av := [.inl (.int x2), .inl (.int (0 : Int32)), .inl (.int (7 : Int32))]) (st' := [.inr (12, 0, 0, 72)]) rfl rfl rfl (Nat.le_of_ble_eq_true rfl) trivial rfl (Nat.le_of_ble_eq_true rfl) (t_112 P3 x2 (0 : Int32) (7 : Int32)) (fun v5 => ?_)
    refine tr_if (fun h11 => ?_) (fun h11 => ?_)
    · refine tr_ifF (cd := .ne) (fun q => q h11) ?_
      refine tr_blk 1 (pc' := 39) (rows' := kb_21_19.drop 11) (loc' := [.inr (12, 0, 0, 72), .inl (.int x1), .inl (.int x2)]) (st' := [.inl (.int (1 : Int32)), .inr (12, 0, 0, 72)]) (P1 := P3) rfl ⟨trivial, trivial⟩ ?_
      refine tr_goto ?_
      exact t_21_43 x1 x2 (1 : Int32) P3
    · refine tr_ifT (cd := .ne) h11 ?_
      refine tr_nil (rows2 := kb_21_42) rfl (List.cons_ne_nil _ _) ?_
      refine tr_blk 1 (pc' := 43) (rows' := kb_21_42.drop 1) (loc' := [.inr (12, 0, 0, 72), .inl (.int x1), .inl (.int x2)]) (st' := [.inl (.int (0 : Int32)), .inr (12, 0, 0, 72)]) (P1 := P3) rfl ⟨trivial, trivial⟩ ?_
      exact t_21_43 x1 x2 (0 : Int32) P3
  · refine tr_ifT (cd := .ne) h10 ?_
    refine tr_nil (rows2 := kb_21_51) rfl (List.cons_ne_nil _ _) ?_
    refine tr_blk 1 (pc' := 52) (rows' := kb_21_51.drop 1) (loc' := [.inr (12, 0, 0, 72), .inl (.int x1), .inl (.int x2)]) (st' := [.inl (.int (0 : Int32))]) (P1 := P3) rfl ⟨trivial, trivial⟩ ?_
    exact tr_reI (z := km_21) rfl ⟨_, rfl, rfl⟩ rfl
def f_21 (a1 : Int32) (a2 : Int32) (P : ab_P) : Option (Int32 × ab_P) :=
    ab_lt (ab_pI P 72 0 (0 : Int32)) fun P1 =>
    Option.bind (f_134 P1 a1) fun v2 =>
    if v2 = (0 : Int32) then
      f_21_19 a1 a2 (1 : Int32) P1
    else
    f_21_19 a1 a2 (0 : Int32) P1
theorem t_21 {xs : Nat × (Nat → Int32)} {d : Nat} : ∀ (a1 : Int32) (a2 : Int32) (P : ab_P), ab_tr xs wI (d + 2) 21 0 [] [.inr (12, 0, 0, 72), .inl (.int a1), .inl (.int a2)] [] P (f_21 a1 a2 P) := by
  intro a1 a2 P
  unfold f_21
  refine tr_nil (rows2 := kb_21_0) rfl (List.cons_ne_nil _ _) ?_
  refine tr_blk 3 (pc' := 5) (rows' := kb_21_0.drop 3) (loc' := [.inr (12, 0, 0, 72), .inl (.int a1), .inl (.int a2)]) (st' := []) (P1 := (ab_pI P 72 0 (0 : Int32))) rfl ⟨trivial, trivial, trivial, trivial⟩ ?_
  refine tr_lt (fun P1 => ?_)
  refine tr_blk 3 (pc' := 8) (rows' := kb_21_0.drop 6) (loc' := [.inr (12, 0, 0, 72), .inl (.int a1), .inl (.int a2)]) (st' := [.inl (.int a1), .inr (12, 0, 0, 72), .inr (12, 0, 0, 72)]) (P1 := P1) rfl ⟨trivial, trivial, trivial, trivial⟩ ?_
  refine tr_cRI (z := km_134) (av := [.inr (12, 0, 0, 72), .inl (.int a1)]) (st' := [.inr (12, 0, 0, 72)]) rfl rfl rfl (Nat.le_of_ble_eq_true rfl) ⟨rfl, Or.inl (by decide)⟩ rfl (Nat.le_of_ble_eq_true rfl) (t_134 P1 a1) (fun v2 => ?_)
  refine tr_if (fun h12 => ?_) (fun h12 => ?_)
  · refine tr_ifF (cd := .ne) (fun q => q h12) ?_
    refine tr_blk 1 (pc' := 15) (rows' := kb_21_0.drop 9) (loc' := [.inr (12, 0, 0, 72), .inl (.int a1), .inl (.int a2)]) (st' := [.inl (.int (1 : Int32)), .inr (12, 0, 0, 72)]) (P1 := P1) rfl ⟨trivial, trivial⟩ ?_
    refine tr_goto ?_
    exact t_21_19 a1 a2 (1 : Int32) P1
  · refine tr_ifT (cd := .ne) h12 ?_
    refine tr_nil (rows2 := kb_21_18) rfl (List.cons_ne_nil _ _) ?_
    refine tr_blk 1 (pc' := 19) (rows' := kb_21_18.drop 1) (loc' := [.inr (12, 0, 0, 72), .inl (.int a1), .inl (.int a2)]) (st' := [.inl (.int (0 : Int32)), .inr (12, 0, 0, 72)]) (P1 := P1) rfl ⟨trivial, trivial⟩ ?_
    exact t_21_19 a1 a2 (0 : Int32) P1
def f_232 (a1 : Int32) (P : ab_P) : Option ((Unit ⊕ Fin 3) × ab_P) :=
    if a1 < (0 : Int32) then
      ab_lt (ab_pI P 71 0 ((P.1 71 0) + (1 : Int32))) fun P1 =>
      some (.inr 0, ab_ex P1)
    else
    if a1 < (P.1 3 5) then
      some (.inl (), P)
    else
    ab_lt (ab_pI P 71 0 ((P.1 71 0) + (1 : Int32))) fun P2 =>
    some (.inr 0, ab_ex P2)
theorem t_232 {xs : Nat × (Nat → Int32)} {d : Nat} : ∀ (a1 : Int32) (P : ab_P), ab_tr xs xV (d + 0) 232 0 [] [.inr (11, 0, 0, 0), .inl (.int a1)] [] P (f_232 a1 P) := by
  intro a1 P
  unfold f_232
  refine tr_nil (rows2 := kb_232_0) rfl (List.cons_ne_nil _ _) ?_
  refine tr_blk 1 (pc' := 1) (rows' := kb_232_0.drop 1) (loc' := [.inr (11, 0, 0, 0), .inl (.int a1)]) (st' := [.inl (.int a1)]) (P1 := P) rfl ⟨trivial, trivial⟩ ?_
  refine tr_if (fun h3 => ?_) (fun h3 => ?_)
  · refine tr_ifT (cd := .lt) h3 ?_
    refine tr_nil (rows2 := kb_232_15) rfl (List.cons_ne_nil _ _) ?_
    refine tr_blk 8 (pc' := 25) (rows' := kb_232_15.drop 8) (loc' := [.inr (11, 0, 0, 0), .inl (.int a1)]) (st' := []) (P1 := (ab_pI P 71 0 ((P.1 71 0) + (1 : Int32)))) rfl ⟨trivial, trivial, trivial, trivial, (ab_vi (by decide)), trivial, trivial, (ab_vi (by decide)), trivial⟩ ?_
    refine tr_lt (fun P1 => ?_)
    exact tr_thr (z := km_232) rfl rfl rfl
  · refine tr_ifF (cd := .lt) h3 ?_
    refine tr_blk 4 (pc' := 12) (rows' := kb_232_0.drop 6) (loc' := [.inr (11, 0, 0, 0), .inl (.int a1)]) (st' := [.inl (.int (P.1 3 5)), .inl (.int a1)]) (P1 := P) rfl ⟨trivial, trivial, trivial, trivial, trivial⟩ ?_
    refine tr_if (fun h4 => ?_) (fun h4 => ?_)
    · refine tr_icT (cd := .lt) h4 ?_
      refine tr_nil (rows2 := kb_232_36) rfl (List.cons_ne_nil _ _) ?_
      exact tr_reV (z := km_232) rfl rfl rfl
    · refine tr_icF (cd := .lt) h4 ?_
      refine tr_nil (rows2 := kb_232_15) rfl (List.cons_ne_nil _ _) ?_
      refine tr_blk 8 (pc' := 25) (rows' := kb_232_15.drop 8) (loc' := [.inr (11, 0, 0, 0), .inl (.int a1)]) (st' := []) (P1 := (ab_pI P 71 0 ((P.1 71 0) + (1 : Int32)))) rfl ⟨trivial, trivial, trivial, trivial, (ab_vi (by decide)), trivial, trivial, (ab_vi (by decide)), trivial⟩ ?_
      refine tr_lt (fun P2 => ?_)
      exact tr_thr (z := km_232) rfl rfl rfl
def f_234_5 (i0 : Nat) (P : ab_P) : Nat → Int32 → Int32 → Int32 → Int32 → Option Int32
  | 0, _, _, _, _ => none
  | n + 1, x1, x2, x3, x4 =>
    if x4 < (P.1 i0 2) then
      Option.bind (f_263 i0 P x4) fun v1 =>
      if v1 = (0 : Int32) then
        f_234_5 i0 P n x1 x2 (x3 + (0 : Int32)) (x4 + 1)
      else
      Option.bind (f_231 i0 P x1 x4) fun v2 =>
      if v2 = x2 then
        Option.bind (f_231 i0 P (2 : Int32) x4) fun v3 =>
        f_234_5 i0 P n x1 x2 (x3 + v3) (x4 + 1)
      else
      f_234_5 i0 P n x1 x2 (x3 + (0 : Int32)) (x4 + 1)
    else
    some x3
theorem t_234_5 {xs : Nat × (Nat → Int32)} {d : Nat} (i0 : Nat) (P : ab_P) : ∀ n : Nat, ∀ (x1 : Int32) (x2 : Int32) (x3 : Int32) (x4 : Int32), ab_tr xs (rI P) (d + 2) 234 5 [] [.inr (6, 0, 0, i0), .inl (.int x1), .inl (.int x2), .inl (.int x3), .inl (.int x4)] [] P (f_234_5 i0 P n x1 x2 x3 x4) := by
  intro n
  induction n with
  | zero => intro x1 x2 x3 x4; exact tr_no
  | succ n ih =>
    intro x1 x2 x3 x4
    refine tr_nil (rows2 := kb_234_5) rfl (List.cons_ne_nil _ _) ?_
    refine tr_blk 3 (pc' := 11) (rows' := kb_234_5.drop 3) (loc' := [.inr (6, 0, 0, i0), .inl (.int x1), .inl (.int x2), .inl (.int x3), .inl (.int x4)]) (st' := [.inl (.int (P.1 i0 2)), .inl (.int x4)]) (P1 := P) rfl ⟨trivial, trivial, trivial, trivial⟩ ?_
    refine tr_if (fun h4 => ?_) (fun h4 => ?_)
    · refine tr_icF (cd := .ge) (Int32.not_le.mpr h4) ?_
      refine tr_blk 3 (pc' := 18) (rows' := kb_234_5.drop 7) (loc' := [.inr (6, 0, 0, i0), .inl (.int x1), .inl (.int x2), .inl (.int x3), .inl (.int x4)]) (st' := [.inl (.int x4), .inr (6, 0, 0, i0), .inl (.int x3)]) (P1 := P) rfl ⟨trivial, trivial, trivial, trivial⟩ ?_
      refine tr_cRI (z := km_263) (av := [.inr (6, 0, 0, i0), .inl (.int x4)]) (st' := [.inl (.int x3)]) rfl rfl rfl (Nat.le_of_ble_eq_true rfl) ⟨rfl, Or.inl (by decide)⟩ rfl (Nat.le_of_ble_eq_true rfl) (t_263 i0 P x4) (fun v1 => ?_)
      refine tr_if (fun h5 => ?_) (fun h5 => ?_)
      · refine tr_ifT (cd := .eq) h5 ?_
        refine tr_nil (rows2 := kb_234_45) rfl (List.cons_ne_nil _ _) ?_
        refine tr_blk 1 (pc' := 46) (rows' := kb_234_45.drop 1) (loc' := [.inr (6, 0, 0, i0), .inl (.int x1), .inl (.int x2), .inl (.int x3), .inl (.int x4)]) (st' := [.inl (.int (0 : Int32)), .inl (.int x3)]) (P1 := P) rfl ⟨trivial, trivial⟩ ?_
        refine tr_nil (rows2 := kb_234_46) rfl (List.cons_ne_nil _ _) ?_
        refine tr_blk 3 (pc' := 51) (rows' := kb_234_46.drop 3) (loc' := [.inr (6, 0, 0, i0), .inl (.int x1), .inl (.int x2), .inl (.int (x3 + (0 : Int32))), .inl (.int (x4 + 1))]) (st' := []) (P1 := P) rfl ⟨trivial, trivial, trivial, trivial⟩ ?_
        refine tr_goto ?_
        exact ih x1 x2 (x3 + (0 : Int32)) (x4 + 1)
      · refine tr_ifF (cd := .eq) h5 ?_
        refine tr_blk 3 (pc' := 28) (rows' := kb_234_5.drop 12) (loc' := [.inr (6, 0, 0, i0), .inl (.int x1), .inl (.int x2), .inl (.int x3), .inl (.int x4)]) (st' := [.inl (.int x4), .inl (.int x1), .inr (6, 0, 0, i0), .inl (.int x3)]) (P1 := P) rfl ⟨trivial, trivial, trivial, trivial⟩ ?_
        refine tr_cRI (z := km_231) (av := [.inr (6, 0, 0, i0), .inl (.int x1), .inl (.int x4)]) (st' := [.inl (.int x3)]) rfl rfl rfl (Nat.le_of_ble_eq_true rfl) ⟨rfl, Or.inl (by decide)⟩ rfl (Nat.le_of_ble_eq_true rfl) (t_231 i0 P x1 x4) (fun v2 => ?_)
        refine tr_blk 1 (pc' := 32) (rows' := kb_234_5.drop 14) (loc' := [.inr (6, 0, 0, i0), .inl (.int x1), .inl (.int x2), .inl (.int x3), .inl (.int x4)]) (st' := [.inl (.int x2), .inl (.int v2), .inl (.int x3)]) (P1 := P) rfl ⟨trivial, trivial⟩ ?_
        refine tr_if (fun h6 => ?_) (fun h6 => ?_)
        · refine tr_icF (cd := .ne) (fun q => q h6) ?_
          refine tr_blk 3 (pc' := 39) (rows' := kb_234_5.drop 18) (loc' := [.inr (6, 0, 0, i0), .inl (.int x1), .inl (.int x2), .inl (.int x3), .inl (.int x4)]) (st' := [.inl (.int x4), .inl (.int (2 : Int32)), .inr (6, 0, 0, i0), .inl (.int x3)]) (P1 := P) rfl ⟨trivial, trivial, trivial, trivial⟩ ?_
          refine tr_cRI (z := km_231) (av := [.inr (6, 0, 0, i0), .inl (.int (2 : Int32)), .inl (.int x4)]) (st' := [.inl (.int x3)]) rfl rfl rfl (Nat.le_of_ble_eq_true rfl) ⟨rfl, Or.inl (by decide)⟩ rfl (Nat.le_of_ble_eq_true rfl) (t_231 i0 P (2 : Int32) x4) (fun v3 => ?_)
          refine tr_goto ?_
          refine tr_nil (rows2 := kb_234_46) rfl (List.cons_ne_nil _ _) ?_
          refine tr_blk 3 (pc' := 51) (rows' := kb_234_46.drop 3) (loc' := [.inr (6, 0, 0, i0), .inl (.int x1), .inl (.int x2), .inl (.int (x3 + v3)), .inl (.int (x4 + 1))]) (st' := []) (P1 := P) rfl ⟨trivial, trivial, trivial, trivial⟩ ?_
          refine tr_goto ?_
          exact ih x1 x2 (x3 + v3) (x4 + 1)
        · refine tr_icT (cd := .ne) h6 ?_
          refine tr_nil (rows2 := kb_234_45) rfl (List.cons_ne_nil _ _) ?_
          refine tr_blk 1 (pc' := 46) (rows' := kb_234_45.drop 1) (loc' := [.inr (6, 0, 0, i0), .inl (.int x1), .inl (.int x2), .inl (.int x3), .inl (.int x4)]) (st' := [.inl (.int (0 : Int32)), .inl (.int x3)]) (P1 := P) rfl ⟨trivial, trivial⟩ ?_
          refine tr_nil (rows2 := kb_234_46) rfl (List.cons_ne_nil _ _) ?_
          refine tr_blk 3 (pc' := 51) (rows' := kb_234_46.drop 3) (loc' := [.inr (6, 0, 0, i0), .inl (.int x1), .inl (.int x2), .inl (.int (x3 + (0 : Int32))), .inl (.int (x4 + 1))]) (st' := []) (P1 := P) rfl ⟨trivial, trivial, trivial, trivial⟩ ?_
          refine tr_goto ?_
          exact ih x1 x2 (x3 + (0 : Int32)) (x4 + 1)
    · refine tr_icT (cd := .ge) (Int32.not_lt.mp h4) ?_
      refine tr_nil (rows2 := kb_234_54) rfl (List.cons_ne_nil _ _) ?_
      refine tr_blk 1 (pc' := 55) (rows' := kb_234_54.drop 1) (loc' := [.inr (6, 0, 0, i0), .inl (.int x1), .inl (.int x2), .inl (.int x3), .inl (.int x4)]) (st' := [.inl (.int x3)]) (P1 := P) rfl ⟨trivial, trivial⟩ ?_
      exact tr_reI (z := km_234) rfl ⟨_, rfl, rfl⟩ rfl
def f_234 (i0 : Nat) (N : Nat) (P : ab_P) (a1 : Int32) (a2 : Int32) : Option Int32 :=
    f_234_5 i0 P N a1 a2 (0 : Int32) (0 : Int32)
theorem t_234 {xs : Nat × (Nat → Int32)} {d : Nat} (i0 : Nat) (N : Nat) (P : ab_P) : ∀ (a1 : Int32) (a2 : Int32), ab_tr xs (rI P) (d + 2) 234 0 [] [.inr (6, 0, 0, i0), .inl (.int a1), .inl (.int a2), ab_top, ab_top] [] P (f_234 i0 N P a1 a2) := by
  intro a1 a2
  unfold f_234
  refine tr_nil (rows2 := kb_234_0) rfl (List.cons_ne_nil _ _) ?_
  refine tr_blk 4 (pc' := 5) (rows' := kb_234_0.drop 4) (loc' := [.inr (6, 0, 0, i0), .inl (.int a1), .inl (.int a2), .inl (.int (0 : Int32)), .inl (.int (0 : Int32))]) (st' := []) (P1 := P) rfl ⟨trivial, trivial, trivial, trivial, trivial⟩ ?_
  exact t_234_5 i0 P N a1 a2 (0 : Int32) (0 : Int32)
def f_136_20 (N : Nat) (x1 : Int32) (x2 : Int32) (s0 : Int32) (P : ab_P) : Option ((Int32 ⊕ Fin 3) × ab_P) :=
    ab_x2 (f_228 s0 P) (fun _ P2 =>
    if x2 = 0 then
      Option.bind (f_233 3 P2 x1) fun v3 =>
      some (.inl v3, P2)
    else
    if x2 = 1 then
      Option.bind (f_234 43 N P2 (1 : Int32) x1) fun v4 =>
      some (.inl v4, P2)
    else
    if x2 = 2 then
      Option.bind (f_234 43 N P2 (0 : Int32) x1) fun v5 =>
      some (.inl v5, P2)
    else
    if x2 = 3 then
      Option.bind (f_235 43 N P2 (1 : Int32) x1) fun v6 =>
      some (.inl v6, P2)
    else
    Option.bind (f_235 43 N P2 (0 : Int32) x1) fun v7 =>
    some (.inl v7, P2)) (fun q => q)
theorem t_136_20 {xs : Nat × (Nat → Int32)} {d : Nat} (N : Nat) : ∀ (x1 : Int32) (x2 : Int32) (s0 : Int32) (P : ab_P), ab_tr xs xI (d + 3) 136 20 [] [.inr (11, 0, 0, 0), .inl (.int x1), .inl (.int x2)] [.inl (.int s0), .inr (11, 0, 0, 0)] P (f_136_20 N x1 x2 s0 P) := by
  intro x1 x2 s0 P
  unfold f_136_20
  refine tr_nil (rows2 := kb_136_20) rfl (List.cons_ne_nil _ _) ?_
  refine tr_cax (fun _ => none) (zi := km_136) (fun _ => rfl) (fun _ _ => rfl) rfl rfl (z := km_228) (av := [.inr (11, 0, 0, 0), .inl (.int s0)]) (st' := []) rfl rfl rfl (Nat.le_of_ble_eq_true rfl) ⟨rfl, Or.inl (by decide)⟩ rfl (Nat.le_of_ble_eq_true rfl) (t_228 s0 P) (fun _ P2 => ?_)
  refine tr_blk 1 (pc' := 24) (rows' := kb_136_20.drop 2) (loc' := [.inr (11, 0, 0, 0), .inl (.int x1), .inl (.int x2)]) (st' := [.inl (.int x2)]) (P1 := P2) rfl ⟨trivial, trivial⟩ ?_
  refine tr_if (fun h8 => ?_) (fun h8 => ?_)
  · refine tr_sw (t := 56) (by rw [h8]; rfl) ?_
    refine tr_nil (rows2 := kb_136_56) rfl (List.cons_ne_nil _ _) ?_
    refine tr_blk 3 (pc' := 61) (rows' := kb_136_56.drop 3) (loc' := [.inr (11, 0, 0, 0), .inl (.int x1), .inl (.int x2)]) (st' := [.inl (.int x1), .inr (10, 0, 0, 3)]) (P1 := P2) rfl ⟨trivial, trivial, trivial, trivial⟩ ?_
    refine tr_cRI (z := km_233) (av := [.inr (10, 0, 0, 3), .inl (.int x1)]) (st' := []) rfl rfl rfl (Nat.le_of_ble_eq_true rfl) ⟨rfl, Or.inl (by decide)⟩ rfl (Nat.le_of_ble_eq_true rfl) (t_233 3 P2 x1) (fun v3 => ?_)
    exact tr_reI (z := km_136) rfl ⟨_, rfl, rfl⟩ rfl
  refine tr_if (fun h9 => ?_) (fun h9 => ?_)
  · refine tr_sw (t := 65) (by rw [h9]; rfl) ?_
    refine tr_nil (rows2 := kb_136_65) rfl (List.cons_ne_nil _ _) ?_
    refine tr_blk 4 (pc' := 71) (rows' := kb_136_65.drop 4) (loc' := [.inr (11, 0, 0, 0), .inl (.int x1), .inl (.int x2)]) (st' := [.inl (.int x1), .inl (.int (1 : Int32)), .inr (6, 0, 0, 43)]) (P1 := P2) rfl ⟨trivial, trivial, trivial, trivial, trivial⟩ ?_
    refine tr_cRI (z := km_234) (av := [.inr (6, 0, 0, 43), .inl (.int (1 : Int32)), .inl (.int x1)]) (st' := []) rfl rfl rfl (Nat.le_of_ble_eq_true rfl) ⟨rfl, Or.inl (by decide)⟩ rfl (Nat.le_of_ble_eq_true rfl) (t_234 43 N P2 (1 : Int32) x1) (fun v4 => ?_)
    exact tr_reI (z := km_136) rfl ⟨_, rfl, rfl⟩ rfl
  refine tr_if (fun h10 => ?_) (fun h10 => ?_)
  · refine tr_sw (t := 75) (by rw [h10]; rfl) ?_
    refine tr_nil (rows2 := kb_136_75) rfl (List.cons_ne_nil _ _) ?_
    refine tr_blk 4 (pc' := 81) (rows' := kb_136_75.drop 4) (loc' := [.inr (11, 0, 0, 0), .inl (.int x1), .inl (.int x2)]) (st' := [.inl (.int x1), .inl (.int (0 : Int32)), .inr (6, 0, 0, 43)]) (P1 := P2) rfl ⟨trivial, trivial, trivial, trivial, trivial⟩ ?_
    refine tr_cRI (z := km_234) (av := [.inr (6, 0, 0, 43), .inl (.int (0 : Int32)), .inl (.int x1)]) (st' := []) rfl rfl rfl (Nat.le_of_ble_eq_true rfl) ⟨rfl, Or.inl (by decide)⟩ rfl (Nat.le_of_ble_eq_true rfl) (t_234 43 N P2 (0 : Int32) x1) (fun v5 => ?_)
    exact tr_reI (z := km_136) rfl ⟨_, rfl, rfl⟩ rfl
  refine tr_if (fun h11 => ?_) (fun h11 => ?_)
  · refine tr_sw (t := 85) (by rw [h11]; rfl) ?_
    refine tr_nil (rows2 := kb_136_85) rfl (List.cons_ne_nil _ _) ?_
    refine tr_blk 4 (pc' := 91) (rows' := kb_136_85.drop 4) (loc' := [.inr (11, 0, 0, 0), .inl (.int x1), .inl (.int x2)]) (st' := [.inl (.int x1), .inl (.int (1 : Int32)), .inr (6, 0, 0, 43)]) (P1 := P2) rfl ⟨trivial, trivial, trivial, trivial, trivial⟩ ?_
    refine tr_cRI (z := km_235) (av := [.inr (6, 0, 0, 43), .inl (.int (1 : Int32)), .inl (.int x1)]) (st' := []) rfl rfl rfl (Nat.le_of_ble_eq_true rfl) ⟨rfl, Or.inl (by decide)⟩ rfl (Nat.le_of_ble_eq_true rfl) (t_235 43 N P2 (1 : Int32) x1) (fun v6 => ?_)
    exact tr_reI (z := km_136) rfl ⟨_, rfl, rfl⟩ rfl
  refine tr_sw (t := 95) (ab_swd (k := 4) (by decide) rfl ⟨ab_nei h8 (by decide), ab_nei h9 (by decide), ab_nei h10 (by decide), ab_nei h11 (by decide), trivial⟩) ?_
  refine tr_nil (rows2 := kb_136_95) rfl (List.cons_ne_nil _ _) ?_
  refine tr_blk 4 (pc' := 101) (rows' := kb_136_95.drop 4) (loc' := [.inr (11, 0, 0, 0), .inl (.int x1), .inl (.int x2)]) (st' := [.inl (.int x1), .inl (.int (0 : Int32)), .inr (6, 0, 0, 43)]) (P1 := P2) rfl ⟨trivial, trivial, trivial, trivial, trivial⟩ ?_
  refine tr_cRI (z := km_235) (av := [.inr (6, 0, 0, 43), .inl (.int (0 : Int32)), .inl (.int x1)]) (st' := []) rfl rfl rfl (Nat.le_of_ble_eq_true rfl) ⟨rfl, Or.inl (by decide)⟩ rfl (Nat.le_of_ble_eq_true rfl) (t_235 43 N P2 (0 : Int32) x1) (fun v7 => ?_)
  exact tr_reI (z := km_136) rfl ⟨_, rfl, rfl⟩ rfl
def f_136 (N : Nat) (a1 : Int32) (a2 : Int32) (P : ab_P) : Option ((Int32 ⊕ Fin 3) × ab_P) :=
    ab_x2 (f_232 a1 P) (fun _ P1 =>
    if a2 < (0 : Int32) then
      f_136_20 N a1 a2 (0 : Int32) P1
    else
    if (4 : Int32) < a2 then
      f_136_20 N a1 a2 (0 : Int32) P1
    else
    f_136_20 N a1 a2 (1 : Int32) P1) (fun q => q)
theorem t_136 {xs : Nat × (Nat → Int32)} {d : Nat} (N : Nat) : ∀ (a1 : Int32) (a2 : Int32) (P : ab_P), ab_tr xs xI (d + 3) 136 0 [] [.inr (11, 0, 0, 0), .inl (.int a1), .inl (.int a2)] [] P (f_136 N a1 a2 P) := by
  intro a1 a2 P
  unfold f_136
  refine tr_nil (rows2 := kb_136_0) rfl (List.cons_ne_nil _ _) ?_
  refine tr_blk 2 (pc' := 2) (rows' := kb_136_0.drop 2) (loc' := [.inr (11, 0, 0, 0), .inl (.int a1), .inl (.int a2)]) (st' := [.inl (.int a1), .inr (11, 0, 0, 0)]) (P1 := P) rfl ⟨trivial, trivial, trivial⟩ ?_
  refine tr_cax (fun _ => none) (zi := km_136) (fun _ => rfl) (fun _ _ => rfl) rfl rfl (z := km_232) (av := [.inr (11, 0, 0, 0), .inl (.int a1)]) (st' := []) rfl rfl rfl (Nat.le_of_ble_eq_true rfl) ⟨rfl, Or.inl (by decide)⟩ rfl (Nat.le_of_ble_eq_true rfl) (t_232 a1 P) (fun _ P1 => ?_)
  refine tr_blk 2 (pc' := 7) (rows' := kb_136_0.drop 5) (loc' := [.inr (11, 0, 0, 0), .inl (.int a1), .inl (.int a2)]) (st' := [.inl (.int a2), .inr (11, 0, 0, 0)]) (P1 := P1) rfl ⟨trivial, trivial, trivial⟩ ?_
  refine tr_if (fun h12 => ?_) (fun h12 => ?_)
  · refine tr_ifT (cd := .lt) h12 ?_
    refine tr_nil (rows2 := kb_136_19) rfl (List.cons_ne_nil _ _) ?_
    refine tr_blk 1 (pc' := 20) (rows' := kb_136_19.drop 1) (loc' := [.inr (11, 0, 0, 0), .inl (.int a1), .inl (.int a2)]) (st' := [.inl (.int (0 : Int32)), .inr (11, 0, 0, 0)]) (P1 := P1) rfl ⟨trivial, trivial⟩ ?_
    exact t_136_20 N a1 a2 (0 : Int32) P1
  · refine tr_ifF (cd := .lt) h12 ?_
    refine tr_blk 2 (pc' := 12) (rows' := kb_136_0.drop 8) (loc' := [.inr (11, 0, 0, 0), .inl (.int a1), .inl (.int a2)]) (st' := [.inl (.int (4 : Int32)), .inl (.int a2), .inr (11, 0, 0, 0)]) (P1 := P1) rfl ⟨trivial, trivial, trivial⟩ ?_
    refine tr_if (fun h13 => ?_) (fun h13 => ?_)
    · refine tr_icT (cd := .gt) h13 ?_
      refine tr_nil (rows2 := kb_136_19) rfl (List.cons_ne_nil _ _) ?_
      refine tr_blk 1 (pc' := 20) (rows' := kb_136_19.drop 1) (loc' := [.inr (11, 0, 0, 0), .inl (.int a1), .inl (.int a2)]) (st' := [.inl (.int (0 : Int32)), .inr (11, 0, 0, 0)]) (P1 := P1) rfl ⟨trivial, trivial⟩ ?_
      exact t_136_20 N a1 a2 (0 : Int32) P1
    · refine tr_icF (cd := .gt) h13 ?_
      refine tr_blk 1 (pc' := 16) (rows' := kb_136_0.drop 10) (loc' := [.inr (11, 0, 0, 0), .inl (.int a1), .inl (.int a2)]) (st' := [.inl (.int (1 : Int32)), .inr (11, 0, 0, 0)]) (P1 := P1) rfl ⟨trivial, trivial⟩ ?_
      refine tr_goto ?_
      exact t_136_20 N a1 a2 (1 : Int32) P1
def f_22_1 (N : Nat) (a1 : Int32) (a2 : Int32) (P : ab_P) : Option (Int32 × ab_P) :=
    ab_h2 (f_136 N a1 a2 P) (fun v2 P1 =>
    ab_lt (ab_pL P1 570 0 (v2).toInt64) fun P3 =>
    some ((0 : Int32), P3))
    (fun P9 => some ((1 : Int32), P9)) (fun P9 => some ((2 : Int32), P9)) (fun _ => none)
theorem t_22_1 {xs : Nat × (Nat → Int32)} {d : Nat} (N : Nat) : ∀ (a1 : Int32) (a2 : Int32) (P : ab_P), ab_tr xs wI (d + 4) 22 0 [] [.inr (11, 0, 0, 0), .inl (.int a1), .inl (.int a2), .inr (22, 1, 0, 570), ab_top] [] P (f_22_1 N a1 a2 P) := by
  intro a1 a2 P
  unfold f_22_1
  refine tr_nil (rows2 := kb_22_0) rfl (List.cons_ne_nil _ _) ?_
  refine tr_blk 5 (pc' := 5) (rows' := kb_22_0.drop 5) (loc' := [.inr (11, 0, 0, 0), .inl (.int a1), .inl (.int a2), .inr (22, 1, 0, 570), ab_top]) (st' := [.inl (.int a2), .inl (.int a1), .inr (11, 0, 0, 0), .inl (.int (0 : Int32)), .inr (22, 1, 0, 570)]) (P1 := P) rfl ⟨trivial, trivial, trivial, trivial, trivial, trivial⟩ ?_
  refine tr_cah (fun b => some (.inl (.int b))) (zi := km_22) (fun _ => rfl) rfl (z := km_136) (av := [.inr (11, 0, 0, 0), .inl (.int a1), .inl (.int a2)]) (st' := [.inl (.int (0 : Int32)), .inr (22, 1, 0, 570)]) rfl rfl rfl (Nat.le_of_ble_eq_true rfl) ⟨rfl, Or.inl (by decide)⟩ rfl (Nat.le_of_ble_eq_true rfl) (t_136 N a1 a2 P) (fun v2 P1 => ?_) ?_ ?_ ?_
  · refine tr_blk 2 (pc' := 10) (rows' := kb_22_0.drop 8) (loc' := [.inr (11, 0, 0, 0), .inl (.int a1), .inl (.int a2), .inr (22, 1, 0, 570), ab_top]) (st' := []) (P1 := (ab_pL P1 570 0 (v2).toInt64)) rfl ⟨trivial, (ab_vi (by decide)), trivial⟩ ?_
    refine tr_lt (fun P3 => ?_)
    refine tr_goto ?_
    refine tr_nil (rows2 := kb_22_21) rfl (List.cons_ne_nil _ _) ?_
    refine tr_blk 1 (pc' := 22) (rows' := kb_22_21.drop 1) (loc' := [.inr (11, 0, 0, 0), .inl (.int a1), .inl (.int a2), .inr (22, 1, 0, 570), ab_top]) (st' := [.inl (.int (0 : Int32))]) (P1 := P3) rfl ⟨trivial, trivial⟩ ?_
    exact tr_reI (z := km_22) rfl ⟨_, rfl, rfl⟩ rfl
  · exact fun _ => tr_han (rows2 := kb_22_13) (z := km_22) _ (fun q => [.inr (11, 0, 0, 0), .inl (.int a1), .inl (.int a2), .inr (22, 1, 0, 570), .inr (40, 0, 0, q)]) rfl (List.cons_ne_nil _ _) (fun q => rfl) ⟨trivial, trivial, trivial⟩ rfl ⟨_, rfl, rfl⟩ rfl
  · exact fun _ => tr_han (rows2 := kb_22_17) (z := km_22) _ (fun q => [.inr (11, 0, 0, 0), .inl (.int a1), .inl (.int a2), .inr (22, 1, 0, 570), .inr (40, 1, 0, q)]) rfl (List.cons_ne_nil _ _) (fun q => rfl) ⟨trivial, trivial, trivial⟩ rfl ⟨_, rfl, rfl⟩ rfl
  · exact fun _ => rfl
def f_137 (P : ab_P) (a1 : Int32) : Option Int32 :=
    Option.bind (f_112 P a1 (0 : Int32) ((P.1 76 0) - (1 : Int32))) fun v1 =>
    if vp_nar .boolean v1 = v1 then
    some v1
    else none
theorem t_137 {xs : Nat × (Nat → Int32)} {d : Nat} (P : ab_P) : ∀ (a1 : Int32), ab_tr xs (rI P) (d + 1) 137 0 [] [.inr (12, 0, 0, 72), .inl (.int a1)] [] P (f_137 P a1) := by
  intro a1
  unfold f_137
  refine tr_nil (rows2 := kb_137_0) rfl (List.cons_ne_nil _ _) ?_
  refine tr_blk 8 (pc' := 10) (rows' := kb_137_0.drop 8) (loc' := [.inr (12, 0, 0, 72), .inl (.int a1)]) (st' := [.inl (.int ((P.1 76 0) - (1 : Int32))), .inl (.int (0 : Int32)), .inl (.int a1)]) (P1 := P) rfl ⟨trivial, trivial, trivial, trivial, trivial, (ab_vi (by decide)), trivial, trivial, trivial⟩ ?_
  refine tr_cRI (z := km_112) (av := [.inl (.int a1), .inl (.int (0 : Int32)), .inl (.int ((P.1 76 0) - (1 : Int32)))]) (st' := []) rfl rfl rfl (Nat.le_of_ble_eq_true rfl) trivial rfl (Nat.le_of_ble_eq_true rfl) (t_112 P a1 (0 : Int32) ((P.1 76 0) - (1 : Int32))) (fun v1 => ?_)
  refine tr_gd (fun h2 => ?_)
  exact tr_reI (z := km_137) rfl ⟨_, rfl, ab_nar (by decide) h2⟩ rfl
def f_138_366_6 (i0 : Nat) (P : ab_P) : Nat → Int32 → Int32 → Int32 → Int32 → Int32 → Option Int32
  | 0, _, _, _, _, _ => none
  | n + 1, x1, x2, x3, x4, x5 =>
    if x5 < (P.1 i0 360) then
      Option.bind (f_144_366 i0 P x5) fun v1 =>
      if v1 = (0 : Int32) then
        f_138_366_6 i0 P n x1 x2 x3 x4 (x5 + 1)
      else
      Option.bind (f_135_366 i0 P x5 x1) fun v2 =>
      if v2 = x2 then
        if x3 = (0 : Int32) then
          f_138_366_6 i0 P n x1 x2 x3 (x4 + (1 : Int32)) (x5 + 1)
        else
        Option.bind (f_135_366 i0 P x5 (2 : Int32)) fun v3 =>
        f_138_366_6 i0 P n x1 x2 x3 (x4 + v3) (x5 + 1)
      else
      f_138_366_6 i0 P n x1 x2 x3 x4 (x5 + 1)
    else
    some x4
theorem t_138_366_6 {xs : Nat × (Nat → Int32)} {d : Nat} (i0 : Nat) (P : ab_P) : ∀ n : Nat, ∀ (x1 : Int32) (x2 : Int32) (x3 : Int32) (x4 : Int32) (x5 : Int32), ab_tr xs (rI P) (d + 2) 138 6 [] [.inr (20, 366, 0, i0), .inl (.int x1), .inl (.int x2), .inl (.int x3), .inl (.int x4), .inl (.int x5)] [] P (f_138_366_6 i0 P n x1 x2 x3 x4 x5) := by
  intro n
  induction n with
  | zero => intro x1 x2 x3 x4 x5; exact tr_no
  | succ n ih =>
    intro x1 x2 x3 x4 x5
    refine tr_nil (rows2 := kb_138_6) rfl (List.cons_ne_nil _ _) ?_
    refine tr_blk 4 (pc' := 13) (rows' := kb_138_6.drop 4) (loc' := [.inr (20, 366, 0, i0), .inl (.int x1), .inl (.int x2), .inl (.int x3), .inl (.int x4), .inl (.int x5)]) (st' := [.inl (.int (P.1 i0 360)), .inl (.int x5)]) (P1 := P) rfl ⟨trivial, trivial, trivial, (ab_vi (by decide)), trivial⟩ ?_
    refine tr_if (fun h4 => ?_) (fun h4 => ?_)
    · refine tr_icF (cd := .ge) (Int32.not_le.mpr h4) ?_
      refine tr_blk 2 (pc' := 19) (rows' := kb_138_6.drop 7) (loc' := [.inr (20, 366, 0, i0), .inl (.int x1), .inl (.int x2), .inl (.int x3), .inl (.int x4), .inl (.int x5)]) (st' := [.inl (.int x5), .inr (20, 366, 0, i0)]) (P1 := P) rfl ⟨trivial, trivial, trivial⟩ ?_
      refine tr_cRI (z := km_144) (av := [.inr (20, 366, 0, i0), .inl (.int x5)]) (st' := []) rfl rfl rfl (Nat.le_of_ble_eq_true rfl) trivial rfl (Nat.le_of_ble_eq_true rfl) (t_144_366 i0 P x5) (fun v1 => ?_)
      refine tr_if (fun h5 => ?_) (fun h5 => ?_)
      · refine tr_ifT (cd := .eq) h5 ?_
        refine tr_nil (rows2 := kb_138_56) rfl (List.cons_ne_nil _ _) ?_
        refine tr_blk 1 (pc' := 59) (rows' := kb_138_56.drop 1) (loc' := [.inr (20, 366, 0, i0), .inl (.int x1), .inl (.int x2), .inl (.int x3), .inl (.int x4), .inl (.int (x5 + 1))]) (st' := []) (P1 := P) rfl ⟨trivial, trivial⟩ ?_
        refine tr_goto ?_
        exact ih x1 x2 x3 x4 (x5 + 1)
      · refine tr_ifF (cd := .eq) h5 ?_
        refine tr_blk 3 (pc' := 29) (rows' := kb_138_6.drop 12) (loc' := [.inr (20, 366, 0, i0), .inl (.int x1), .inl (.int x2), .inl (.int x3), .inl (.int x4), .inl (.int x5)]) (st' := [.inl (.int x1), .inl (.int x5), .inr (20, 366, 0, i0)]) (P1 := P) rfl ⟨trivial, trivial, trivial, trivial⟩ ?_
        refine tr_cRI (z := km_135) (av := [.inr (20, 366, 0, i0), .inl (.int x5), .inl (.int x1)]) (st' := []) rfl rfl rfl (Nat.le_of_ble_eq_true rfl) trivial rfl (Nat.le_of_ble_eq_true rfl) (t_135_366 i0 P x5 x1) (fun v2 => ?_)
        refine tr_blk 1 (pc' := 33) (rows' := kb_138_6.drop 14) (loc' := [.inr (20, 366, 0, i0), .inl (.int x1), .inl (.int x2), .inl (.int x3), .inl (.int x4), .inl (.int x5)]) (st' := [.inl (.int x2), .inl (.int v2)]) (P1 := P) rfl ⟨trivial, trivial⟩ ?_
        refine tr_if (fun h6 => ?_) (fun h6 => ?_)
        · refine tr_icF (cd := .ne) (fun q => q h6) ?_
          refine tr_blk 2 (pc' := 39) (rows' := kb_138_6.drop 17) (loc' := [.inr (20, 366, 0, i0), .inl (.int x1), .inl (.int x2), .inl (.int x3), .inl (.int x4), .inl (.int x5)]) (st' := [.inl (.int x3), .inl (.int x4)]) (P1 := P) rfl ⟨trivial, trivial, trivial⟩ ?_
          refine tr_if (fun h7 => ?_) (fun h7 => ?_)
          · refine tr_ifT (cd := .eq) h7 ?_
            refine tr_nil (rows2 := kb_138_52) rfl (List.cons_ne_nil _ _) ?_
            refine tr_blk 1 (pc' := 53) (rows' := kb_138_52.drop 1) (loc' := [.inr (20, 366, 0, i0), .inl (.int x1), .inl (.int x2), .inl (.int x3), .inl (.int x4), .inl (.int x5)]) (st' := [.inl (.int (1 : Int32)), .inl (.int x4)]) (P1 := P) rfl ⟨trivial, trivial⟩ ?_
            refine tr_nil (rows2 := kb_138_53) rfl (List.cons_ne_nil _ _) ?_
            refine tr_blk 2 (pc' := 56) (rows' := kb_138_53.drop 2) (loc' := [.inr (20, 366, 0, i0), .inl (.int x1), .inl (.int x2), .inl (.int x3), .inl (.int (x4 + (1 : Int32))), .inl (.int x5)]) (st' := []) (P1 := P) rfl ⟨trivial, trivial, trivial⟩ ?_
            refine tr_nil (rows2 := kb_138_56) rfl (List.cons_ne_nil _ _) ?_
            refine tr_blk 1 (pc' := 59) (rows' := kb_138_56.drop 1) (loc' := [.inr (20, 366, 0, i0), .inl (.int x1), .inl (.int x2), .inl (.int x3), .inl (.int (x4 + (1 : Int32))), .inl (.int (x5 + 1))]) (st' := []) (P1 := P) rfl ⟨trivial, trivial⟩ ?_
            refine tr_goto ?_
            exact ih x1 x2 x3 (x4 + (1 : Int32)) (x5 + 1)
          · refine tr_ifF (cd := .eq) h7 ?_
            refine tr_blk 3 (pc' := 46) (rows' := kb_138_6.drop 21) (loc' := [.inr (20, 366, 0, i0), .inl (.int x1), .inl (.int x2), .inl (.int x3), .inl (.int x4), .inl (.int x5)]) (st' := [.inl (.int (2 : Int32)), .inl (.int x5), .inr (20, 366, 0, i0), .inl (.int x4)]) (P1 := P) rfl ⟨trivial, trivial, trivial, trivial⟩ ?_
            refine tr_cRI (z := km_135) (av := [.inr (20, 366, 0, i0), .inl (.int x5), .inl (.int (2 : Int32))]) (st' := [.inl (.int x4)]) rfl rfl rfl (Nat.le_of_ble_eq_true rfl) trivial rfl (Nat.le_of_ble_eq_true rfl) (t_135_366 i0 P x5 (2 : Int32)) (fun v3 => ?_)
            refine tr_goto ?_
            refine tr_nil (rows2 := kb_138_53) rfl (List.cons_ne_nil _ _) ?_
            refine tr_blk 2 (pc' := 56) (rows' := kb_138_53.drop 2) (loc' := [.inr (20, 366, 0, i0), .inl (.int x1), .inl (.int x2), .inl (.int x3), .inl (.int (x4 + v3)), .inl (.int x5)]) (st' := []) (P1 := P) rfl ⟨trivial, trivial, trivial⟩ ?_
            refine tr_nil (rows2 := kb_138_56) rfl (List.cons_ne_nil _ _) ?_
            refine tr_blk 1 (pc' := 59) (rows' := kb_138_56.drop 1) (loc' := [.inr (20, 366, 0, i0), .inl (.int x1), .inl (.int x2), .inl (.int x3), .inl (.int (x4 + v3)), .inl (.int (x5 + 1))]) (st' := []) (P1 := P) rfl ⟨trivial, trivial⟩ ?_
            refine tr_goto ?_
            exact ih x1 x2 x3 (x4 + v3) (x5 + 1)
        · refine tr_icT (cd := .ne) h6 ?_
          refine tr_nil (rows2 := kb_138_56) rfl (List.cons_ne_nil _ _) ?_
          refine tr_blk 1 (pc' := 59) (rows' := kb_138_56.drop 1) (loc' := [.inr (20, 366, 0, i0), .inl (.int x1), .inl (.int x2), .inl (.int x3), .inl (.int x4), .inl (.int (x5 + 1))]) (st' := []) (P1 := P) rfl ⟨trivial, trivial⟩ ?_
          refine tr_goto ?_
          exact ih x1 x2 x3 x4 (x5 + 1)
    · refine tr_icT (cd := .ge) (Int32.not_lt.mp h4) ?_
      refine tr_nil (rows2 := kb_138_62) rfl (List.cons_ne_nil _ _) ?_
      refine tr_blk 1 (pc' := 64) (rows' := kb_138_62.drop 1) (loc' := [.inr (20, 366, 0, i0), .inl (.int x1), .inl (.int x2), .inl (.int x3), .inl (.int x4), .inl (.int x5)]) (st' := [.inl (.int x4)]) (P1 := P) rfl ⟨trivial, trivial⟩ ?_
      exact tr_reI (z := km_138) rfl ⟨_, rfl, rfl⟩ rfl
def f_138_366 (i0 : Nat) (N : Nat) (P : ab_P) (a1 : Int32) (a2 : Int32) (a3 : Int32) : Option Int32 :=
    f_138_366_6 i0 P N a1 a2 a3 (0 : Int32) (0 : Int32)
theorem t_138_366 {xs : Nat × (Nat → Int32)} {d : Nat} (i0 : Nat) (N : Nat) (P : ab_P) : ∀ (a1 : Int32) (a2 : Int32) (a3 : Int32), ab_tr xs (rI P) (d + 2) 138 0 [] [.inr (20, 366, 0, i0), .inl (.int a1), .inl (.int a2), .inl (.int a3), ab_top, ab_top] [] P (f_138_366 i0 N P a1 a2 a3) := by
  intro a1 a2 a3
  unfold f_138_366
  refine tr_nil (rows2 := kb_138_0) rfl (List.cons_ne_nil _ _) ?_
  refine tr_blk 4 (pc' := 6) (rows' := kb_138_0.drop 4) (loc' := [.inr (20, 366, 0, i0), .inl (.int a1), .inl (.int a2), .inl (.int a3), .inl (.int (0 : Int32)), .inl (.int (0 : Int32))]) (st' := []) (P1 := P) rfl ⟨trivial, trivial, trivial, trivial, trivial⟩ ?_
  exact t_138_366_6 i0 P N a1 a2 a3 (0 : Int32) (0 : Int32)
def f_23_81 (N : Nat) (x1 : Int32) (x2 : Int32) (s0 : Int32) (P : ab_P) : Option (Int32 × ab_P) :=
    if x2 < (3 : Int32) then
      Option.bind (f_138_366 477 N P s0 x1 (1 : Int32)) fun v10 =>
      some (v10, P)
    else
    Option.bind (f_138_366 477 N P s0 x1 (0 : Int32)) fun v9 =>
    some (v9, P)
theorem t_23_81 {xs : Nat × (Nat → Int32)} {d : Nat} (N : Nat) : ∀ (x1 : Int32) (x2 : Int32) (s0 : Int32) (P : ab_P), ab_tr xs wI (d + 3) 23 81 [] [.inr (12, 0, 0, 72), .inl (.int x1), .inl (.int x2)] [.inl (.int s0), .inr (20, 366, 0, 477)] P (f_23_81 N x1 x2 s0 P) := by
  intro x1 x2 s0 P
  unfold f_23_81
  refine tr_nil (rows2 := kb_23_81) rfl (List.cons_ne_nil _ _) ?_
  refine tr_blk 3 (pc' := 84) (rows' := kb_23_81.drop 3) (loc' := [.inr (12, 0, 0, 72), .inl (.int x1), .inl (.int x2)]) (st' := [.inl (.int (3 : Int32)), .inl (.int x2), .inl (.int x1), .inl (.int s0), .inr (20, 366, 0, 477)]) (P1 := P) rfl ⟨trivial, trivial, trivial, trivial⟩ ?_
  refine tr_if (fun h11 => ?_) (fun h11 => ?_)
  · refine tr_icF (cd := .ge) (Int32.not_le.mpr h11) ?_
    refine tr_blk 1 (pc' := 88) (rows' := kb_23_81.drop 5) (loc' := [.inr (12, 0, 0, 72), .inl (.int x1), .inl (.int x2)]) (st' := [.inl (.int (1 : Int32)), .inl (.int x1), .inl (.int s0), .inr (20, 366, 0, 477)]) (P1 := P) rfl ⟨trivial, trivial⟩ ?_
    refine tr_goto ?_
    refine tr_nil (rows2 := kb_23_92) rfl (List.cons_ne_nil _ _) ?_
    refine tr_cRI (z := km_138) (av := [.inr (20, 366, 0, 477), .inl (.int s0), .inl (.int x1), .inl (.int (1 : Int32))]) (st' := []) rfl rfl rfl (Nat.le_of_ble_eq_true rfl) trivial rfl (Nat.le_of_ble_eq_true rfl) (t_138_366 477 N P s0 x1 (1 : Int32)) (fun v10 => ?_)
    refine tr_nil (rows2 := kb_23_95) rfl (List.cons_ne_nil _ _) ?_
    exact tr_reI (z := km_23) rfl ⟨_, rfl, rfl⟩ rfl
  · refine tr_icT (cd := .ge) (Int32.not_lt.mp h11) ?_
    refine tr_nil (rows2 := kb_23_91) rfl (List.cons_ne_nil _ _) ?_
    refine tr_blk 1 (pc' := 92) (rows' := kb_23_91.drop 1) (loc' := [.inr (12, 0, 0, 72), .inl (.int x1), .inl (.int x2)]) (st' := [.inl (.int (0 : Int32)), .inl (.int x1), .inl (.int s0), .inr (20, 366, 0, 477)]) (P1 := P) rfl ⟨trivial, trivial⟩ ?_
    refine tr_nil (rows2 := kb_23_92) rfl (List.cons_ne_nil _ _) ?_
    refine tr_cRI (z := km_138) (av := [.inr (20, 366, 0, 477), .inl (.int s0), .inl (.int x1), .inl (.int (0 : Int32))]) (st' := []) rfl rfl rfl (Nat.le_of_ble_eq_true rfl) trivial rfl (Nat.le_of_ble_eq_true rfl) (t_138_366 477 N P s0 x1 (0 : Int32)) (fun v9 => ?_)
    refine tr_nil (rows2 := kb_23_95) rfl (List.cons_ne_nil _ _) ?_
    exact tr_reI (z := km_23) rfl ⟨_, rfl, rfl⟩ rfl
def f_23_52 (N : Nat) (x1 : Int32) (x2 : Int32) (P : ab_P) : Option (Int32 × ab_P) :=
    if x2 = (0 : Int32) then
      if ab_gi x1 8 then
      some ((P.1 78 x1.toNatClampNeg), P)
      else none
    else
    if (x2 - x2 / (2 : Int32) * (2 : Int32)) = (1 : Int32) then
      f_23_81 N x1 x2 (1 : Int32) P
    else
    f_23_81 N x1 x2 (0 : Int32) P
theorem t_23_52 {xs : Nat × (Nat → Int32)} {d : Nat} (N : Nat) : ∀ (x1 : Int32) (x2 : Int32) (P : ab_P), ab_tr xs wI (d + 3) 23 52 [] [.inr (12, 0, 0, 72), .inl (.int x1), .inl (.int x2)] [] P (f_23_52 N x1 x2 P) := by
  intro x1 x2 P
  unfold f_23_52
  refine tr_nil (rows2 := kb_23_52) rfl (List.cons_ne_nil _ _) ?_
  refine tr_blk 1 (pc' := 53) (rows' := kb_23_52.drop 1) (loc' := [.inr (12, 0, 0, 72), .inl (.int x1), .inl (.int x2)]) (st' := [.inl (.int x2)]) (P1 := P) rfl ⟨trivial, trivial⟩ ?_
  refine tr_if (fun h12 => ?_) (fun h12 => ?_)
  · refine tr_ifF (cd := .ne) (fun q => q h12) ?_
    refine tr_gd (fun h8 => ?_)
    refine tr_blk 4 (pc' := 62) (rows' := kb_23_52.drop 6) (loc' := [.inr (12, 0, 0, 72), .inl (.int x1), .inl (.int x2)]) (st' := [.inl (.int (P.1 78 x1.toNatClampNeg))]) (P1 := P) rfl ⟨trivial, trivial, trivial, h8, trivial⟩ ?_
    refine tr_goto ?_
    refine tr_nil (rows2 := kb_23_95) rfl (List.cons_ne_nil _ _) ?_
    exact tr_reI (z := km_23) rfl ⟨_, rfl, rfl⟩ rfl
  · refine tr_ifT (cd := .ne) h12 ?_
    refine tr_nil (rows2 := kb_23_65) rfl (List.cons_ne_nil _ _) ?_
    refine tr_blk 6 (pc' := 73) (rows' := kb_23_65.drop 6) (loc' := [.inr (12, 0, 0, 72), .inl (.int x1), .inl (.int x2)]) (st' := [.inl (.int (1 : Int32)), .inl (.int (x2 - x2 / (2 : Int32) * (2 : Int32))), .inr (20, 366, 0, 477)]) (P1 := P) rfl ⟨trivial, trivial, trivial, trivial, (by decide), trivial, trivial⟩ ?_
    refine tr_if (fun h13 => ?_) (fun h13 => ?_)
    · refine tr_icF (cd := .ne) (fun q => q h13) ?_
      refine tr_blk 1 (pc' := 77) (rows' := kb_23_65.drop 8) (loc' := [.inr (12, 0, 0, 72), .inl (.int x1), .inl (.int x2)]) (st' := [.inl (.int (1 : Int32)), .inr (20, 366, 0, 477)]) (P1 := P) rfl ⟨trivial, trivial⟩ ?_
      refine tr_goto ?_
      exact t_23_81 N x1 x2 (1 : Int32) P
    · refine tr_icT (cd := .ne) h13 ?_
      refine tr_nil (rows2 := kb_23_80) rfl (List.cons_ne_nil _ _) ?_
      refine tr_blk 1 (pc' := 81) (rows' := kb_23_80.drop 1) (loc' := [.inr (12, 0, 0, 72), .inl (.int x1), .inl (.int x2)]) (st' := [.inl (.int (0 : Int32)), .inr (20, 366, 0, 477)]) (P1 := P) rfl ⟨trivial, trivial⟩ ?_
      exact t_23_81 N x1 x2 (0 : Int32) P
def f_23_42 (N : Nat) (x1 : Int32) (x2 : Int32) (s0 : Int32) (P : ab_P) : Option (Int32 × ab_P) :=
    ab_b2 (f_113 s0 (2 : Int32) (1 : Int32) P) fun v7 P6 =>
    if v7 = (0 : Int32) then
      f_23_52 N x1 x2 P6
    else
    some ((0 : Int32), P6)
theorem t_23_42 {xs : Nat × (Nat → Int32)} {d : Nat} (N : Nat) : ∀ (x1 : Int32) (x2 : Int32) (s0 : Int32) (P : ab_P), ab_tr xs wI (d + 3) 23 42 [] [.inr (12, 0, 0, 72), .inl (.int x1), .inl (.int x2)] [.inl (.int s0), .inr (12, 0, 0, 72)] P (f_23_42 N x1 x2 s0 P) := by
  intro x1 x2 s0 P
  unfold f_23_42
  refine tr_nil (rows2 := kb_23_42) rfl (List.cons_ne_nil _ _) ?_
  refine tr_blk 2 (pc' := 44) (rows' := kb_23_42.drop 2) (loc' := [.inr (12, 0, 0, 72), .inl (.int x1), .inl (.int x2)]) (st' := [.inl (.int (1 : Int32)), .inl (.int (2 : Int32)), .inl (.int s0), .inr (12, 0, 0, 72)]) (P1 := P) rfl ⟨trivial, trivial, trivial⟩ ?_
  refine tr_cWI (z := km_113) (av := [.inr (12, 0, 0, 72), .inl (.int s0), .inl (.int (2 : Int32)), .inl (.int (1 : Int32))]) (st' := []) rfl rfl rfl (Nat.le_of_ble_eq_true rfl) ⟨rfl, Or.inl (by decide)⟩ rfl (Nat.le_of_ble_eq_true rfl) (t_113 s0 (2 : Int32) (1 : Int32) P) (fun v7 P6 => ?_)
  refine tr_if (fun h14 => ?_) (fun h14 => ?_)
  · refine tr_ifT (cd := .eq) h14 ?_
    exact t_23_52 N x1 x2 P6
  · refine tr_ifF (cd := .eq) h14 ?_
    refine tr_nil (rows2 := kb_23_50) rfl (List.cons_ne_nil _ _) ?_
    refine tr_blk 1 (pc' := 51) (rows' := kb_23_50.drop 1) (loc' := [.inr (12, 0, 0, 72), .inl (.int x1), .inl (.int x2)]) (st' := [.inl (.int (0 : Int32))]) (P1 := P6) rfl ⟨trivial, trivial⟩ ?_
    exact tr_reI (z := km_23) rfl ⟨_, rfl, rfl⟩ rfl
def f_23_19 (N : Nat) (x1 : Int32) (x2 : Int32) (s0 : Int32) (P : ab_P) : Option (Int32 × ab_P) :=
    ab_b2 (f_113 s0 (1 : Int32) (0 : Int32) P) fun v4 P3 =>
    if v4 = (0 : Int32) then
      Option.bind (f_112 P3 x2 (0 : Int32) (4 : Int32)) fun v5 =>
      if v5 = (0 : Int32) then
        f_23_42 N x1 x2 (1 : Int32) P3
      else
      f_23_42 N x1 x2 (0 : Int32) P3
    else
    some ((0 : Int32), P3)
theorem t_23_19 {xs : Nat × (Nat → Int32)} {d : Nat} (N : Nat) : ∀ (x1 : Int32) (x2 : Int32) (s0 : Int32) (P : ab_P), ab_tr xs wI (d + 3) 23 19 [] [.inr (12, 0, 0, 72), .inl (.int x1), .inl (.int x2)] [.inl (.int s0), .inr (12, 0, 0, 72)] P (f_23_19 N x1 x2 s0 P) := by
  intro x1 x2 s0 P
  unfold f_23_19
  refine tr_nil (rows2 := kb_23_19) rfl (List.cons_ne_nil _ _) ?_
  refine tr_blk 2 (pc' := 21) (rows' := kb_23_19.drop 2) (loc' := [.inr (12, 0, 0, 72), .inl (.int x1), .inl (.int x2)]) (st' := [.inl (.int (0 : Int32)), .inl (.int (1 : Int32)), .inl (.int s0), .inr (12, 0, 0, 72)]) (P1 := P) rfl ⟨trivial, trivial, trivial⟩ ?_
  refine tr_cWI (z := km_113) (av := [.inr (12, 0, 0, 72), .inl (.int s0), .inl (.int (1 : Int32)), .inl (.int (0 : Int32))]) (st' := []) rfl rfl rfl (Nat.le_of_ble_eq_true rfl) ⟨rfl, Or.inl (by decide)⟩ rfl (Nat.le_of_ble_eq_true rfl) (t_113 s0 (1 : Int32) (0 : Int32) P) (fun v4 P3 => ?_)
  refine tr_if (fun h15 => ?_) (fun h15 => ?_)
  · refine tr_ifF (cd := .ne) (fun q => q h15) ?_
    refine tr_blk 4 (pc' := 31) (rows' := kb_23_19.drop 8) (loc' := [.inr (12, 0, 0, 72), .inl (.int x1), .inl (.int x2)]) (st' := [.inl (.int (4 : Int32)), .inl (.int (0 : Int32)), .inl (.int x2), .inr (12, 0, 0, 72)]) (P1 := P3) rfl ⟨trivial, trivial, trivial, trivial, trivial⟩ ?_
    refine tr_cRI (z := km_112) (av := [.inl (.int x2), .inl (.int (0 : Int32)), .inl (.int (4 : Int32))]) (st' := [.inr (12, 0, 0, 72)]) rfl rfl rfl (Nat.le_of_ble_eq_true rfl) trivial rfl (Nat.le_of_ble_eq_true rfl) (t_112 P3 x2 (0 : Int32) (4 : Int32)) (fun v5 => ?_)
    refine tr_if (fun h16 => ?_) (fun h16 => ?_)
    · refine tr_ifF (cd := .ne) (fun q => q h16) ?_
      refine tr_blk 1 (pc' := 38) (rows' := kb_23_19.drop 11) (loc' := [.inr (12, 0, 0, 72), .inl (.int x1), .inl (.int x2)]) (st' := [.inl (.int (1 : Int32)), .inr (12, 0, 0, 72)]) (P1 := P3) rfl ⟨trivial, trivial⟩ ?_
      refine tr_goto ?_
      exact t_23_42 N x1 x2 (1 : Int32) P3
    · refine tr_ifT (cd := .ne) h16 ?_
      refine tr_nil (rows2 := kb_23_41) rfl (List.cons_ne_nil _ _) ?_
      refine tr_blk 1 (pc' := 42) (rows' := kb_23_41.drop 1) (loc' := [.inr (12, 0, 0, 72), .inl (.int x1), .inl (.int x2)]) (st' := [.inl (.int (0 : Int32)), .inr (12, 0, 0, 72)]) (P1 := P3) rfl ⟨trivial, trivial⟩ ?_
      exact t_23_42 N x1 x2 (0 : Int32) P3
  · refine tr_ifT (cd := .ne) h15 ?_
    refine tr_nil (rows2 := kb_23_50) rfl (List.cons_ne_nil _ _) ?_
    refine tr_blk 1 (pc' := 51) (rows' := kb_23_50.drop 1) (loc' := [.inr (12, 0, 0, 72), .inl (.int x1), .inl (.int x2)]) (st' := [.inl (.int (0 : Int32))]) (P1 := P3) rfl ⟨trivial, trivial⟩ ?_
    exact tr_reI (z := km_23) rfl ⟨_, rfl, rfl⟩ rfl
def f_23 (N : Nat) (a1 : Int32) (a2 : Int32) (P : ab_P) : Option (Int32 × ab_P) :=
    ab_lt (ab_pI P 72 0 (0 : Int32)) fun P1 =>
    Option.bind (f_137 P1 a1) fun v2 =>
    if v2 = (0 : Int32) then
      f_23_19 N a1 a2 (1 : Int32) P1
    else
    f_23_19 N a1 a2 (0 : Int32) P1
theorem t_23 {xs : Nat × (Nat → Int32)} {d : Nat} (N : Nat) : ∀ (a1 : Int32) (a2 : Int32) (P : ab_P), ab_tr xs wI (d + 3) 23 0 [] [.inr (12, 0, 0, 72), .inl (.int a1), .inl (.int a2)] [] P (f_23 N a1 a2 P) := by
  intro a1 a2 P
  unfold f_23
  refine tr_nil (rows2 := kb_23_0) rfl (List.cons_ne_nil _ _) ?_
  refine tr_blk 3 (pc' := 5) (rows' := kb_23_0.drop 3) (loc' := [.inr (12, 0, 0, 72), .inl (.int a1), .inl (.int a2)]) (st' := []) (P1 := (ab_pI P 72 0 (0 : Int32))) rfl ⟨trivial, trivial, trivial, trivial⟩ ?_
  refine tr_lt (fun P1 => ?_)
  refine tr_blk 3 (pc' := 8) (rows' := kb_23_0.drop 6) (loc' := [.inr (12, 0, 0, 72), .inl (.int a1), .inl (.int a2)]) (st' := [.inl (.int a1), .inr (12, 0, 0, 72), .inr (12, 0, 0, 72)]) (P1 := P1) rfl ⟨trivial, trivial, trivial, trivial⟩ ?_
  refine tr_cRI (z := km_137) (av := [.inr (12, 0, 0, 72), .inl (.int a1)]) (st' := [.inr (12, 0, 0, 72)]) rfl rfl rfl (Nat.le_of_ble_eq_true rfl) ⟨rfl, Or.inl (by decide)⟩ rfl (Nat.le_of_ble_eq_true rfl) (t_137 P1 a1) (fun v2 => ?_)
  refine tr_if (fun h17 => ?_) (fun h17 => ?_)
  · refine tr_ifF (cd := .ne) (fun q => q h17) ?_
    refine tr_blk 1 (pc' := 15) (rows' := kb_23_0.drop 9) (loc' := [.inr (12, 0, 0, 72), .inl (.int a1), .inl (.int a2)]) (st' := [.inl (.int (1 : Int32)), .inr (12, 0, 0, 72)]) (P1 := P1) rfl ⟨trivial, trivial⟩ ?_
    refine tr_goto ?_
    exact t_23_19 N a1 a2 (1 : Int32) P1
  · refine tr_ifT (cd := .ne) h17 ?_
    refine tr_nil (rows2 := kb_23_18) rfl (List.cons_ne_nil _ _) ?_
    refine tr_blk 1 (pc' := 19) (rows' := kb_23_18.drop 1) (loc' := [.inr (12, 0, 0, 72), .inl (.int a1), .inl (.int a2)]) (st' := [.inl (.int (0 : Int32)), .inr (12, 0, 0, 72)]) (P1 := P1) rfl ⟨trivial, trivial⟩ ?_
    exact t_23_19 N a1 a2 (0 : Int32) P1
def f_271_22 (i0 : Nat) (P : ab_P) (x1 : Int32) (x2 : Int32) (x3 : Int32) (s0 : Int32) : Option Int32 :=
    Option.bind (f_231 i0 P (0 : Int32) x1) fun v3 =>
    if v3 = x2 then
      some (s0 - x3)
    else
    some (s0 - (0 : Int32))
theorem t_271_22 {xs : Nat × (Nat → Int32)} {d : Nat} (i0 : Nat) (P : ab_P) : ∀ (x1 : Int32) (x2 : Int32) (x3 : Int32) (s0 : Int32), ab_tr xs (rI P) (d + 1) 271 22 [] [.inr (6, 0, 0, i0), .inl (.int x1), .inl (.int x2), .inl (.int x3)] [.inl (.int s0)] P (f_271_22 i0 P x1 x2 x3 s0) := by
  intro x1 x2 x3 s0
  unfold f_271_22
  refine tr_nil (rows2 := kb_271_22) rfl (List.cons_ne_nil _ _) ?_
  refine tr_blk 3 (pc' := 25) (rows' := kb_271_22.drop 3) (loc' := [.inr (6, 0, 0, i0), .inl (.int x1), .inl (.int x2), .inl (.int x3)]) (st' := [.inl (.int x1), .inl (.int (0 : Int32)), .inr (6, 0, 0, i0), .inl (.int s0)]) (P1 := P) rfl ⟨trivial, trivial, trivial, trivial⟩ ?_
  refine tr_cRI (z := km_231) (av := [.inr (6, 0, 0, i0), .inl (.int (0 : Int32)), .inl (.int x1)]) (st' := [.inl (.int s0)]) rfl rfl rfl (Nat.le_of_ble_eq_true rfl) ⟨rfl, Or.inl (by decide)⟩ rfl (Nat.le_of_ble_eq_true rfl) (t_231 i0 P (0 : Int32) x1) (fun v3 => ?_)
  refine tr_blk 1 (pc' := 29) (rows' := kb_271_22.drop 5) (loc' := [.inr (6, 0, 0, i0), .inl (.int x1), .inl (.int x2), .inl (.int x3)]) (st' := [.inl (.int x2), .inl (.int v3), .inl (.int s0)]) (P1 := P) rfl ⟨trivial, trivial⟩ ?_
  refine tr_if (fun h4 => ?_) (fun h4 => ?_)
  · refine tr_icF (cd := .ne) (fun q => q h4) ?_
    refine tr_blk 1 (pc' := 33) (rows' := kb_271_22.drop 7) (loc' := [.inr (6, 0, 0, i0), .inl (.int x1), .inl (.int x2), .inl (.int x3)]) (st' := [.inl (.int x3), .inl (.int s0)]) (P1 := P) rfl ⟨trivial, trivial⟩ ?_
    refine tr_goto ?_
    refine tr_nil (rows2 := kb_271_37) rfl (List.cons_ne_nil _ _) ?_
    refine tr_blk 1 (pc' := 38) (rows' := kb_271_37.drop 1) (loc' := [.inr (6, 0, 0, i0), .inl (.int x1), .inl (.int x2), .inl (.int x3)]) (st' := [.inl (.int (s0 - x3))]) (P1 := P) rfl ⟨trivial, trivial⟩ ?_
    exact tr_reI (z := km_271) rfl ⟨_, rfl, rfl⟩ rfl
  · refine tr_icT (cd := .ne) h4 ?_
    refine tr_nil (rows2 := kb_271_36) rfl (List.cons_ne_nil _ _) ?_
    refine tr_blk 1 (pc' := 37) (rows' := kb_271_36.drop 1) (loc' := [.inr (6, 0, 0, i0), .inl (.int x1), .inl (.int x2), .inl (.int x3)]) (st' := [.inl (.int (0 : Int32)), .inl (.int s0)]) (P1 := P) rfl ⟨trivial, trivial⟩ ?_
    refine tr_nil (rows2 := kb_271_37) rfl (List.cons_ne_nil _ _) ?_
    refine tr_blk 1 (pc' := 38) (rows' := kb_271_37.drop 1) (loc' := [.inr (6, 0, 0, i0), .inl (.int x1), .inl (.int x2), .inl (.int x3)]) (st' := [.inl (.int (s0 - (0 : Int32)))]) (P1 := P) rfl ⟨trivial, trivial⟩ ?_
    exact tr_reI (z := km_271) rfl ⟨_, rfl, rfl⟩ rfl
def f_271 (i0 : Nat) (P : ab_P) (a1 : Int32) (a2 : Int32) : Option Int32 :=
    Option.bind (f_231 i0 P (2 : Int32) a1) fun v1 =>
    Option.bind (f_231 i0 P (1 : Int32) a1) fun v2 =>
    if v2 = a2 then
      f_271_22 i0 P a1 a2 v1 v1
    else
    f_271_22 i0 P a1 a2 v1 (0 : Int32)
theorem t_271 {xs : Nat × (Nat → Int32)} {d : Nat} (i0 : Nat) (P : ab_P) : ∀ (a1 : Int32) (a2 : Int32), ab_tr xs (rI P) (d + 1) 271 0 [] [.inr (6, 0, 0, i0), .inl (.int a1), .inl (.int a2), ab_top] [] P (f_271 i0 P a1 a2) := by
  intro a1 a2
  unfold f_271
  refine tr_nil (rows2 := kb_271_0) rfl (List.cons_ne_nil _ _) ?_
  refine tr_blk 3 (pc' := 3) (rows' := kb_271_0.drop 3) (loc' := [.inr (6, 0, 0, i0), .inl (.int a1), .inl (.int a2), ab_top]) (st' := [.inl (.int a1), .inl (.int (2 : Int32)), .inr (6, 0, 0, i0)]) (P1 := P) rfl ⟨trivial, trivial, trivial, trivial⟩ ?_
  refine tr_cRI (z := km_231) (av := [.inr (6, 0, 0, i0), .inl (.int (2 : Int32)), .inl (.int a1)]) (st' := []) rfl rfl rfl (Nat.le_of_ble_eq_true rfl) ⟨rfl, Or.inl (by decide)⟩ rfl (Nat.le_of_ble_eq_true rfl) (t_231 i0 P (2 : Int32) a1) (fun v1 => ?_)
  refine tr_blk 4 (pc' := 10) (rows' := kb_271_0.drop 8) (loc' := [.inr (6, 0, 0, i0), .inl (.int a1), .inl (.int a2), .inl (.int v1)]) (st' := [.inl (.int a1), .inl (.int (1 : Int32)), .inr (6, 0, 0, i0)]) (P1 := P) rfl ⟨trivial, trivial, trivial, trivial, trivial⟩ ?_
  refine tr_cRI (z := km_231) (av := [.inr (6, 0, 0, i0), .inl (.int (1 : Int32)), .inl (.int a1)]) (st' := []) rfl rfl rfl (Nat.le_of_ble_eq_true rfl) ⟨rfl, Or.inl (by decide)⟩ rfl (Nat.le_of_ble_eq_true rfl) (t_231 i0 P (1 : Int32) a1) (fun v2 => ?_)
  refine tr_blk 1 (pc' := 14) (rows' := kb_271_0.drop 10) (loc' := [.inr (6, 0, 0, i0), .inl (.int a1), .inl (.int a2), .inl (.int v1)]) (st' := [.inl (.int a2), .inl (.int v2)]) (P1 := P) rfl ⟨trivial, trivial⟩ ?_
  refine tr_if (fun h5 => ?_) (fun h5 => ?_)
  · refine tr_icF (cd := .ne) (fun q => q h5) ?_
    refine tr_blk 1 (pc' := 18) (rows' := kb_271_0.drop 12) (loc' := [.inr (6, 0, 0, i0), .inl (.int a1), .inl (.int a2), .inl (.int v1)]) (st' := [.inl (.int v1)]) (P1 := P) rfl ⟨trivial, trivial⟩ ?_
    refine tr_goto ?_
    exact t_271_22 i0 P a1 a2 v1 v1
  · refine tr_icT (cd := .ne) h5 ?_
    refine tr_nil (rows2 := kb_271_21) rfl (List.cons_ne_nil _ _) ?_
    refine tr_blk 1 (pc' := 22) (rows' := kb_271_21.drop 1) (loc' := [.inr (6, 0, 0, i0), .inl (.int a1), .inl (.int a2), .inl (.int v1)]) (st' := [.inl (.int (0 : Int32))]) (P1 := P) rfl ⟨trivial, trivial⟩ ?_
    exact t_271_22 i0 P a1 a2 v1 (0 : Int32)
def f_186_5 (i0 : Nat) (P : ab_P) : Nat → Int32 → Int32 → Int32 → Int32 → Option Int32
  | 0, _, _, _, _ => none
  | n + 1, x1, x2, x3, x4 =>
    if x4 < (P.1 i0 2) then
      Option.bind (f_263 i0 P x4) fun v1 =>
      if v1 = (0 : Int32) then
        f_186_5 i0 P n x1 x2 x3 (x4 + 1)
      else
      if x2 = (0 : Int32) then
        Option.bind (f_271 i0 P x4 x1) fun v2 =>
        f_186_5 i0 P n x1 x2 (x3 + v2) (x4 + 1)
      else
      Option.bind (f_231 i0 P (6 : Int32) x4) fun v3 =>
      if v3 = (1 : Int32) then
        Option.bind (f_271 i0 P x4 x1) fun v4 =>
        f_186_5 i0 P n x1 x2 (x3 + v4) (x4 + 1)
      else
      f_186_5 i0 P n x1 x2 x3 (x4 + 1)
    else
    some x3
theorem t_186_5 {xs : Nat × (Nat → Int32)} {d : Nat} (i0 : Nat) (P : ab_P) : ∀ n : Nat, ∀ (x1 : Int32) (x2 : Int32) (x3 : Int32) (x4 : Int32), ab_tr xs (rI P) (d + 2) 186 5 [] [.inr (6, 0, 0, i0), .inl (.int x1), .inl (.int x2), .inl (.int x3), .inl (.int x4)] [] P (f_186_5 i0 P n x1 x2 x3 x4) := by
  intro n
  induction n with
  | zero => intro x1 x2 x3 x4; exact tr_no
  | succ n ih =>
    intro x1 x2 x3 x4
    refine tr_nil (rows2 := kb_186_5) rfl (List.cons_ne_nil _ _) ?_
    refine tr_blk 3 (pc' := 11) (rows' := kb_186_5.drop 3) (loc' := [.inr (6, 0, 0, i0), .inl (.int x1), .inl (.int x2), .inl (.int x3), .inl (.int x4)]) (st' := [.inl (.int (P.1 i0 2)), .inl (.int x4)]) (P1 := P) rfl ⟨trivial, trivial, trivial, trivial⟩ ?_
    refine tr_if (fun h5 => ?_) (fun h5 => ?_)
    · refine tr_icF (cd := .ge) (Int32.not_le.mpr h5) ?_
      refine tr_blk 2 (pc' := 17) (rows' := kb_186_5.drop 6) (loc' := [.inr (6, 0, 0, i0), .inl (.int x1), .inl (.int x2), .inl (.int x3), .inl (.int x4)]) (st' := [.inl (.int x4), .inr (6, 0, 0, i0)]) (P1 := P) rfl ⟨trivial, trivial, trivial⟩ ?_
      refine tr_cRI (z := km_263) (av := [.inr (6, 0, 0, i0), .inl (.int x4)]) (st' := []) rfl rfl rfl (Nat.le_of_ble_eq_true rfl) ⟨rfl, Or.inl (by decide)⟩ rfl (Nat.le_of_ble_eq_true rfl) (t_263 i0 P x4) (fun v1 => ?_)
      refine tr_if (fun h6 => ?_) (fun h6 => ?_)
      · refine tr_ifT (cd := .eq) h6 ?_
        refine tr_nil (rows2 := kb_186_49) rfl (List.cons_ne_nil _ _) ?_
        refine tr_blk 1 (pc' := 52) (rows' := kb_186_49.drop 1) (loc' := [.inr (6, 0, 0, i0), .inl (.int x1), .inl (.int x2), .inl (.int x3), .inl (.int (x4 + 1))]) (st' := []) (P1 := P) rfl ⟨trivial, trivial⟩ ?_
        refine tr_goto ?_
        exact ih x1 x2 x3 (x4 + 1)
      · refine tr_ifF (cd := .eq) h6 ?_
        refine tr_blk 1 (pc' := 24) (rows' := kb_186_5.drop 9) (loc' := [.inr (6, 0, 0, i0), .inl (.int x1), .inl (.int x2), .inl (.int x3), .inl (.int x4)]) (st' := [.inl (.int x2)]) (P1 := P) rfl ⟨trivial, trivial⟩ ?_
        refine tr_if (fun h7 => ?_) (fun h7 => ?_)
        · refine tr_ifT (cd := .eq) h7 ?_
          refine tr_nil (rows2 := kb_186_39) rfl (List.cons_ne_nil _ _) ?_
          refine tr_blk 4 (pc' := 44) (rows' := kb_186_39.drop 4) (loc' := [.inr (6, 0, 0, i0), .inl (.int x1), .inl (.int x2), .inl (.int x3), .inl (.int x4)]) (st' := [.inl (.int x1), .inl (.int x4), .inr (6, 0, 0, i0), .inl (.int x3)]) (P1 := P) rfl ⟨trivial, trivial, trivial, trivial, trivial⟩ ?_
          refine tr_cRI (z := km_271) (av := [.inr (6, 0, 0, i0), .inl (.int x4), .inl (.int x1)]) (st' := [.inl (.int x3)]) rfl rfl rfl (Nat.le_of_ble_eq_true rfl) ⟨rfl, Or.inl (by decide)⟩ rfl (Nat.le_of_ble_eq_true rfl) (t_271 i0 P x4 x1) (fun v2 => ?_)
          refine tr_blk 2 (pc' := 49) (rows' := kb_186_39.drop 7) (loc' := [.inr (6, 0, 0, i0), .inl (.int x1), .inl (.int x2), .inl (.int (x3 + v2)), .inl (.int x4)]) (st' := []) (P1 := P) rfl ⟨trivial, trivial, trivial⟩ ?_
          refine tr_nil (rows2 := kb_186_49) rfl (List.cons_ne_nil _ _) ?_
          refine tr_blk 1 (pc' := 52) (rows' := kb_186_49.drop 1) (loc' := [.inr (6, 0, 0, i0), .inl (.int x1), .inl (.int x2), .inl (.int (x3 + v2)), .inl (.int (x4 + 1))]) (st' := []) (P1 := P) rfl ⟨trivial, trivial⟩ ?_
          refine tr_goto ?_
          exact ih x1 x2 (x3 + v2) (x4 + 1)
        · refine tr_ifF (cd := .eq) h7 ?_
          refine tr_blk 3 (pc' := 32) (rows' := kb_186_5.drop 13) (loc' := [.inr (6, 0, 0, i0), .inl (.int x1), .inl (.int x2), .inl (.int x3), .inl (.int x4)]) (st' := [.inl (.int x4), .inl (.int (6 : Int32)), .inr (6, 0, 0, i0)]) (P1 := P) rfl ⟨trivial, trivial, trivial, trivial⟩ ?_
          refine tr_cRI (z := km_231) (av := [.inr (6, 0, 0, i0), .inl (.int (6 : Int32)), .inl (.int x4)]) (st' := []) rfl rfl rfl (Nat.le_of_ble_eq_true rfl) ⟨rfl, Or.inl (by decide)⟩ rfl (Nat.le_of_ble_eq_true rfl) (t_231 i0 P (6 : Int32) x4) (fun v3 => ?_)
          refine tr_blk 1 (pc' := 36) (rows' := kb_186_5.drop 15) (loc' := [.inr (6, 0, 0, i0), .inl (.int x1), .inl (.int x2), .inl (.int x3), .inl (.int x4)]) (st' := [.inl (.int (1 : Int32)), .inl (.int v3)]) (P1 := P) rfl ⟨trivial, trivial⟩ ?_
          refine tr_if (fun h8 => ?_) (fun h8 => ?_)
          · refine tr_icF (cd := .ne) (fun q => q h8) ?_
            refine tr_nil (rows2 := kb_186_39) rfl (List.cons_ne_nil _ _) ?_
            refine tr_blk 4 (pc' := 44) (rows' := kb_186_39.drop 4) (loc' := [.inr (6, 0, 0, i0), .inl (.int x1), .inl (.int x2), .inl (.int x3), .inl (.int x4)]) (st' := [.inl (.int x1), .inl (.int x4), .inr (6, 0, 0, i0), .inl (.int x3)]) (P1 := P) rfl ⟨trivial, trivial, trivial, trivial, trivial⟩ ?_
            refine tr_cRI (z := km_271) (av := [.inr (6, 0, 0, i0), .inl (.int x4), .inl (.int x1)]) (st' := [.inl (.int x3)]) rfl rfl rfl (Nat.le_of_ble_eq_true rfl) ⟨rfl, Or.inl (by decide)⟩ rfl (Nat.le_of_ble_eq_true rfl) (t_271 i0 P x4 x1) (fun v4 => ?_)
            refine tr_blk 2 (pc' := 49) (rows' := kb_186_39.drop 7) (loc' := [.inr (6, 0, 0, i0), .inl (.int x1), .inl (.int x2), .inl (.int (x3 + v4)), .inl (.int x4)]) (st' := []) (P1 := P) rfl ⟨trivial, trivial, trivial⟩ ?_
            refine tr_nil (rows2 := kb_186_49) rfl (List.cons_ne_nil _ _) ?_
            refine tr_blk 1 (pc' := 52) (rows' := kb_186_49.drop 1) (loc' := [.inr (6, 0, 0, i0), .inl (.int x1), .inl (.int x2), .inl (.int (x3 + v4)), .inl (.int (x4 + 1))]) (st' := []) (P1 := P) rfl ⟨trivial, trivial⟩ ?_
            refine tr_goto ?_
            exact ih x1 x2 (x3 + v4) (x4 + 1)
          · refine tr_icT (cd := .ne) h8 ?_
            refine tr_nil (rows2 := kb_186_49) rfl (List.cons_ne_nil _ _) ?_
            refine tr_blk 1 (pc' := 52) (rows' := kb_186_49.drop 1) (loc' := [.inr (6, 0, 0, i0), .inl (.int x1), .inl (.int x2), .inl (.int x3), .inl (.int (x4 + 1))]) (st' := []) (P1 := P) rfl ⟨trivial, trivial⟩ ?_
            refine tr_goto ?_
            exact ih x1 x2 x3 (x4 + 1)
    · refine tr_icT (cd := .ge) (Int32.not_lt.mp h5) ?_
      refine tr_nil (rows2 := kb_186_55) rfl (List.cons_ne_nil _ _) ?_
      refine tr_blk 1 (pc' := 56) (rows' := kb_186_55.drop 1) (loc' := [.inr (6, 0, 0, i0), .inl (.int x1), .inl (.int x2), .inl (.int x3), .inl (.int x4)]) (st' := [.inl (.int x3)]) (P1 := P) rfl ⟨trivial, trivial⟩ ?_
      exact tr_reI (z := km_186) rfl ⟨_, rfl, rfl⟩ rfl
def f_186 (i0 : Nat) (N : Nat) (P : ab_P) (a1 : Int32) (a2 : Int32) : Option Int32 :=
    f_186_5 i0 P N a1 a2 (0 : Int32) (0 : Int32)
theorem t_186 {xs : Nat × (Nat → Int32)} {d : Nat} (i0 : Nat) (N : Nat) (P : ab_P) : ∀ (a1 : Int32) (a2 : Int32), ab_tr xs (rI P) (d + 2) 186 0 [] [.inr (6, 0, 0, i0), .inl (.int a1), .inl (.int a2), ab_top, ab_top] [] P (f_186 i0 N P a1 a2) := by
  intro a1 a2
  unfold f_186
  refine tr_nil (rows2 := kb_186_0) rfl (List.cons_ne_nil _ _) ?_
  refine tr_blk 4 (pc' := 5) (rows' := kb_186_0.drop 4) (loc' := [.inr (6, 0, 0, i0), .inl (.int a1), .inl (.int a2), .inl (.int (0 : Int32)), .inl (.int (0 : Int32))]) (st' := []) (P1 := P) rfl ⟨trivial, trivial, trivial, trivial, trivial⟩ ?_
  exact t_186_5 i0 P N a1 a2 (0 : Int32) (0 : Int32)
def f_139_20 (N : Nat) (x1 : Int32) (x2 : Int32) (s0 : Int32) (P : ab_P) : Option ((Int32 ⊕ Fin 3) × ab_P) :=
    ab_x2 (f_228 s0 P) (fun _ P2 =>
    if x2 = (1 : Int32) then
      Option.bind (f_186 43 N P2 x1 (1 : Int32)) fun v4 =>
      some (.inl v4, P2)
    else
    Option.bind (f_186 43 N P2 x1 (0 : Int32)) fun v3 =>
    some (.inl v3, P2)) (fun q => q)
theorem t_139_20 {xs : Nat × (Nat → Int32)} {d : Nat} (N : Nat) : ∀ (x1 : Int32) (x2 : Int32) (s0 : Int32) (P : ab_P), ab_tr xs xI (d + 3) 139 20 [] [.inr (11, 0, 0, 0), .inl (.int x1), .inl (.int x2)] [.inl (.int s0), .inr (11, 0, 0, 0)] P (f_139_20 N x1 x2 s0 P) := by
  intro x1 x2 s0 P
  unfold f_139_20
  refine tr_nil (rows2 := kb_139_20) rfl (List.cons_ne_nil _ _) ?_
  refine tr_cax (fun _ => none) (zi := km_139) (fun _ => rfl) (fun _ _ => rfl) rfl rfl (z := km_228) (av := [.inr (11, 0, 0, 0), .inl (.int s0)]) (st' := []) rfl rfl rfl (Nat.le_of_ble_eq_true rfl) ⟨rfl, Or.inl (by decide)⟩ rfl (Nat.le_of_ble_eq_true rfl) (t_228 s0 P) (fun _ P2 => ?_)
  refine tr_blk 5 (pc' := 30) (rows' := kb_139_20.drop 6) (loc' := [.inr (11, 0, 0, 0), .inl (.int x1), .inl (.int x2)]) (st' := [.inl (.int (1 : Int32)), .inl (.int x2), .inl (.int x1), .inr (6, 0, 0, 43)]) (P1 := P2) rfl ⟨trivial, trivial, trivial, trivial, trivial, trivial⟩ ?_
  refine tr_if (fun h5 => ?_) (fun h5 => ?_)
  · refine tr_icF (cd := .ne) (fun q => q h5) ?_
    refine tr_blk 1 (pc' := 34) (rows' := kb_139_20.drop 8) (loc' := [.inr (11, 0, 0, 0), .inl (.int x1), .inl (.int x2)]) (st' := [.inl (.int (1 : Int32)), .inl (.int x1), .inr (6, 0, 0, 43)]) (P1 := P2) rfl ⟨trivial, trivial⟩ ?_
    refine tr_goto ?_
    refine tr_nil (rows2 := kb_139_38) rfl (List.cons_ne_nil _ _) ?_
    refine tr_cRI (z := km_186) (av := [.inr (6, 0, 0, 43), .inl (.int x1), .inl (.int (1 : Int32))]) (st' := []) rfl rfl rfl (Nat.le_of_ble_eq_true rfl) ⟨rfl, Or.inl (by decide)⟩ rfl (Nat.le_of_ble_eq_true rfl) (t_186 43 N P2 x1 (1 : Int32)) (fun v4 => ?_)
    exact tr_reI (z := km_139) rfl ⟨_, rfl, rfl⟩ rfl
  · refine tr_icT (cd := .ne) h5 ?_
    refine tr_nil (rows2 := kb_139_37) rfl (List.cons_ne_nil _ _) ?_
    refine tr_blk 1 (pc' := 38) (rows' := kb_139_37.drop 1) (loc' := [.inr (11, 0, 0, 0), .inl (.int x1), .inl (.int x2)]) (st' := [.inl (.int (0 : Int32)), .inl (.int x1), .inr (6, 0, 0, 43)]) (P1 := P2) rfl ⟨trivial, trivial⟩ ?_
    refine tr_nil (rows2 := kb_139_38) rfl (List.cons_ne_nil _ _) ?_
    refine tr_cRI (z := km_186) (av := [.inr (6, 0, 0, 43), .inl (.int x1), .inl (.int (0 : Int32))]) (st' := []) rfl rfl rfl (Nat.le_of_ble_eq_true rfl) ⟨rfl, Or.inl (by decide)⟩ rfl (Nat.le_of_ble_eq_true rfl) (t_186 43 N P2 x1 (0 : Int32)) (fun v3 => ?_)
    exact tr_reI (z := km_139) rfl ⟨_, rfl, rfl⟩ rfl
def f_139 (N : Nat) (a1 : Int32) (a2 : Int32) (P : ab_P) : Option ((Int32 ⊕ Fin 3) × ab_P) :=
    ab_x2 (f_232 a1 P) (fun _ P1 =>
    if a2 = (0 : Int32) then
      f_139_20 N a1 a2 (1 : Int32) P1
    else
    if a2 = (1 : Int32) then
      f_139_20 N a1 a2 (1 : Int32) P1
    else
    f_139_20 N a1 a2 (0 : Int32) P1) (fun q => q)
theorem t_139 {xs : Nat × (Nat → Int32)} {d : Nat} (N : Nat) : ∀ (a1 : Int32) (a2 : Int32) (P : ab_P), ab_tr xs xI (d + 3) 139 0 [] [.inr (11, 0, 0, 0), .inl (.int a1), .inl (.int a2)] [] P (f_139 N a1 a2 P) := by
  intro a1 a2 P
  unfold f_139
  refine tr_nil (rows2 := kb_139_0) rfl (List.cons_ne_nil _ _) ?_
  refine tr_blk 2 (pc' := 2) (rows' := kb_139_0.drop 2) (loc' := [.inr (11, 0, 0, 0), .inl (.int a1), .inl (.int a2)]) (st' := [.inl (.int a1), .inr (11, 0, 0, 0)]) (P1 := P) rfl ⟨trivial, trivial, trivial⟩ ?_
  refine tr_cax (fun _ => none) (zi := km_139) (fun _ => rfl) (fun _ _ => rfl) rfl rfl (z := km_232) (av := [.inr (11, 0, 0, 0), .inl (.int a1)]) (st' := []) rfl rfl rfl (Nat.le_of_ble_eq_true rfl) ⟨rfl, Or.inl (by decide)⟩ rfl (Nat.le_of_ble_eq_true rfl) (t_232 a1 P) (fun _ P1 => ?_)
  refine tr_blk 2 (pc' := 7) (rows' := kb_139_0.drop 5) (loc' := [.inr (11, 0, 0, 0), .inl (.int a1), .inl (.int a2)]) (st' := [.inl (.int a2), .inr (11, 0, 0, 0)]) (P1 := P1) rfl ⟨trivial, trivial, trivial⟩ ?_
  refine tr_if (fun h6 => ?_) (fun h6 => ?_)
  · refine tr_ifT (cd := .eq) h6 ?_
    refine tr_nil (rows2 := kb_139_15) rfl (List.cons_ne_nil _ _) ?_
    refine tr_blk 1 (pc' := 16) (rows' := kb_139_15.drop 1) (loc' := [.inr (11, 0, 0, 0), .inl (.int a1), .inl (.int a2)]) (st' := [.inl (.int (1 : Int32)), .inr (11, 0, 0, 0)]) (P1 := P1) rfl ⟨trivial, trivial⟩ ?_
    refine tr_goto ?_
    exact t_139_20 N a1 a2 (1 : Int32) P1
  · refine tr_ifF (cd := .eq) h6 ?_
    refine tr_blk 2 (pc' := 12) (rows' := kb_139_0.drop 8) (loc' := [.inr (11, 0, 0, 0), .inl (.int a1), .inl (.int a2)]) (st' := [.inl (.int (1 : Int32)), .inl (.int a2), .inr (11, 0, 0, 0)]) (P1 := P1) rfl ⟨trivial, trivial, trivial⟩ ?_
    refine tr_if (fun h7 => ?_) (fun h7 => ?_)
    · refine tr_icF (cd := .ne) (fun q => q h7) ?_
      refine tr_nil (rows2 := kb_139_15) rfl (List.cons_ne_nil _ _) ?_
      refine tr_blk 1 (pc' := 16) (rows' := kb_139_15.drop 1) (loc' := [.inr (11, 0, 0, 0), .inl (.int a1), .inl (.int a2)]) (st' := [.inl (.int (1 : Int32)), .inr (11, 0, 0, 0)]) (P1 := P1) rfl ⟨trivial, trivial⟩ ?_
      refine tr_goto ?_
      exact t_139_20 N a1 a2 (1 : Int32) P1
    · refine tr_icT (cd := .ne) h7 ?_
      refine tr_nil (rows2 := kb_139_19) rfl (List.cons_ne_nil _ _) ?_
      refine tr_blk 1 (pc' := 20) (rows' := kb_139_19.drop 1) (loc' := [.inr (11, 0, 0, 0), .inl (.int a1), .inl (.int a2)]) (st' := [.inl (.int (0 : Int32)), .inr (11, 0, 0, 0)]) (P1 := P1) rfl ⟨trivial, trivial⟩ ?_
      exact t_139_20 N a1 a2 (0 : Int32) P1
def f_24_1 (N : Nat) (a1 : Int32) (a2 : Int32) (P : ab_P) : Option (Int32 × ab_P) :=
    ab_h2 (f_139 N a1 a2 P) (fun v2 P1 =>
    ab_lt (ab_pL P1 570 0 (v2).toInt64) fun P3 =>
    some ((0 : Int32), P3))
    (fun P9 => some ((1 : Int32), P9)) (fun P9 => some ((2 : Int32), P9)) (fun _ => none)
theorem t_24_1 {xs : Nat × (Nat → Int32)} {d : Nat} (N : Nat) : ∀ (a1 : Int32) (a2 : Int32) (P : ab_P), ab_tr xs wI (d + 4) 24 0 [] [.inr (11, 0, 0, 0), .inl (.int a1), .inl (.int a2), .inr (22, 1, 0, 570), ab_top] [] P (f_24_1 N a1 a2 P) := by
  intro a1 a2 P
  unfold f_24_1
  refine tr_nil (rows2 := kb_24_0) rfl (List.cons_ne_nil _ _) ?_
  refine tr_blk 5 (pc' := 5) (rows' := kb_24_0.drop 5) (loc' := [.inr (11, 0, 0, 0), .inl (.int a1), .inl (.int a2), .inr (22, 1, 0, 570), ab_top]) (st' := [.inl (.int a2), .inl (.int a1), .inr (11, 0, 0, 0), .inl (.int (0 : Int32)), .inr (22, 1, 0, 570)]) (P1 := P) rfl ⟨trivial, trivial, trivial, trivial, trivial, trivial⟩ ?_
  refine tr_cah (fun b => some (.inl (.int b))) (zi := km_24) (fun _ => rfl) rfl (z := km_139) (av := [.inr (11, 0, 0, 0), .inl (.int a1), .inl (.int a2)]) (st' := [.inl (.int (0 : Int32)), .inr (22, 1, 0, 570)]) rfl rfl rfl (Nat.le_of_ble_eq_true rfl) ⟨rfl, Or.inl (by decide)⟩ rfl (Nat.le_of_ble_eq_true rfl) (t_139 N a1 a2 P) (fun v2 P1 => ?_) ?_ ?_ ?_
  · refine tr_blk 2 (pc' := 10) (rows' := kb_24_0.drop 8) (loc' := [.inr (11, 0, 0, 0), .inl (.int a1), .inl (.int a2), .inr (22, 1, 0, 570), ab_top]) (st' := []) (P1 := (ab_pL P1 570 0 (v2).toInt64)) rfl ⟨trivial, (ab_vi (by decide)), trivial⟩ ?_
    refine tr_lt (fun P3 => ?_)
    refine tr_goto ?_
    refine tr_nil (rows2 := kb_24_21) rfl (List.cons_ne_nil _ _) ?_
    refine tr_blk 1 (pc' := 22) (rows' := kb_24_21.drop 1) (loc' := [.inr (11, 0, 0, 0), .inl (.int a1), .inl (.int a2), .inr (22, 1, 0, 570), ab_top]) (st' := [.inl (.int (0 : Int32))]) (P1 := P3) rfl ⟨trivial, trivial⟩ ?_
    exact tr_reI (z := km_24) rfl ⟨_, rfl, rfl⟩ rfl
  · exact fun _ => tr_han (rows2 := kb_24_13) (z := km_24) _ (fun q => [.inr (11, 0, 0, 0), .inl (.int a1), .inl (.int a2), .inr (22, 1, 0, 570), .inr (40, 0, 0, q)]) rfl (List.cons_ne_nil _ _) (fun q => rfl) ⟨trivial, trivial, trivial⟩ rfl ⟨_, rfl, rfl⟩ rfl
  · exact fun _ => tr_han (rows2 := kb_24_17) (z := km_24) _ (fun q => [.inr (11, 0, 0, 0), .inl (.int a1), .inl (.int a2), .inr (22, 1, 0, 570), .inr (40, 1, 0, q)]) rfl (List.cons_ne_nil _ _) (fun q => rfl) ⟨trivial, trivial, trivial⟩ rfl ⟨_, rfl, rfl⟩ rfl
  · exact fun _ => rfl
def f_140_366_65 (i0 : Nat) (P : ab_P) (H5 : Int32 → Int32 → Int32 → Int32 → Option Int32) (x1 : Int32) (x2 : Int32) (x4 : Int32) (s0 : Int32) (s1 : Int32) : Option Int32 :=
    Option.bind (f_135_366 i0 P x4 (0 : Int32)) fun v5 =>
    if v5 = x1 then
      Option.bind (f_135_366 i0 P x4 (2 : Int32)) fun v6 =>
      H5 x1 x2 ((s1 + s0) - v6) (x4 + 1)
    else
    H5 x1 x2 ((s1 + s0) - (0 : Int32)) (x4 + 1)
theorem t_140_366_65 {xs : Nat × (Nat → Int32)} {d : Nat} (i0 : Nat) (P : ab_P) (H5 : Int32 → Int32 → Int32 → Int32 → Option Int32) (hH5 : ∀ (x1 : Int32) (x2 : Int32) (x3 : Int32) (x4 : Int32), ab_tr xs (rI P) (d + 2) 140 5 [] [.inr (20, 366, 0, i0), .inl (.int x1), .inl (.int x2), .inl (.int x3), .inl (.int x4)] [] P (H5 x1 x2 x3 x4)) : ∀ (x1 : Int32) (x2 : Int32) (x4 : Int32) (s0 : Int32) (s1 : Int32) (d3 : Int32), ab_tr xs (rI P) (d + 2) 140 65 [] [.inr (20, 366, 0, i0), .inl (.int x1), .inl (.int x2), .inl (.int d3), .inl (.int x4)] [.inl (.int s0), .inl (.int s1)] P (f_140_366_65 i0 P H5 x1 x2 x4 s0 s1) := by
  intro x1 x2 x4 s0 s1 d3
  unfold f_140_366_65
  refine tr_nil (rows2 := kb_140_65) rfl (List.cons_ne_nil _ _) ?_
  refine tr_blk 6 (pc' := 72) (rows' := kb_140_65.drop 6) (loc' := [.inr (20, 366, 0, i0), .inl (.int x1), .inl (.int x2), .inl (.int (s1 + s0)), .inl (.int x4)]) (st' := [.inl (.int (0 : Int32)), .inl (.int x4), .inr (20, 366, 0, i0), .inl (.int (s1 + s0))]) (P1 := P) rfl ⟨trivial, trivial, trivial, trivial, trivial, trivial, trivial⟩ ?_
  refine tr_cRI (z := km_135) (av := [.inr (20, 366, 0, i0), .inl (.int x4), .inl (.int (0 : Int32))]) (st' := [.inl (.int (s1 + s0))]) rfl rfl rfl (Nat.le_of_ble_eq_true rfl) trivial rfl (Nat.le_of_ble_eq_true rfl) (t_135_366 i0 P x4 (0 : Int32)) (fun v5 => ?_)
  refine tr_blk 1 (pc' := 76) (rows' := kb_140_65.drop 8) (loc' := [.inr (20, 366, 0, i0), .inl (.int x1), .inl (.int x2), .inl (.int (s1 + s0)), .inl (.int x4)]) (st' := [.inl (.int x1), .inl (.int v5), .inl (.int (s1 + s0))]) (P1 := P) rfl ⟨trivial, trivial⟩ ?_
  refine tr_if (fun h7 => ?_) (fun h7 => ?_)
  · refine tr_icF (cd := .ne) (fun q => q h7) ?_
    refine tr_blk 3 (pc' := 83) (rows' := kb_140_65.drop 12) (loc' := [.inr (20, 366, 0, i0), .inl (.int x1), .inl (.int x2), .inl (.int (s1 + s0)), .inl (.int x4)]) (st' := [.inl (.int (2 : Int32)), .inl (.int x4), .inr (20, 366, 0, i0), .inl (.int (s1 + s0))]) (P1 := P) rfl ⟨trivial, trivial, trivial, trivial⟩ ?_
    refine tr_cRI (z := km_135) (av := [.inr (20, 366, 0, i0), .inl (.int x4), .inl (.int (2 : Int32))]) (st' := [.inl (.int (s1 + s0))]) rfl rfl rfl (Nat.le_of_ble_eq_true rfl) trivial rfl (Nat.le_of_ble_eq_true rfl) (t_135_366 i0 P x4 (2 : Int32)) (fun v6 => ?_)
    refine tr_goto ?_
    refine tr_nil (rows2 := kb_140_90) rfl (List.cons_ne_nil _ _) ?_
    refine tr_blk 2 (pc' := 92) (rows' := kb_140_90.drop 2) (loc' := [.inr (20, 366, 0, i0), .inl (.int x1), .inl (.int x2), .inl (.int ((s1 + s0) - v6)), .inl (.int x4)]) (st' := []) (P1 := P) rfl ⟨trivial, trivial, trivial⟩ ?_
    refine tr_nil (rows2 := kb_140_92) rfl (List.cons_ne_nil _ _) ?_
    refine tr_blk 1 (pc' := 95) (rows' := kb_140_92.drop 1) (loc' := [.inr (20, 366, 0, i0), .inl (.int x1), .inl (.int x2), .inl (.int ((s1 + s0) - v6)), .inl (.int (x4 + 1))]) (st' := []) (P1 := P) rfl ⟨trivial, trivial⟩ ?_
    refine tr_goto ?_
    exact hH5 x1 x2 ((s1 + s0) - v6) (x4 + 1)
  · refine tr_icT (cd := .ne) h7 ?_
    refine tr_nil (rows2 := kb_140_89) rfl (List.cons_ne_nil _ _) ?_
    refine tr_blk 1 (pc' := 90) (rows' := kb_140_89.drop 1) (loc' := [.inr (20, 366, 0, i0), .inl (.int x1), .inl (.int x2), .inl (.int (s1 + s0)), .inl (.int x4)]) (st' := [.inl (.int (0 : Int32)), .inl (.int (s1 + s0))]) (P1 := P) rfl ⟨trivial, trivial⟩ ?_
    refine tr_nil (rows2 := kb_140_90) rfl (List.cons_ne_nil _ _) ?_
    refine tr_blk 2 (pc' := 92) (rows' := kb_140_90.drop 2) (loc' := [.inr (20, 366, 0, i0), .inl (.int x1), .inl (.int x2), .inl (.int ((s1 + s0) - (0 : Int32))), .inl (.int x4)]) (st' := []) (P1 := P) rfl ⟨trivial, trivial, trivial⟩ ?_
    refine tr_nil (rows2 := kb_140_92) rfl (List.cons_ne_nil _ _) ?_
    refine tr_blk 1 (pc' := 95) (rows' := kb_140_92.drop 1) (loc' := [.inr (20, 366, 0, i0), .inl (.int x1), .inl (.int x2), .inl (.int ((s1 + s0) - (0 : Int32))), .inl (.int (x4 + 1))]) (st' := []) (P1 := P) rfl ⟨trivial, trivial⟩ ?_
    refine tr_goto ?_
    exact hH5 x1 x2 ((s1 + s0) - (0 : Int32)) (x4 + 1)
def f_140_366_42 (i0 : Nat) (P : ab_P) (H5 : Int32 → Int32 → Int32 → Int32 → Option Int32) (x1 : Int32) (x2 : Int32) (x3 : Int32) (x4 : Int32) : Option Int32 :=
    Option.bind (f_135_366 i0 P x4 (1 : Int32)) fun v3 =>
    if v3 = x1 then
      Option.bind (f_135_366 i0 P x4 (2 : Int32)) fun v4 =>
      f_140_366_65 i0 P H5 x1 x2 x4 v4 x3
    else
    f_140_366_65 i0 P H5 x1 x2 x4 (0 : Int32) x3
theorem t_140_366_42 {xs : Nat × (Nat → Int32)} {d : Nat} (i0 : Nat) (P : ab_P) (H5 : Int32 → Int32 → Int32 → Int32 → Option Int32) (hH5 : ∀ (x1 : Int32) (x2 : Int32) (x3 : Int32) (x4 : Int32), ab_tr xs (rI P) (d + 2) 140 5 [] [.inr (20, 366, 0, i0), .inl (.int x1), .inl (.int x2), .inl (.int x3), .inl (.int x4)] [] P (H5 x1 x2 x3 x4)) : ∀ (x1 : Int32) (x2 : Int32) (x3 : Int32) (x4 : Int32), ab_tr xs (rI P) (d + 2) 140 42 [] [.inr (20, 366, 0, i0), .inl (.int x1), .inl (.int x2), .inl (.int x3), .inl (.int x4)] [] P (f_140_366_42 i0 P H5 x1 x2 x3 x4) := by
  intro x1 x2 x3 x4
  unfold f_140_366_42
  refine tr_nil (rows2 := kb_140_42) rfl (List.cons_ne_nil _ _) ?_
  refine tr_blk 4 (pc' := 47) (rows' := kb_140_42.drop 4) (loc' := [.inr (20, 366, 0, i0), .inl (.int x1), .inl (.int x2), .inl (.int x3), .inl (.int x4)]) (st' := [.inl (.int (1 : Int32)), .inl (.int x4), .inr (20, 366, 0, i0), .inl (.int x3)]) (P1 := P) rfl ⟨trivial, trivial, trivial, trivial, trivial⟩ ?_
  refine tr_cRI (z := km_135) (av := [.inr (20, 366, 0, i0), .inl (.int x4), .inl (.int (1 : Int32))]) (st' := [.inl (.int x3)]) rfl rfl rfl (Nat.le_of_ble_eq_true rfl) trivial rfl (Nat.le_of_ble_eq_true rfl) (t_135_366 i0 P x4 (1 : Int32)) (fun v3 => ?_)
  refine tr_blk 1 (pc' := 51) (rows' := kb_140_42.drop 6) (loc' := [.inr (20, 366, 0, i0), .inl (.int x1), .inl (.int x2), .inl (.int x3), .inl (.int x4)]) (st' := [.inl (.int x1), .inl (.int v3), .inl (.int x3)]) (P1 := P) rfl ⟨trivial, trivial⟩ ?_
  refine tr_if (fun h8 => ?_) (fun h8 => ?_)
  · refine tr_icF (cd := .ne) (fun q => q h8) ?_
    refine tr_blk 3 (pc' := 58) (rows' := kb_140_42.drop 10) (loc' := [.inr (20, 366, 0, i0), .inl (.int x1), .inl (.int x2), .inl (.int x3), .inl (.int x4)]) (st' := [.inl (.int (2 : Int32)), .inl (.int x4), .inr (20, 366, 0, i0), .inl (.int x3)]) (P1 := P) rfl ⟨trivial, trivial, trivial, trivial⟩ ?_
    refine tr_cRI (z := km_135) (av := [.inr (20, 366, 0, i0), .inl (.int x4), .inl (.int (2 : Int32))]) (st' := [.inl (.int x3)]) rfl rfl rfl (Nat.le_of_ble_eq_true rfl) trivial rfl (Nat.le_of_ble_eq_true rfl) (t_135_366 i0 P x4 (2 : Int32)) (fun v4 => ?_)
    refine tr_goto ?_
    exact t_140_366_65 i0 P H5 hH5 x1 x2 x4 v4 x3 (x3)
  · refine tr_icT (cd := .ne) h8 ?_
    refine tr_nil (rows2 := kb_140_64) rfl (List.cons_ne_nil _ _) ?_
    refine tr_blk 1 (pc' := 65) (rows' := kb_140_64.drop 1) (loc' := [.inr (20, 366, 0, i0), .inl (.int x1), .inl (.int x2), .inl (.int x3), .inl (.int x4)]) (st' := [.inl (.int (0 : Int32)), .inl (.int x3)]) (P1 := P) rfl ⟨trivial, trivial⟩ ?_
    exact t_140_366_65 i0 P H5 hH5 x1 x2 x4 (0 : Int32) x3 (x3)
def f_140_366_5 (i0 : Nat) (P : ab_P) : Nat → Int32 → Int32 → Int32 → Int32 → Option Int32
  | 0, _, _, _, _ => none
  | n + 1, x1, x2, x3, x4 =>
    if x4 < (P.1 i0 360) then
      Option.bind (f_144_366 i0 P x4) fun v1 =>
      if v1 = (0 : Int32) then
        f_140_366_5 i0 P n x1 x2 x3 (x4 + 1)
      else
      if x2 = (0 : Int32) then
        f_140_366_42 i0 P (fun y0 y1 y2 y3 => f_140_366_5 i0 P n y0 y1 y2 y3) x1 x2 x3 x4
      else
      Option.bind (f_135_366 i0 P x4 (6 : Int32)) fun v2 =>
      if v2 = (0 : Int32) then
        f_140_366_5 i0 P n x1 x2 x3 (x4 + 1)
      else
      f_140_366_42 i0 P (fun y0 y1 y2 y3 => f_140_366_5 i0 P n y0 y1 y2 y3) x1 x2 x3 x4
    else
    some x3
theorem t_140_366_5 {xs : Nat × (Nat → Int32)} {d : Nat} (i0 : Nat) (P : ab_P) : ∀ n : Nat, ∀ (x1 : Int32) (x2 : Int32) (x3 : Int32) (x4 : Int32), ab_tr xs (rI P) (d + 2) 140 5 [] [.inr (20, 366, 0, i0), .inl (.int x1), .inl (.int x2), .inl (.int x3), .inl (.int x4)] [] P (f_140_366_5 i0 P n x1 x2 x3 x4) := by
  intro n
  induction n with
  | zero => intro x1 x2 x3 x4; exact tr_no
  | succ n ih =>
    intro x1 x2 x3 x4
    refine tr_nil (rows2 := kb_140_5) rfl (List.cons_ne_nil _ _) ?_
    refine tr_blk 4 (pc' := 12) (rows' := kb_140_5.drop 4) (loc' := [.inr (20, 366, 0, i0), .inl (.int x1), .inl (.int x2), .inl (.int x3), .inl (.int x4)]) (st' := [.inl (.int (P.1 i0 360)), .inl (.int x4)]) (P1 := P) rfl ⟨trivial, trivial, trivial, (ab_vi (by decide)), trivial⟩ ?_
    refine tr_if (fun h9 => ?_) (fun h9 => ?_)
    · refine tr_icF (cd := .ge) (Int32.not_le.mpr h9) ?_
      refine tr_blk 2 (pc' := 18) (rows' := kb_140_5.drop 7) (loc' := [.inr (20, 366, 0, i0), .inl (.int x1), .inl (.int x2), .inl (.int x3), .inl (.int x4)]) (st' := [.inl (.int x4), .inr (20, 366, 0, i0)]) (P1 := P) rfl ⟨trivial, trivial, trivial⟩ ?_
      refine tr_cRI (z := km_144) (av := [.inr (20, 366, 0, i0), .inl (.int x4)]) (st' := []) rfl rfl rfl (Nat.le_of_ble_eq_true rfl) trivial rfl (Nat.le_of_ble_eq_true rfl) (t_144_366 i0 P x4) (fun v1 => ?_)
      refine tr_if (fun h10 => ?_) (fun h10 => ?_)
      · refine tr_ifT (cd := .eq) h10 ?_
        refine tr_nil (rows2 := kb_140_92) rfl (List.cons_ne_nil _ _) ?_
        refine tr_blk 1 (pc' := 95) (rows' := kb_140_92.drop 1) (loc' := [.inr (20, 366, 0, i0), .inl (.int x1), .inl (.int x2), .inl (.int x3), .inl (.int (x4 + 1))]) (st' := []) (P1 := P) rfl ⟨trivial, trivial⟩ ?_
        refine tr_goto ?_
        exact ih x1 x2 x3 (x4 + 1)
      · refine tr_ifF (cd := .eq) h10 ?_
        refine tr_blk 1 (pc' := 25) (rows' := kb_140_5.drop 10) (loc' := [.inr (20, 366, 0, i0), .inl (.int x1), .inl (.int x2), .inl (.int x3), .inl (.int x4)]) (st' := [.inl (.int x2)]) (P1 := P) rfl ⟨trivial, trivial⟩ ?_
        refine tr_if (fun h11 => ?_) (fun h11 => ?_)
        · refine tr_ifT (cd := .eq) h11 ?_
          exact t_140_366_42 i0 P _ ih x1 x2 x3 x4
        · refine tr_ifF (cd := .eq) h11 ?_
          refine tr_blk 3 (pc' := 33) (rows' := kb_140_5.drop 14) (loc' := [.inr (20, 366, 0, i0), .inl (.int x1), .inl (.int x2), .inl (.int x3), .inl (.int x4)]) (st' := [.inl (.int (6 : Int32)), .inl (.int x4), .inr (20, 366, 0, i0)]) (P1 := P) rfl ⟨trivial, trivial, trivial, trivial⟩ ?_
          refine tr_cRI (z := km_135) (av := [.inr (20, 366, 0, i0), .inl (.int x4), .inl (.int (6 : Int32))]) (st' := []) rfl rfl rfl (Nat.le_of_ble_eq_true rfl) trivial rfl (Nat.le_of_ble_eq_true rfl) (t_135_366 i0 P x4 (6 : Int32)) (fun v2 => ?_)
          refine tr_if (fun h12 => ?_) (fun h12 => ?_)
          · refine tr_ifF (cd := .ne) (fun q => q h12) ?_
            refine tr_goto ?_
            refine tr_nil (rows2 := kb_140_92) rfl (List.cons_ne_nil _ _) ?_
            refine tr_blk 1 (pc' := 95) (rows' := kb_140_92.drop 1) (loc' := [.inr (20, 366, 0, i0), .inl (.int x1), .inl (.int x2), .inl (.int x3), .inl (.int (x4 + 1))]) (st' := []) (P1 := P) rfl ⟨trivial, trivial⟩ ?_
            refine tr_goto ?_
            exact ih x1 x2 x3 (x4 + 1)
          · refine tr_ifT (cd := .ne) h12 ?_
            exact t_140_366_42 i0 P _ ih x1 x2 x3 x4
    · refine tr_icT (cd := .ge) (Int32.not_lt.mp h9) ?_
      refine tr_nil (rows2 := kb_140_98) rfl (List.cons_ne_nil _ _) ?_
      refine tr_blk 1 (pc' := 99) (rows' := kb_140_98.drop 1) (loc' := [.inr (20, 366, 0, i0), .inl (.int x1), .inl (.int x2), .inl (.int x3), .inl (.int x4)]) (st' := [.inl (.int x3)]) (P1 := P) rfl ⟨trivial, trivial⟩ ?_
      exact tr_reI (z := km_140) rfl ⟨_, rfl, rfl⟩ rfl
def f_140_366 (i0 : Nat) (N : Nat) (P : ab_P) (a1 : Int32) (a2 : Int32) : Option Int32 :=
    f_140_366_5 i0 P N a1 a2 (0 : Int32) (0 : Int32)
theorem t_140_366 {xs : Nat × (Nat → Int32)} {d : Nat} (i0 : Nat) (N : Nat) (P : ab_P) : ∀ (a1 : Int32) (a2 : Int32), ab_tr xs (rI P) (d + 2) 140 0 [] [.inr (20, 366, 0, i0), .inl (.int a1), .inl (.int a2), ab_top, ab_top] [] P (f_140_366 i0 N P a1 a2) := by
  intro a1 a2
  unfold f_140_366
  refine tr_nil (rows2 := kb_140_0) rfl (List.cons_ne_nil _ _) ?_
  refine tr_blk 4 (pc' := 5) (rows' := kb_140_0.drop 4) (loc' := [.inr (20, 366, 0, i0), .inl (.int a1), .inl (.int a2), .inl (.int (0 : Int32)), .inl (.int (0 : Int32))]) (st' := []) (P1 := P) rfl ⟨trivial, trivial, trivial, trivial, trivial⟩ ?_
  exact t_140_366_5 i0 P N a1 a2 (0 : Int32) (0 : Int32)
def f_25_52 (N : Nat) (x1 : Int32) (x2 : Int32) (P : ab_P) : Option (Int32 × ab_P) :=
    if x2 = (1 : Int32) then
      Option.bind (f_140_366 477 N P x1 (1 : Int32)) fun v9 =>
      some (v9, P)
    else
    Option.bind (f_140_366 477 N P x1 (0 : Int32)) fun v8 =>
    some (v8, P)
theorem t_25_52 {xs : Nat × (Nat → Int32)} {d : Nat} (N : Nat) : ∀ (x1 : Int32) (x2 : Int32) (P : ab_P), ab_tr xs wI (d + 3) 25 52 [] [.inr (12, 0, 0, 72), .inl (.int x1), .inl (.int x2)] [] P (f_25_52 N x1 x2 P) := by
  intro x1 x2 P
  unfold f_25_52
  refine tr_nil (rows2 := kb_25_52) rfl (List.cons_ne_nil _ _) ?_
  refine tr_blk 5 (pc' := 59) (rows' := kb_25_52.drop 5) (loc' := [.inr (12, 0, 0, 72), .inl (.int x1), .inl (.int x2)]) (st' := [.inl (.int (1 : Int32)), .inl (.int x2), .inl (.int x1), .inr (20, 366, 0, 477)]) (P1 := P) rfl ⟨trivial, trivial, trivial, trivial, trivial, trivial⟩ ?_
  refine tr_if (fun h10 => ?_) (fun h10 => ?_)
  · refine tr_icF (cd := .ne) (fun q => q h10) ?_
    refine tr_blk 1 (pc' := 63) (rows' := kb_25_52.drop 7) (loc' := [.inr (12, 0, 0, 72), .inl (.int x1), .inl (.int x2)]) (st' := [.inl (.int (1 : Int32)), .inl (.int x1), .inr (20, 366, 0, 477)]) (P1 := P) rfl ⟨trivial, trivial⟩ ?_
    refine tr_goto ?_
    refine tr_nil (rows2 := kb_25_67) rfl (List.cons_ne_nil _ _) ?_
    refine tr_cRI (z := km_140) (av := [.inr (20, 366, 0, 477), .inl (.int x1), .inl (.int (1 : Int32))]) (st' := []) rfl rfl rfl (Nat.le_of_ble_eq_true rfl) trivial rfl (Nat.le_of_ble_eq_true rfl) (t_140_366 477 N P x1 (1 : Int32)) (fun v9 => ?_)
    exact tr_reI (z := km_25) rfl ⟨_, rfl, rfl⟩ rfl
  · refine tr_icT (cd := .ne) h10 ?_
    refine tr_nil (rows2 := kb_25_66) rfl (List.cons_ne_nil _ _) ?_
    refine tr_blk 1 (pc' := 67) (rows' := kb_25_66.drop 1) (loc' := [.inr (12, 0, 0, 72), .inl (.int x1), .inl (.int x2)]) (st' := [.inl (.int (0 : Int32)), .inl (.int x1), .inr (20, 366, 0, 477)]) (P1 := P) rfl ⟨trivial, trivial⟩ ?_
    refine tr_nil (rows2 := kb_25_67) rfl (List.cons_ne_nil _ _) ?_
    refine tr_cRI (z := km_140) (av := [.inr (20, 366, 0, 477), .inl (.int x1), .inl (.int (0 : Int32))]) (st' := []) rfl rfl rfl (Nat.le_of_ble_eq_true rfl) trivial rfl (Nat.le_of_ble_eq_true rfl) (t_140_366 477 N P x1 (0 : Int32)) (fun v8 => ?_)
    exact tr_reI (z := km_25) rfl ⟨_, rfl, rfl⟩ rfl
def f_25_42 (N : Nat) (x1 : Int32) (x2 : Int32) (s0 : Int32) (P : ab_P) : Option (Int32 × ab_P) :=
    ab_b2 (f_113 s0 (2 : Int32) (1 : Int32) P) fun v7 P6 =>
    if v7 = (0 : Int32) then
      f_25_52 N x1 x2 P6
    else
    some ((0 : Int32), P6)
theorem t_25_42 {xs : Nat × (Nat → Int32)} {d : Nat} (N : Nat) : ∀ (x1 : Int32) (x2 : Int32) (s0 : Int32) (P : ab_P), ab_tr xs wI (d + 3) 25 42 [] [.inr (12, 0, 0, 72), .inl (.int x1), .inl (.int x2)] [.inl (.int s0), .inr (12, 0, 0, 72)] P (f_25_42 N x1 x2 s0 P) := by
  intro x1 x2 s0 P
  unfold f_25_42
  refine tr_nil (rows2 := kb_25_42) rfl (List.cons_ne_nil _ _) ?_
  refine tr_blk 2 (pc' := 44) (rows' := kb_25_42.drop 2) (loc' := [.inr (12, 0, 0, 72), .inl (.int x1), .inl (.int x2)]) (st' := [.inl (.int (1 : Int32)), .inl (.int (2 : Int32)), .inl (.int s0), .inr (12, 0, 0, 72)]) (P1 := P) rfl ⟨trivial, trivial, trivial⟩ ?_
  refine tr_cWI (z := km_113) (av := [.inr (12, 0, 0, 72), .inl (.int s0), .inl (.int (2 : Int32)), .inl (.int (1 : Int32))]) (st' := []) rfl rfl rfl (Nat.le_of_ble_eq_true rfl) ⟨rfl, Or.inl (by decide)⟩ rfl (Nat.le_of_ble_eq_true rfl) (t_113 s0 (2 : Int32) (1 : Int32) P) (fun v7 P6 => ?_)
  refine tr_if (fun h11 => ?_) (fun h11 => ?_)
  · refine tr_ifT (cd := .eq) h11 ?_
    exact t_25_52 N x1 x2 P6
  · refine tr_ifF (cd := .eq) h11 ?_
    refine tr_nil (rows2 := kb_25_50) rfl (List.cons_ne_nil _ _) ?_
    refine tr_blk 1 (pc' := 51) (rows' := kb_25_50.drop 1) (loc' := [.inr (12, 0, 0, 72), .inl (.int x1), .inl (.int x2)]) (st' := [.inl (.int (0 : Int32))]) (P1 := P6) rfl ⟨trivial, trivial⟩ ?_
    exact tr_reI (z := km_25) rfl ⟨_, rfl, rfl⟩ rfl
def f_25_19 (N : Nat) (x1 : Int32) (x2 : Int32) (s0 : Int32) (P : ab_P) : Option (Int32 × ab_P) :=
    ab_b2 (f_113 s0 (1 : Int32) (0 : Int32) P) fun v4 P3 =>
    if v4 = (0 : Int32) then
      Option.bind (f_112 P3 x2 (0 : Int32) (1 : Int32)) fun v5 =>
      if v5 = (0 : Int32) then
        f_25_42 N x1 x2 (1 : Int32) P3
      else
      f_25_42 N x1 x2 (0 : Int32) P3
    else
    some ((0 : Int32), P3)
theorem t_25_19 {xs : Nat × (Nat → Int32)} {d : Nat} (N : Nat) : ∀ (x1 : Int32) (x2 : Int32) (s0 : Int32) (P : ab_P), ab_tr xs wI (d + 3) 25 19 [] [.inr (12, 0, 0, 72), .inl (.int x1), .inl (.int x2)] [.inl (.int s0), .inr (12, 0, 0, 72)] P (f_25_19 N x1 x2 s0 P) := by
  intro x1 x2 s0 P
  unfold f_25_19
  refine tr_nil (rows2 := kb_25_19) rfl (List.cons_ne_nil _ _) ?_
  refine tr_blk 2 (pc' := 21) (rows' := kb_25_19.drop 2) (loc' := [.inr (12, 0, 0, 72), .inl (.int x1), .inl (.int x2)]) (st' := [.inl (.int (0 : Int32)), .inl (.int (1 : Int32)), .inl (.int s0), .inr (12, 0, 0, 72)]) (P1 := P) rfl ⟨trivial, trivial, trivial⟩ ?_
  refine tr_cWI (z := km_113) (av := [.inr (12, 0, 0, 72), .inl (.int s0), .inl (.int (1 : Int32)), .inl (.int (0 : Int32))]) (st' := []) rfl rfl rfl (Nat.le_of_ble_eq_true rfl) ⟨rfl, Or.inl (by decide)⟩ rfl (Nat.le_of_ble_eq_true rfl) (t_113 s0 (1 : Int32) (0 : Int32) P) (fun v4 P3 => ?_)
  refine tr_if (fun h12 => ?_) (fun h12 => ?_)
  · refine tr_ifF (cd := .ne) (fun q => q h12) ?_
    refine tr_blk 4 (pc' := 31) (rows' := kb_25_19.drop 8) (loc' := [.inr (12, 0, 0, 72), .inl (.int x1), .inl (.int x2)]) (st' := [.inl (.int (1 : Int32)), .inl (.int (0 : Int32)), .inl (.int x2), .inr (12, 0, 0, 72)]) (P1 := P3) rfl ⟨trivial, trivial, trivial, trivial, trivial⟩ ?_
    refine tr_cRI (z := km_112) (av := [.inl (.int x2), .inl (.int (0 : Int32)), .inl (.int (1 : Int32))]) (st' := [.inr (12, 0, 0, 72)]) rfl rfl rfl (Nat.le_of_ble_eq_true rfl) trivial rfl (Nat.le_of_ble_eq_true rfl) (t_112 P3 x2 (0 : Int32) (1 : Int32)) (fun v5 => ?_)
    refine tr_if (fun h13 => ?_) (fun h13 => ?_)
    · refine tr_ifF (cd := .ne) (fun q => q h13) ?_
      refine tr_blk 1 (pc' := 38) (rows' := kb_25_19.drop 11) (loc' := [.inr (12, 0, 0, 72), .inl (.int x1), .inl (.int x2)]) (st' := [.inl (.int (1 : Int32)), .inr (12, 0, 0, 72)]) (P1 := P3) rfl ⟨trivial, trivial⟩ ?_
      refine tr_goto ?_
      exact t_25_42 N x1 x2 (1 : Int32) P3
    · refine tr_ifT (cd := .ne) h13 ?_
      refine tr_nil (rows2 := kb_25_41) rfl (List.cons_ne_nil _ _) ?_
      refine tr_blk 1 (pc' := 42) (rows' := kb_25_41.drop 1) (loc' := [.inr (12, 0, 0, 72), .inl (.int x1), .inl (.int x2)]) (st' := [.inl (.int (0 : Int32)), .inr (12, 0, 0, 72)]) (P1 := P3) rfl ⟨trivial, trivial⟩ ?_
      exact t_25_42 N x1 x2 (0 : Int32) P3
  · refine tr_ifT (cd := .ne) h12 ?_
    refine tr_nil (rows2 := kb_25_50) rfl (List.cons_ne_nil _ _) ?_
    refine tr_blk 1 (pc' := 51) (rows' := kb_25_50.drop 1) (loc' := [.inr (12, 0, 0, 72), .inl (.int x1), .inl (.int x2)]) (st' := [.inl (.int (0 : Int32))]) (P1 := P3) rfl ⟨trivial, trivial⟩ ?_
    exact tr_reI (z := km_25) rfl ⟨_, rfl, rfl⟩ rfl
def f_25 (N : Nat) (a1 : Int32) (a2 : Int32) (P : ab_P) : Option (Int32 × ab_P) :=
    ab_lt (ab_pI P 72 0 (0 : Int32)) fun P1 =>
    Option.bind (f_137 P1 a1) fun v2 =>
    if v2 = (0 : Int32) then
      f_25_19 N a1 a2 (1 : Int32) P1
    else
    f_25_19 N a1 a2 (0 : Int32) P1
theorem t_25 {xs : Nat × (Nat → Int32)} {d : Nat} (N : Nat) : ∀ (a1 : Int32) (a2 : Int32) (P : ab_P), ab_tr xs wI (d + 3) 25 0 [] [.inr (12, 0, 0, 72), .inl (.int a1), .inl (.int a2)] [] P (f_25 N a1 a2 P) := by
  intro a1 a2 P
  unfold f_25
  refine tr_nil (rows2 := kb_25_0) rfl (List.cons_ne_nil _ _) ?_
  refine tr_blk 3 (pc' := 5) (rows' := kb_25_0.drop 3) (loc' := [.inr (12, 0, 0, 72), .inl (.int a1), .inl (.int a2)]) (st' := []) (P1 := (ab_pI P 72 0 (0 : Int32))) rfl ⟨trivial, trivial, trivial, trivial⟩ ?_
  refine tr_lt (fun P1 => ?_)
  refine tr_blk 3 (pc' := 8) (rows' := kb_25_0.drop 6) (loc' := [.inr (12, 0, 0, 72), .inl (.int a1), .inl (.int a2)]) (st' := [.inl (.int a1), .inr (12, 0, 0, 72), .inr (12, 0, 0, 72)]) (P1 := P1) rfl ⟨trivial, trivial, trivial, trivial⟩ ?_
  refine tr_cRI (z := km_137) (av := [.inr (12, 0, 0, 72), .inl (.int a1)]) (st' := [.inr (12, 0, 0, 72)]) rfl rfl rfl (Nat.le_of_ble_eq_true rfl) ⟨rfl, Or.inl (by decide)⟩ rfl (Nat.le_of_ble_eq_true rfl) (t_137 P1 a1) (fun v2 => ?_)
  refine tr_if (fun h14 => ?_) (fun h14 => ?_)
  · refine tr_ifF (cd := .ne) (fun q => q h14) ?_
    refine tr_blk 1 (pc' := 15) (rows' := kb_25_0.drop 9) (loc' := [.inr (12, 0, 0, 72), .inl (.int a1), .inl (.int a2)]) (st' := [.inl (.int (1 : Int32)), .inr (12, 0, 0, 72)]) (P1 := P1) rfl ⟨trivial, trivial⟩ ?_
    refine tr_goto ?_
    exact t_25_19 N a1 a2 (1 : Int32) P1
  · refine tr_ifT (cd := .ne) h14 ?_
    refine tr_nil (rows2 := kb_25_18) rfl (List.cons_ne_nil _ _) ?_
    refine tr_blk 1 (pc' := 19) (rows' := kb_25_18.drop 1) (loc' := [.inr (12, 0, 0, 72), .inl (.int a1), .inl (.int a2)]) (st' := [.inl (.int (0 : Int32)), .inr (12, 0, 0, 72)]) (P1 := P1) rfl ⟨trivial, trivial⟩ ?_
    exact t_25_19 N a1 a2 (0 : Int32) P1
def f_237 (i0 : Nat) (P : ab_P) (a1 : Int32) : Option Int32 :=
    if a1 < (0 : Int32) then
      some (0 : Int32)
    else
    if a1 < (5 : Int32) then
      if ab_gi a1 5 then
      some (P.1 (i0 + 2) a1.toNatClampNeg)
      else none
    else
    some (0 : Int32)
theorem t_237 {xs : Nat × (Nat → Int32)} {d : Nat} (i0 : Nat) (P : ab_P) : ∀ (a1 : Int32), ab_tr xs (rI P) (d + 0) 237 0 [] [.inr (6, 0, 0, i0), .inl (.int a1)] [] P (f_237 i0 P a1) := by
  intro a1
  unfold f_237
  refine tr_nil (rows2 := kb_237_0) rfl (List.cons_ne_nil _ _) ?_
  refine tr_blk 1 (pc' := 1) (rows' := kb_237_0.drop 1) (loc' := [.inr (6, 0, 0, i0), .inl (.int a1)]) (st' := [.inl (.int a1)]) (P1 := P) rfl ⟨trivial, trivial⟩ ?_
  refine tr_if (fun h2 => ?_) (fun h2 => ?_)
  · refine tr_ifT (cd := .lt) h2 ?_
    refine tr_nil (rows2 := kb_237_18) rfl (List.cons_ne_nil _ _) ?_
    refine tr_blk 1 (pc' := 19) (rows' := kb_237_18.drop 1) (loc' := [.inr (6, 0, 0, i0), .inl (.int a1)]) (st' := [.inl (.int (0 : Int32))]) (P1 := P) rfl ⟨trivial, trivial⟩ ?_
    refine tr_nil (rows2 := kb_237_19) rfl (List.cons_ne_nil _ _) ?_
    exact tr_reI (z := km_237) rfl ⟨_, rfl, rfl⟩ rfl
  · refine tr_ifF (cd := .lt) h2 ?_
    refine tr_blk 2 (pc' := 6) (rows' := kb_237_0.drop 4) (loc' := [.inr (6, 0, 0, i0), .inl (.int a1)]) (st' := [.inl (.int (5 : Int32)), .inl (.int a1)]) (P1 := P) rfl ⟨trivial, trivial, trivial⟩ ?_
    refine tr_if (fun h3 => ?_) (fun h3 => ?_)
    · refine tr_icF (cd := .ge) (Int32.not_le.mpr h3) ?_
      refine tr_gd (fun h1 => ?_)
      refine tr_blk 4 (pc' := 15) (rows' := kb_237_0.drop 9) (loc' := [.inr (6, 0, 0, i0), .inl (.int a1)]) (st' := [.inl (.int (P.1 (i0 + 2) a1.toNatClampNeg))]) (P1 := P) rfl ⟨trivial, trivial, trivial, h1, trivial⟩ ?_
      refine tr_goto ?_
      refine tr_nil (rows2 := kb_237_19) rfl (List.cons_ne_nil _ _) ?_
      exact tr_reI (z := km_237) rfl ⟨_, rfl, rfl⟩ rfl
    · refine tr_icT (cd := .ge) (Int32.not_lt.mp h3) ?_
      refine tr_nil (rows2 := kb_237_18) rfl (List.cons_ne_nil _ _) ?_
      refine tr_blk 1 (pc' := 19) (rows' := kb_237_18.drop 1) (loc' := [.inr (6, 0, 0, i0), .inl (.int a1)]) (st' := [.inl (.int (0 : Int32))]) (P1 := P) rfl ⟨trivial, trivial⟩ ?_
      refine tr_nil (rows2 := kb_237_19) rfl (List.cons_ne_nil _ _) ?_
      exact tr_reI (z := km_237) rfl ⟨_, rfl, rfl⟩ rfl
def f_236_4 (i0 : Nat) (P : ab_P) : Nat → Int32 → Int32 → Option Int32
  | 0, _, _ => none
  | n + 1, x1, x2 =>
    if x2 < (P.1 i0 2) then
      Option.bind (f_263 i0 P x2) fun v1 =>
      if v1 = (0 : Int32) then
        f_236_4 i0 P n (x1 + (0 : Int32)) (x2 + 1)
      else
      Option.bind (f_231 i0 P (2 : Int32) x2) fun v2 =>
      f_236_4 i0 P n (x1 + v2) (x2 + 1)
    else
    some x1
theorem t_236_4 {xs : Nat × (Nat → Int32)} {d : Nat} (i0 : Nat) (P : ab_P) : ∀ n : Nat, ∀ (x1 : Int32) (x2 : Int32), ab_tr xs (rI P) (d + 2) 236 4 [] [.inr (6, 0, 0, i0), .inl (.int x1), .inl (.int x2)] [] P (f_236_4 i0 P n x1 x2) := by
  intro n
  induction n with
  | zero => intro x1 x2; exact tr_no
  | succ n ih =>
    intro x1 x2
    refine tr_nil (rows2 := kb_236_4) rfl (List.cons_ne_nil _ _) ?_
    refine tr_blk 3 (pc' := 9) (rows' := kb_236_4.drop 3) (loc' := [.inr (6, 0, 0, i0), .inl (.int x1), .inl (.int x2)]) (st' := [.inl (.int (P.1 i0 2)), .inl (.int x2)]) (P1 := P) rfl ⟨trivial, trivial, trivial, trivial⟩ ?_
    refine tr_if (fun h3 => ?_) (fun h3 => ?_)
    · refine tr_icF (cd := .ge) (Int32.not_le.mpr h3) ?_
      refine tr_blk 3 (pc' := 15) (rows' := kb_236_4.drop 7) (loc' := [.inr (6, 0, 0, i0), .inl (.int x1), .inl (.int x2)]) (st' := [.inl (.int x2), .inr (6, 0, 0, i0), .inl (.int x1)]) (P1 := P) rfl ⟨trivial, trivial, trivial, trivial⟩ ?_
      refine tr_cRI (z := km_263) (av := [.inr (6, 0, 0, i0), .inl (.int x2)]) (st' := [.inl (.int x1)]) rfl rfl rfl (Nat.le_of_ble_eq_true rfl) ⟨rfl, Or.inl (by decide)⟩ rfl (Nat.le_of_ble_eq_true rfl) (t_263 i0 P x2) (fun v1 => ?_)
      refine tr_if (fun h4 => ?_) (fun h4 => ?_)
      · refine tr_ifT (cd := .eq) h4 ?_
        refine tr_nil (rows2 := kb_236_30) rfl (List.cons_ne_nil _ _) ?_
        refine tr_blk 1 (pc' := 31) (rows' := kb_236_30.drop 1) (loc' := [.inr (6, 0, 0, i0), .inl (.int x1), .inl (.int x2)]) (st' := [.inl (.int (0 : Int32)), .inl (.int x1)]) (P1 := P) rfl ⟨trivial, trivial⟩ ?_
        refine tr_nil (rows2 := kb_236_31) rfl (List.cons_ne_nil _ _) ?_
        refine tr_blk 3 (pc' := 36) (rows' := kb_236_31.drop 3) (loc' := [.inr (6, 0, 0, i0), .inl (.int (x1 + (0 : Int32))), .inl (.int (x2 + 1))]) (st' := []) (P1 := P) rfl ⟨trivial, trivial, trivial, trivial⟩ ?_
        refine tr_goto ?_
        exact ih (x1 + (0 : Int32)) (x2 + 1)
      · refine tr_ifF (cd := .eq) h4 ?_
        refine tr_blk 3 (pc' := 24) (rows' := kb_236_4.drop 12) (loc' := [.inr (6, 0, 0, i0), .inl (.int x1), .inl (.int x2)]) (st' := [.inl (.int x2), .inl (.int (2 : Int32)), .inr (6, 0, 0, i0), .inl (.int x1)]) (P1 := P) rfl ⟨trivial, trivial, trivial, trivial⟩ ?_
        refine tr_cRI (z := km_231) (av := [.inr (6, 0, 0, i0), .inl (.int (2 : Int32)), .inl (.int x2)]) (st' := [.inl (.int x1)]) rfl rfl rfl (Nat.le_of_ble_eq_true rfl) ⟨rfl, Or.inl (by decide)⟩ rfl (Nat.le_of_ble_eq_true rfl) (t_231 i0 P (2 : Int32) x2) (fun v2 => ?_)
        refine tr_goto ?_
        refine tr_nil (rows2 := kb_236_31) rfl (List.cons_ne_nil _ _) ?_
        refine tr_blk 3 (pc' := 36) (rows' := kb_236_31.drop 3) (loc' := [.inr (6, 0, 0, i0), .inl (.int (x1 + v2)), .inl (.int (x2 + 1))]) (st' := []) (P1 := P) rfl ⟨trivial, trivial, trivial, trivial⟩ ?_
        refine tr_goto ?_
        exact ih (x1 + v2) (x2 + 1)
    · refine tr_icT (cd := .ge) (Int32.not_lt.mp h3) ?_
      refine tr_nil (rows2 := kb_236_39) rfl (List.cons_ne_nil _ _) ?_
      refine tr_blk 1 (pc' := 40) (rows' := kb_236_39.drop 1) (loc' := [.inr (6, 0, 0, i0), .inl (.int x1), .inl (.int x2)]) (st' := [.inl (.int x1)]) (P1 := P) rfl ⟨trivial, trivial⟩ ?_
      exact tr_reI (z := km_236) rfl ⟨_, rfl, rfl⟩ rfl
def f_236 (i0 : Nat) (N : Nat) (P : ab_P) : Option Int32 :=
    f_236_4 i0 P N (0 : Int32) (0 : Int32)
theorem t_236 {xs : Nat × (Nat → Int32)} {d : Nat} (i0 : Nat) (N : Nat) (P : ab_P) : ab_tr xs (rI P) (d + 2) 236 0 [] [.inr (6, 0, 0, i0), ab_top, ab_top] [] P (f_236 i0 N P) := by
  unfold f_236
  refine tr_nil (rows2 := kb_236_0) rfl (List.cons_ne_nil _ _) ?_
  refine tr_blk 4 (pc' := 4) (rows' := kb_236_0.drop 4) (loc' := [.inr (6, 0, 0, i0), .inl (.int (0 : Int32)), .inl (.int (0 : Int32))]) (st' := []) (P1 := P) rfl ⟨trivial, trivial, trivial, trivial, trivial⟩ ?_
  exact t_236_4 i0 P N (0 : Int32) (0 : Int32)
def f_141_15 (N : Nat) (x1 : Int32) (s0 : Int32) (P : ab_P) : Option ((Int32 ⊕ Fin 3) × ab_P) :=
    ab_x2 (f_228 s0 P) (fun _ P1 =>
    if x1 = (0 : Int32) then
      Option.bind (f_236 43 N P1) fun v3 =>
      some (.inl v3, P1)
    else
    Option.bind (f_237 43 P1 x1) fun v2 =>
    some (.inl v2, P1)) (fun q => q)
theorem t_141_15 {xs : Nat × (Nat → Int32)} {d : Nat} (N : Nat) : ∀ (x1 : Int32) (s0 : Int32) (P : ab_P), ab_tr xs xI (d + 3) 141 15 [] [.inr (11, 0, 0, 0), .inl (.int x1)] [.inl (.int s0), .inr (11, 0, 0, 0)] P (f_141_15 N x1 s0 P) := by
  intro x1 s0 P
  unfold f_141_15
  refine tr_nil (rows2 := kb_141_15) rfl (List.cons_ne_nil _ _) ?_
  refine tr_cax (fun _ => none) (zi := km_141) (fun _ => rfl) (fun _ _ => rfl) rfl rfl (z := km_228) (av := [.inr (11, 0, 0, 0), .inl (.int s0)]) (st' := []) rfl rfl rfl (Nat.le_of_ble_eq_true rfl) ⟨rfl, Or.inl (by decide)⟩ rfl (Nat.le_of_ble_eq_true rfl) (t_228 s0 P) (fun _ P1 => ?_)
  refine tr_blk 1 (pc' := 19) (rows' := kb_141_15.drop 2) (loc' := [.inr (11, 0, 0, 0), .inl (.int x1)]) (st' := [.inl (.int x1)]) (P1 := P1) rfl ⟨trivial, trivial⟩ ?_
  refine tr_if (fun h4 => ?_) (fun h4 => ?_)
  · refine tr_ifF (cd := .ne) (fun q => q h4) ?_
    refine tr_blk 2 (pc' := 26) (rows' := kb_141_15.drop 5) (loc' := [.inr (11, 0, 0, 0), .inl (.int x1)]) (st' := [.inr (6, 0, 0, 43)]) (P1 := P1) rfl ⟨trivial, trivial, trivial⟩ ?_
    refine tr_cRI (z := km_236) (av := [.inr (6, 0, 0, 43)]) (st' := []) rfl rfl rfl (Nat.le_of_ble_eq_true rfl) ⟨rfl, Or.inl (by decide)⟩ rfl (Nat.le_of_ble_eq_true rfl) (t_236 43 N P1) (fun v3 => ?_)
    refine tr_goto ?_
    refine tr_nil (rows2 := kb_141_40) rfl (List.cons_ne_nil _ _) ?_
    exact tr_reI (z := km_141) rfl ⟨_, rfl, rfl⟩ rfl
  · refine tr_ifT (cd := .ne) h4 ?_
    refine tr_nil (rows2 := kb_141_32) rfl (List.cons_ne_nil _ _) ?_
    refine tr_blk 3 (pc' := 37) (rows' := kb_141_32.drop 3) (loc' := [.inr (11, 0, 0, 0), .inl (.int x1)]) (st' := [.inl (.int x1), .inr (6, 0, 0, 43)]) (P1 := P1) rfl ⟨trivial, trivial, trivial, trivial⟩ ?_
    refine tr_cRI (z := km_237) (av := [.inr (6, 0, 0, 43), .inl (.int x1)]) (st' := []) rfl rfl rfl (Nat.le_of_ble_eq_true rfl) ⟨rfl, Or.inl (by decide)⟩ rfl (Nat.le_of_ble_eq_true rfl) (t_237 43 P1 x1) (fun v2 => ?_)
    refine tr_nil (rows2 := kb_141_40) rfl (List.cons_ne_nil _ _) ?_
    exact tr_reI (z := km_141) rfl ⟨_, rfl, rfl⟩ rfl
def f_141 (N : Nat) (a1 : Int32) (P : ab_P) : Option ((Int32 ⊕ Fin 3) × ab_P) :=
    if a1 < (0 : Int32) then
      f_141_15 N a1 (0 : Int32) P
    else
    if (4 : Int32) < a1 then
      f_141_15 N a1 (0 : Int32) P
    else
    f_141_15 N a1 (1 : Int32) P
theorem t_141 {xs : Nat × (Nat → Int32)} {d : Nat} (N : Nat) : ∀ (a1 : Int32) (P : ab_P), ab_tr xs xI (d + 3) 141 0 [] [.inr (11, 0, 0, 0), .inl (.int a1)] [] P (f_141 N a1 P) := by
  intro a1 P
  unfold f_141
  refine tr_nil (rows2 := kb_141_0) rfl (List.cons_ne_nil _ _) ?_
  refine tr_blk 2 (pc' := 2) (rows' := kb_141_0.drop 2) (loc' := [.inr (11, 0, 0, 0), .inl (.int a1)]) (st' := [.inl (.int a1), .inr (11, 0, 0, 0)]) (P1 := P) rfl ⟨trivial, trivial, trivial⟩ ?_
  refine tr_if (fun h5 => ?_) (fun h5 => ?_)
  · refine tr_ifT (cd := .lt) h5 ?_
    refine tr_nil (rows2 := kb_141_14) rfl (List.cons_ne_nil _ _) ?_
    refine tr_blk 1 (pc' := 15) (rows' := kb_141_14.drop 1) (loc' := [.inr (11, 0, 0, 0), .inl (.int a1)]) (st' := [.inl (.int (0 : Int32)), .inr (11, 0, 0, 0)]) (P1 := P) rfl ⟨trivial, trivial⟩ ?_
    exact t_141_15 N a1 (0 : Int32) P
  · refine tr_ifF (cd := .lt) h5 ?_
    refine tr_blk 2 (pc' := 7) (rows' := kb_141_0.drop 5) (loc' := [.inr (11, 0, 0, 0), .inl (.int a1)]) (st' := [.inl (.int (4 : Int32)), .inl (.int a1), .inr (11, 0, 0, 0)]) (P1 := P) rfl ⟨trivial, trivial, trivial⟩ ?_
    refine tr_if (fun h6 => ?_) (fun h6 => ?_)
    · refine tr_icT (cd := .gt) h6 ?_
      refine tr_nil (rows2 := kb_141_14) rfl (List.cons_ne_nil _ _) ?_
      refine tr_blk 1 (pc' := 15) (rows' := kb_141_14.drop 1) (loc' := [.inr (11, 0, 0, 0), .inl (.int a1)]) (st' := [.inl (.int (0 : Int32)), .inr (11, 0, 0, 0)]) (P1 := P) rfl ⟨trivial, trivial⟩ ?_
      exact t_141_15 N a1 (0 : Int32) P
    · refine tr_icF (cd := .gt) h6 ?_
      refine tr_blk 1 (pc' := 11) (rows' := kb_141_0.drop 7) (loc' := [.inr (11, 0, 0, 0), .inl (.int a1)]) (st' := [.inl (.int (1 : Int32)), .inr (11, 0, 0, 0)]) (P1 := P) rfl ⟨trivial, trivial⟩ ?_
      refine tr_goto ?_
      exact t_141_15 N a1 (1 : Int32) P
def f_26_1 (N : Nat) (a1 : Int32) (P : ab_P) : Option (Int32 × ab_P) :=
    ab_h2 (f_141 N a1 P) (fun v2 P1 =>
    ab_lt (ab_pL P1 570 0 (v2).toInt64) fun P3 =>
    some ((0 : Int32), P3))
    (fun _ => none) (fun P9 => some ((1 : Int32), P9)) (fun _ => none)
theorem t_26_1 {xs : Nat × (Nat → Int32)} {d : Nat} (N : Nat) : ∀ (a1 : Int32) (P : ab_P), ab_tr xs wI (d + 4) 26 0 [] [.inr (11, 0, 0, 0), .inl (.int a1), .inr (22, 1, 0, 570), ab_top] [] P (f_26_1 N a1 P) := by
  intro a1 P
  unfold f_26_1
  refine tr_nil (rows2 := kb_26_0) rfl (List.cons_ne_nil _ _) ?_
  refine tr_blk 4 (pc' := 4) (rows' := kb_26_0.drop 4) (loc' := [.inr (11, 0, 0, 0), .inl (.int a1), .inr (22, 1, 0, 570), ab_top]) (st' := [.inl (.int a1), .inr (11, 0, 0, 0), .inl (.int (0 : Int32)), .inr (22, 1, 0, 570)]) (P1 := P) rfl ⟨trivial, trivial, trivial, trivial, trivial⟩ ?_
  refine tr_cah (fun b => some (.inl (.int b))) (zi := km_26) (fun _ => rfl) rfl (z := km_141) (av := [.inr (11, 0, 0, 0), .inl (.int a1)]) (st' := [.inl (.int (0 : Int32)), .inr (22, 1, 0, 570)]) rfl rfl rfl (Nat.le_of_ble_eq_true rfl) ⟨rfl, Or.inl (by decide)⟩ rfl (Nat.le_of_ble_eq_true rfl) (t_141 N a1 P) (fun v2 P1 => ?_) ?_ ?_ ?_
  · refine tr_blk 2 (pc' := 9) (rows' := kb_26_0.drop 7) (loc' := [.inr (11, 0, 0, 0), .inl (.int a1), .inr (22, 1, 0, 570), ab_top]) (st' := []) (P1 := (ab_pL P1 570 0 (v2).toInt64)) rfl ⟨trivial, (ab_vi (by decide)), trivial⟩ ?_
    refine tr_lt (fun P3 => ?_)
    refine tr_goto ?_
    refine tr_nil (rows2 := kb_26_15) rfl (List.cons_ne_nil _ _) ?_
    refine tr_blk 1 (pc' := 16) (rows' := kb_26_15.drop 1) (loc' := [.inr (11, 0, 0, 0), .inl (.int a1), .inr (22, 1, 0, 570), ab_top]) (st' := [.inl (.int (0 : Int32))]) (P1 := P3) rfl ⟨trivial, trivial⟩ ?_
    exact tr_reI (z := km_26) rfl ⟨_, rfl, rfl⟩ rfl
  · exact fun _ => rfl
  · exact fun _ => tr_han (rows2 := kb_26_12) (z := km_26) _ (fun q => [.inr (11, 0, 0, 0), .inl (.int a1), .inr (22, 1, 0, 570), .inr (40, 1, 0, q)]) rfl (List.cons_ne_nil _ _) (fun q => rfl) ⟨trivial, trivial, trivial⟩ rfl ⟨_, rfl, rfl⟩ rfl
  · exact fun _ => rfl
def f_142_366_4 (i1 : Nat) (P : ab_P) : Nat → Int32 → Int32 → Option Int32
  | 0, _, _ => none
  | n + 1, x2, x3 =>
    if x3 < (P.1 i1 360) then
      Option.bind (f_144_366 i1 P x3) fun v1 =>
      if v1 = (0 : Int32) then
        f_142_366_4 i1 P n (x2 + (0 : Int32)) (x3 + 1)
      else
      Option.bind (f_135_366 i1 P x3 (2 : Int32)) fun v2 =>
      f_142_366_4 i1 P n (x2 + v2) (x3 + 1)
    else
    some x2
theorem t_142_366_4 {xs : Nat × (Nat → Int32)} {d : Nat} (i1 : Nat) (P : ab_P) : ∀ n : Nat, ∀ (x2 : Int32) (x3 : Int32), ab_tr xs (rI P) (d + 2) 142 4 [] [.inr (12, 0, 0, 72), .inr (20, 366, 0, i1), .inl (.int x2), .inl (.int x3)] [] P (f_142_366_4 i1 P n x2 x3) := by
  intro n
  induction n with
  | zero => intro x2 x3; exact tr_no
  | succ n ih =>
    intro x2 x3
    refine tr_nil (rows2 := kb_142_4) rfl (List.cons_ne_nil _ _) ?_
    refine tr_blk 4 (pc' := 10) (rows' := kb_142_4.drop 4) (loc' := [.inr (12, 0, 0, 72), .inr (20, 366, 0, i1), .inl (.int x2), .inl (.int x3)]) (st' := [.inl (.int (P.1 i1 360)), .inl (.int x3)]) (P1 := P) rfl ⟨trivial, trivial, trivial, (ab_vi (by decide)), trivial⟩ ?_
    refine tr_if (fun h3 => ?_) (fun h3 => ?_)
    · refine tr_icF (cd := .ge) (Int32.not_le.mpr h3) ?_
      refine tr_blk 3 (pc' := 16) (rows' := kb_142_4.drop 8) (loc' := [.inr (12, 0, 0, 72), .inr (20, 366, 0, i1), .inl (.int x2), .inl (.int x3)]) (st' := [.inl (.int x3), .inr (20, 366, 0, i1), .inl (.int x2)]) (P1 := P) rfl ⟨trivial, trivial, trivial, trivial⟩ ?_
      refine tr_cRI (z := km_144) (av := [.inr (20, 366, 0, i1), .inl (.int x3)]) (st' := [.inl (.int x2)]) rfl rfl rfl (Nat.le_of_ble_eq_true rfl) trivial rfl (Nat.le_of_ble_eq_true rfl) (t_144_366 i1 P x3) (fun v1 => ?_)
      refine tr_if (fun h4 => ?_) (fun h4 => ?_)
      · refine tr_ifT (cd := .eq) h4 ?_
        refine tr_nil (rows2 := kb_142_31) rfl (List.cons_ne_nil _ _) ?_
        refine tr_blk 1 (pc' := 32) (rows' := kb_142_31.drop 1) (loc' := [.inr (12, 0, 0, 72), .inr (20, 366, 0, i1), .inl (.int x2), .inl (.int x3)]) (st' := [.inl (.int (0 : Int32)), .inl (.int x2)]) (P1 := P) rfl ⟨trivial, trivial⟩ ?_
        refine tr_nil (rows2 := kb_142_32) rfl (List.cons_ne_nil _ _) ?_
        refine tr_blk 3 (pc' := 37) (rows' := kb_142_32.drop 3) (loc' := [.inr (12, 0, 0, 72), .inr (20, 366, 0, i1), .inl (.int (x2 + (0 : Int32))), .inl (.int (x3 + 1))]) (st' := []) (P1 := P) rfl ⟨trivial, trivial, trivial, trivial⟩ ?_
        refine tr_goto ?_
        exact ih (x2 + (0 : Int32)) (x3 + 1)
      · refine tr_ifF (cd := .eq) h4 ?_
        refine tr_blk 3 (pc' := 25) (rows' := kb_142_4.drop 13) (loc' := [.inr (12, 0, 0, 72), .inr (20, 366, 0, i1), .inl (.int x2), .inl (.int x3)]) (st' := [.inl (.int (2 : Int32)), .inl (.int x3), .inr (20, 366, 0, i1), .inl (.int x2)]) (P1 := P) rfl ⟨trivial, trivial, trivial, trivial⟩ ?_
        refine tr_cRI (z := km_135) (av := [.inr (20, 366, 0, i1), .inl (.int x3), .inl (.int (2 : Int32))]) (st' := [.inl (.int x2)]) rfl rfl rfl (Nat.le_of_ble_eq_true rfl) trivial rfl (Nat.le_of_ble_eq_true rfl) (t_135_366 i1 P x3 (2 : Int32)) (fun v2 => ?_)
        refine tr_goto ?_
        refine tr_nil (rows2 := kb_142_32) rfl (List.cons_ne_nil _ _) ?_
        refine tr_blk 3 (pc' := 37) (rows' := kb_142_32.drop 3) (loc' := [.inr (12, 0, 0, 72), .inr (20, 366, 0, i1), .inl (.int (x2 + v2)), .inl (.int (x3 + 1))]) (st' := []) (P1 := P) rfl ⟨trivial, trivial, trivial, trivial⟩ ?_
        refine tr_goto ?_
        exact ih (x2 + v2) (x3 + 1)
    · refine tr_icT (cd := .ge) (Int32.not_lt.mp h3) ?_
      refine tr_nil (rows2 := kb_142_40) rfl (List.cons_ne_nil _ _) ?_
      refine tr_blk 1 (pc' := 41) (rows' := kb_142_40.drop 1) (loc' := [.inr (12, 0, 0, 72), .inr (20, 366, 0, i1), .inl (.int x2), .inl (.int x3)]) (st' := [.inl (.int x2)]) (P1 := P) rfl ⟨trivial, trivial⟩ ?_
      exact tr_reI (z := km_142) rfl ⟨_, rfl, rfl⟩ rfl
def f_142_366 (i1 : Nat) (N : Nat) (P : ab_P) : Option Int32 :=
    f_142_366_4 i1 P N (0 : Int32) (0 : Int32)
theorem t_142_366 {xs : Nat × (Nat → Int32)} {d : Nat} (i1 : Nat) (N : Nat) (P : ab_P) : ab_tr xs (rI P) (d + 2) 142 0 [] [.inr (12, 0, 0, 72), .inr (20, 366, 0, i1), ab_top, ab_top] [] P (f_142_366 i1 N P) := by
  unfold f_142_366
  refine tr_nil (rows2 := kb_142_0) rfl (List.cons_ne_nil _ _) ?_
  refine tr_blk 4 (pc' := 4) (rows' := kb_142_0.drop 4) (loc' := [.inr (12, 0, 0, 72), .inr (20, 366, 0, i1), .inl (.int (0 : Int32)), .inl (.int (0 : Int32))]) (st' := []) (P1 := P) rfl ⟨trivial, trivial, trivial, trivial, trivial⟩ ?_
  exact t_142_366_4 i1 P N (0 : Int32) (0 : Int32)
def f_27_30 (N : Nat) (x1 : Int32) (P : ab_P) : Option (Int32 × ab_P) :=
    if x1 = (0 : Int32) then
      Option.bind (f_142_366 477 N P) fun v6 =>
      some (v6, P)
    else
    if ab_gi (((362 : Int32) + x1) - (1 : Int32)) 366 then
    some ((P.1 477 ((((362 : Int32) + x1) - (1 : Int32))).toNatClampNeg), P)
    else none
theorem t_27_30 {xs : Nat × (Nat → Int32)} {d : Nat} (N : Nat) : ∀ (x1 : Int32) (P : ab_P), ab_tr xs wI (d + 3) 27 30 [] [.inr (12, 0, 0, 72), .inl (.int x1)] [] P (f_27_30 N x1 P) := by
  intro x1 P
  unfold f_27_30
  refine tr_nil (rows2 := kb_27_30) rfl (List.cons_ne_nil _ _) ?_
  refine tr_blk 1 (pc' := 31) (rows' := kb_27_30.drop 1) (loc' := [.inr (12, 0, 0, 72), .inl (.int x1)]) (st' := [.inl (.int x1)]) (P1 := P) rfl ⟨trivial, trivial⟩ ?_
  refine tr_if (fun h7 => ?_) (fun h7 => ?_)
  · refine tr_ifF (cd := .ne) (fun q => q h7) ?_
    refine tr_blk 3 (pc' := 39) (rows' := kb_27_30.drop 5) (loc' := [.inr (12, 0, 0, 72), .inl (.int x1)]) (st' := [.inr (20, 366, 0, 477), .inr (12, 0, 0, 72)]) (P1 := P) rfl ⟨trivial, trivial, trivial, trivial⟩ ?_
    refine tr_cRI (z := km_142) (av := [.inr (12, 0, 0, 72), .inr (20, 366, 0, 477)]) (st' := []) rfl rfl rfl (Nat.le_of_ble_eq_true rfl) ⟨rfl, Or.inl (by decide)⟩ rfl (Nat.le_of_ble_eq_true rfl) (t_142_366 477 N P) (fun v6 => ?_)
    refine tr_goto ?_
    refine tr_nil (rows2 := kb_27_57) rfl (List.cons_ne_nil _ _) ?_
    exact tr_reI (z := km_27) rfl ⟨_, rfl, rfl⟩ rfl
  · refine tr_ifT (cd := .ne) h7 ?_
    refine tr_nil (rows2 := kb_27_45) rfl (List.cons_ne_nil _ _) ?_
    refine tr_gd (fun h5 => ?_)
    refine tr_blk 8 (pc' := 57) (rows' := kb_27_45.drop 8) (loc' := [.inr (12, 0, 0, 72), .inl (.int x1)]) (st' := [.inl (.int (P.1 477 ((((362 : Int32) + x1) - (1 : Int32))).toNatClampNeg))]) (P1 := P) rfl ⟨trivial, trivial, trivial, trivial, trivial, trivial, trivial, h5, trivial⟩ ?_
    refine tr_nil (rows2 := kb_27_57) rfl (List.cons_ne_nil _ _) ?_
    exact tr_reI (z := km_27) rfl ⟨_, rfl, rfl⟩ rfl
def f_27_20 (N : Nat) (x1 : Int32) (s0 : Int32) (P : ab_P) : Option (Int32 × ab_P) :=
    ab_b2 (f_113 s0 (1 : Int32) (1 : Int32) P) fun v4 P3 =>
    if v4 = (0 : Int32) then
      f_27_30 N x1 P3
    else
    some ((0 : Int32), P3)
theorem t_27_20 {xs : Nat × (Nat → Int32)} {d : Nat} (N : Nat) : ∀ (x1 : Int32) (s0 : Int32) (P : ab_P), ab_tr xs wI (d + 3) 27 20 [] [.inr (12, 0, 0, 72), .inl (.int x1)] [.inl (.int s0), .inr (12, 0, 0, 72)] P (f_27_20 N x1 s0 P) := by
  intro x1 s0 P
  unfold f_27_20
  refine tr_nil (rows2 := kb_27_20) rfl (List.cons_ne_nil _ _) ?_
  refine tr_blk 2 (pc' := 22) (rows' := kb_27_20.drop 2) (loc' := [.inr (12, 0, 0, 72), .inl (.int x1)]) (st' := [.inl (.int (1 : Int32)), .inl (.int (1 : Int32)), .inl (.int s0), .inr (12, 0, 0, 72)]) (P1 := P) rfl ⟨trivial, trivial, trivial⟩ ?_
  refine tr_cWI (z := km_113) (av := [.inr (12, 0, 0, 72), .inl (.int s0), .inl (.int (1 : Int32)), .inl (.int (1 : Int32))]) (st' := []) rfl rfl rfl (Nat.le_of_ble_eq_true rfl) ⟨rfl, Or.inl (by decide)⟩ rfl (Nat.le_of_ble_eq_true rfl) (t_113 s0 (1 : Int32) (1 : Int32) P) (fun v4 P3 => ?_)
  refine tr_if (fun h8 => ?_) (fun h8 => ?_)
  · refine tr_ifT (cd := .eq) h8 ?_
    exact t_27_30 N x1 P3
  · refine tr_ifF (cd := .eq) h8 ?_
    refine tr_blk 1 (pc' := 29) (rows' := kb_27_20.drop 5) (loc' := [.inr (12, 0, 0, 72), .inl (.int x1)]) (st' := [.inl (.int (0 : Int32))]) (P1 := P3) rfl ⟨trivial, trivial⟩ ?_
    exact tr_reI (z := km_27) rfl ⟨_, rfl, rfl⟩ rfl
def f_27 (N : Nat) (a1 : Int32) (P : ab_P) : Option (Int32 × ab_P) :=
    ab_lt (ab_pI P 72 0 (0 : Int32)) fun P1 =>
    Option.bind (f_112 P1 a1 (0 : Int32) (4 : Int32)) fun v2 =>
    if v2 = (0 : Int32) then
      f_27_20 N a1 (1 : Int32) P1
    else
    f_27_20 N a1 (0 : Int32) P1
theorem t_27 {xs : Nat × (Nat → Int32)} {d : Nat} (N : Nat) : ∀ (a1 : Int32) (P : ab_P), ab_tr xs wI (d + 3) 27 0 [] [.inr (12, 0, 0, 72), .inl (.int a1)] [] P (f_27 N a1 P) := by
  intro a1 P
  unfold f_27
  refine tr_nil (rows2 := kb_27_0) rfl (List.cons_ne_nil _ _) ?_
  refine tr_blk 3 (pc' := 5) (rows' := kb_27_0.drop 3) (loc' := [.inr (12, 0, 0, 72), .inl (.int a1)]) (st' := []) (P1 := (ab_pI P 72 0 (0 : Int32))) rfl ⟨trivial, trivial, trivial, trivial⟩ ?_
  refine tr_lt (fun P1 => ?_)
  refine tr_blk 4 (pc' := 9) (rows' := kb_27_0.drop 7) (loc' := [.inr (12, 0, 0, 72), .inl (.int a1)]) (st' := [.inl (.int (4 : Int32)), .inl (.int (0 : Int32)), .inl (.int a1), .inr (12, 0, 0, 72)]) (P1 := P1) rfl ⟨trivial, trivial, trivial, trivial, trivial⟩ ?_
  refine tr_cRI (z := km_112) (av := [.inl (.int a1), .inl (.int (0 : Int32)), .inl (.int (4 : Int32))]) (st' := [.inr (12, 0, 0, 72)]) rfl rfl rfl (Nat.le_of_ble_eq_true rfl) trivial rfl (Nat.le_of_ble_eq_true rfl) (t_112 P1 a1 (0 : Int32) (4 : Int32)) (fun v2 => ?_)
  refine tr_if (fun h9 => ?_) (fun h9 => ?_)
  · refine tr_ifF (cd := .ne) (fun q => q h9) ?_
    refine tr_blk 1 (pc' := 16) (rows' := kb_27_0.drop 10) (loc' := [.inr (12, 0, 0, 72), .inl (.int a1)]) (st' := [.inl (.int (1 : Int32)), .inr (12, 0, 0, 72)]) (P1 := P1) rfl ⟨trivial, trivial⟩ ?_
    refine tr_goto ?_
    exact t_27_20 N a1 (1 : Int32) P1
  · refine tr_ifT (cd := .ne) h9 ?_
    refine tr_nil (rows2 := kb_27_19) rfl (List.cons_ne_nil _ _) ?_
    refine tr_blk 1 (pc' := 20) (rows' := kb_27_19.drop 1) (loc' := [.inr (12, 0, 0, 72), .inl (.int a1)]) (st' := [.inl (.int (0 : Int32)), .inr (12, 0, 0, 72)]) (P1 := P1) rfl ⟨trivial, trivial⟩ ?_
    exact t_27_20 N a1 (0 : Int32) P1
def f_238_5 (i0 : Nat) (P : ab_P) : Nat → Int32 → Int32 → Int32 → Int32 → Option Int32
  | 0, _, _, _, _ => none
  | n + 1, x1, x2, x3, x4 =>
    if x4 < (P.1 i0 2) then
      Option.bind (f_263 i0 P x4) fun v1 =>
      if v1 = (0 : Int32) then
        f_238_5 i0 P n x1 x2 x3 (x4 + 1)
      else
      Option.bind (f_231 i0 P (0 : Int32) x4) fun v2 =>
      if v2 = x1 then
        Option.bind (f_231 i0 P (1 : Int32) x4) fun v3 =>
        if v3 = x2 then
          Option.bind (f_231 i0 P (2 : Int32) x4) fun v4 =>
          f_238_5 i0 P n x1 x2 (x3 + v4) (x4 + 1)
        else
        f_238_5 i0 P n x1 x2 x3 (x4 + 1)
      else
      f_238_5 i0 P n x1 x2 x3 (x4 + 1)
    else
    some x3
theorem t_238_5 {xs : Nat × (Nat → Int32)} {d : Nat} (i0 : Nat) (P : ab_P) : ∀ n : Nat, ∀ (x1 : Int32) (x2 : Int32) (x3 : Int32) (x4 : Int32), ab_tr xs (rI P) (d + 2) 238 5 [] [.inr (6, 0, 0, i0), .inl (.int x1), .inl (.int x2), .inl (.int x3), .inl (.int x4)] [] P (f_238_5 i0 P n x1 x2 x3 x4) := by
  intro n
  induction n with
  | zero => intro x1 x2 x3 x4; exact tr_no
  | succ n ih =>
    intro x1 x2 x3 x4
    refine tr_nil (rows2 := kb_238_5) rfl (List.cons_ne_nil _ _) ?_
    refine tr_blk 3 (pc' := 11) (rows' := kb_238_5.drop 3) (loc' := [.inr (6, 0, 0, i0), .inl (.int x1), .inl (.int x2), .inl (.int x3), .inl (.int x4)]) (st' := [.inl (.int (P.1 i0 2)), .inl (.int x4)]) (P1 := P) rfl ⟨trivial, trivial, trivial, trivial⟩ ?_
    refine tr_if (fun h5 => ?_) (fun h5 => ?_)
    · refine tr_icF (cd := .ge) (Int32.not_le.mpr h5) ?_
      refine tr_blk 2 (pc' := 17) (rows' := kb_238_5.drop 6) (loc' := [.inr (6, 0, 0, i0), .inl (.int x1), .inl (.int x2), .inl (.int x3), .inl (.int x4)]) (st' := [.inl (.int x4), .inr (6, 0, 0, i0)]) (P1 := P) rfl ⟨trivial, trivial, trivial⟩ ?_
      refine tr_cRI (z := km_263) (av := [.inr (6, 0, 0, i0), .inl (.int x4)]) (st' := []) rfl rfl rfl (Nat.le_of_ble_eq_true rfl) ⟨rfl, Or.inl (by decide)⟩ rfl (Nat.le_of_ble_eq_true rfl) (t_263 i0 P x4) (fun v1 => ?_)
      refine tr_if (fun h6 => ?_) (fun h6 => ?_)
      · refine tr_ifT (cd := .eq) h6 ?_
        refine tr_nil (rows2 := kb_238_55) rfl (List.cons_ne_nil _ _) ?_
        refine tr_blk 1 (pc' := 58) (rows' := kb_238_55.drop 1) (loc' := [.inr (6, 0, 0, i0), .inl (.int x1), .inl (.int x2), .inl (.int x3), .inl (.int (x4 + 1))]) (st' := []) (P1 := P) rfl ⟨trivial, trivial⟩ ?_
        refine tr_goto ?_
        exact ih x1 x2 x3 (x4 + 1)
      · refine tr_ifF (cd := .eq) h6 ?_
        refine tr_blk 3 (pc' := 27) (rows' := kb_238_5.drop 11) (loc' := [.inr (6, 0, 0, i0), .inl (.int x1), .inl (.int x2), .inl (.int x3), .inl (.int x4)]) (st' := [.inl (.int x4), .inl (.int (0 : Int32)), .inr (6, 0, 0, i0)]) (P1 := P) rfl ⟨trivial, trivial, trivial, trivial⟩ ?_
        refine tr_cRI (z := km_231) (av := [.inr (6, 0, 0, i0), .inl (.int (0 : Int32)), .inl (.int x4)]) (st' := []) rfl rfl rfl (Nat.le_of_ble_eq_true rfl) ⟨rfl, Or.inl (by decide)⟩ rfl (Nat.le_of_ble_eq_true rfl) (t_231 i0 P (0 : Int32) x4) (fun v2 => ?_)
        refine tr_blk 1 (pc' := 31) (rows' := kb_238_5.drop 13) (loc' := [.inr (6, 0, 0, i0), .inl (.int x1), .inl (.int x2), .inl (.int x3), .inl (.int x4)]) (st' := [.inl (.int x1), .inl (.int v2)]) (P1 := P) rfl ⟨trivial, trivial⟩ ?_
        refine tr_if (fun h7 => ?_) (fun h7 => ?_)
        · refine tr_icF (cd := .ne) (fun q => q h7) ?_
          refine tr_blk 3 (pc' := 38) (rows' := kb_238_5.drop 17) (loc' := [.inr (6, 0, 0, i0), .inl (.int x1), .inl (.int x2), .inl (.int x3), .inl (.int x4)]) (st' := [.inl (.int x4), .inl (.int (1 : Int32)), .inr (6, 0, 0, i0)]) (P1 := P) rfl ⟨trivial, trivial, trivial, trivial⟩ ?_
          refine tr_cRI (z := km_231) (av := [.inr (6, 0, 0, i0), .inl (.int (1 : Int32)), .inl (.int x4)]) (st' := []) rfl rfl rfl (Nat.le_of_ble_eq_true rfl) ⟨rfl, Or.inl (by decide)⟩ rfl (Nat.le_of_ble_eq_true rfl) (t_231 i0 P (1 : Int32) x4) (fun v3 => ?_)
          refine tr_blk 1 (pc' := 42) (rows' := kb_238_5.drop 19) (loc' := [.inr (6, 0, 0, i0), .inl (.int x1), .inl (.int x2), .inl (.int x3), .inl (.int x4)]) (st' := [.inl (.int x2), .inl (.int v3)]) (P1 := P) rfl ⟨trivial, trivial⟩ ?_
          refine tr_if (fun h8 => ?_) (fun h8 => ?_)
          · refine tr_icF (cd := .ne) (fun q => q h8) ?_
            refine tr_blk 4 (pc' := 50) (rows' := kb_238_5.drop 24) (loc' := [.inr (6, 0, 0, i0), .inl (.int x1), .inl (.int x2), .inl (.int x3), .inl (.int x4)]) (st' := [.inl (.int x4), .inl (.int (2 : Int32)), .inr (6, 0, 0, i0), .inl (.int x3)]) (P1 := P) rfl ⟨trivial, trivial, trivial, trivial, trivial⟩ ?_
            refine tr_cRI (z := km_231) (av := [.inr (6, 0, 0, i0), .inl (.int (2 : Int32)), .inl (.int x4)]) (st' := [.inl (.int x3)]) rfl rfl rfl (Nat.le_of_ble_eq_true rfl) ⟨rfl, Or.inl (by decide)⟩ rfl (Nat.le_of_ble_eq_true rfl) (t_231 i0 P (2 : Int32) x4) (fun v4 => ?_)
            refine tr_blk 2 (pc' := 55) (rows' := kb_238_5.drop 27) (loc' := [.inr (6, 0, 0, i0), .inl (.int x1), .inl (.int x2), .inl (.int (x3 + v4)), .inl (.int x4)]) (st' := []) (P1 := P) rfl ⟨trivial, trivial, trivial⟩ ?_
            refine tr_nil (rows2 := kb_238_55) rfl (List.cons_ne_nil _ _) ?_
            refine tr_blk 1 (pc' := 58) (rows' := kb_238_55.drop 1) (loc' := [.inr (6, 0, 0, i0), .inl (.int x1), .inl (.int x2), .inl (.int (x3 + v4)), .inl (.int (x4 + 1))]) (st' := []) (P1 := P) rfl ⟨trivial, trivial⟩ ?_
            refine tr_goto ?_
            exact ih x1 x2 (x3 + v4) (x4 + 1)
          · refine tr_icT (cd := .ne) h8 ?_
            refine tr_nil (rows2 := kb_238_55) rfl (List.cons_ne_nil _ _) ?_
            refine tr_blk 1 (pc' := 58) (rows' := kb_238_55.drop 1) (loc' := [.inr (6, 0, 0, i0), .inl (.int x1), .inl (.int x2), .inl (.int x3), .inl (.int (x4 + 1))]) (st' := []) (P1 := P) rfl ⟨trivial, trivial⟩ ?_
            refine tr_goto ?_
            exact ih x1 x2 x3 (x4 + 1)
        · refine tr_icT (cd := .ne) h7 ?_
          refine tr_nil (rows2 := kb_238_55) rfl (List.cons_ne_nil _ _) ?_
          refine tr_blk 1 (pc' := 58) (rows' := kb_238_55.drop 1) (loc' := [.inr (6, 0, 0, i0), .inl (.int x1), .inl (.int x2), .inl (.int x3), .inl (.int (x4 + 1))]) (st' := []) (P1 := P) rfl ⟨trivial, trivial⟩ ?_
          refine tr_goto ?_
          exact ih x1 x2 x3 (x4 + 1)
    · refine tr_icT (cd := .ge) (Int32.not_lt.mp h5) ?_
      refine tr_nil (rows2 := kb_238_61) rfl (List.cons_ne_nil _ _) ?_
      refine tr_blk 1 (pc' := 62) (rows' := kb_238_61.drop 1) (loc' := [.inr (6, 0, 0, i0), .inl (.int x1), .inl (.int x2), .inl (.int x3), .inl (.int x4)]) (st' := [.inl (.int x3)]) (P1 := P) rfl ⟨trivial, trivial⟩ ?_
      exact tr_reI (z := km_238) rfl ⟨_, rfl, rfl⟩ rfl
def f_238 (i0 : Nat) (N : Nat) (P : ab_P) (a1 : Int32) (a2 : Int32) : Option Int32 :=
    f_238_5 i0 P N a1 a2 (0 : Int32) (0 : Int32)
theorem t_238 {xs : Nat × (Nat → Int32)} {d : Nat} (i0 : Nat) (N : Nat) (P : ab_P) : ∀ (a1 : Int32) (a2 : Int32), ab_tr xs (rI P) (d + 2) 238 0 [] [.inr (6, 0, 0, i0), .inl (.int a1), .inl (.int a2), ab_top, ab_top] [] P (f_238 i0 N P a1 a2) := by
  intro a1 a2
  unfold f_238
  refine tr_nil (rows2 := kb_238_0) rfl (List.cons_ne_nil _ _) ?_
  refine tr_blk 4 (pc' := 5) (rows' := kb_238_0.drop 4) (loc' := [.inr (6, 0, 0, i0), .inl (.int a1), .inl (.int a2), .inl (.int (0 : Int32)), .inl (.int (0 : Int32))]) (st' := []) (P1 := P) rfl ⟨trivial, trivial, trivial, trivial, trivial⟩ ?_
  exact t_238_5 i0 P N a1 a2 (0 : Int32) (0 : Int32)
def f_143 (N : Nat) (a1 : Int32) (a2 : Int32) (P : ab_P) : Option ((Int32 ⊕ Fin 3) × ab_P) :=
    ab_x2 (f_232 a1 P) (fun _ P1 =>
    ab_x2 (f_232 a2 P1) (fun _ P2 =>
    Option.bind (f_238 43 N P2 a1 a2) fun v3 =>
    some (.inl v3, P2)) (fun q => q)) (fun q => q)
theorem t_143 {xs : Nat × (Nat → Int32)} {d : Nat} (N : Nat) : ∀ (a1 : Int32) (a2 : Int32) (P : ab_P), ab_tr xs xI (d + 3) 143 0 [] [.inr (11, 0, 0, 0), .inl (.int a1), .inl (.int a2)] [] P (f_143 N a1 a2 P) := by
  intro a1 a2 P
  unfold f_143
  refine tr_nil (rows2 := kb_143_0) rfl (List.cons_ne_nil _ _) ?_
  refine tr_blk 2 (pc' := 2) (rows' := kb_143_0.drop 2) (loc' := [.inr (11, 0, 0, 0), .inl (.int a1), .inl (.int a2)]) (st' := [.inl (.int a1), .inr (11, 0, 0, 0)]) (P1 := P) rfl ⟨trivial, trivial, trivial⟩ ?_
  refine tr_cax (fun _ => none) (zi := km_143) (fun _ => rfl) (fun _ _ => rfl) rfl rfl (z := km_232) (av := [.inr (11, 0, 0, 0), .inl (.int a1)]) (st' := []) rfl rfl rfl (Nat.le_of_ble_eq_true rfl) ⟨rfl, Or.inl (by decide)⟩ rfl (Nat.le_of_ble_eq_true rfl) (t_232 a1 P) (fun _ P1 => ?_)
  refine tr_blk 2 (pc' := 7) (rows' := kb_143_0.drop 5) (loc' := [.inr (11, 0, 0, 0), .inl (.int a1), .inl (.int a2)]) (st' := [.inl (.int a2), .inr (11, 0, 0, 0)]) (P1 := P1) rfl ⟨trivial, trivial, trivial⟩ ?_
  refine tr_cax (fun _ => none) (zi := km_143) (fun _ => rfl) (fun _ _ => rfl) rfl rfl (z := km_232) (av := [.inr (11, 0, 0, 0), .inl (.int a2)]) (st' := []) rfl rfl rfl (Nat.le_of_ble_eq_true rfl) ⟨rfl, Or.inl (by decide)⟩ rfl (Nat.le_of_ble_eq_true rfl) (t_232 a2 P1) (fun _ P2 => ?_)
  refine tr_blk 4 (pc' := 16) (rows' := kb_143_0.drop 10) (loc' := [.inr (11, 0, 0, 0), .inl (.int a1), .inl (.int a2)]) (st' := [.inl (.int a2), .inl (.int a1), .inr (6, 0, 0, 43)]) (P1 := P2) rfl ⟨trivial, trivial, trivial, trivial, trivial⟩ ?_
  refine tr_cRI (z := km_238) (av := [.inr (6, 0, 0, 43), .inl (.int a1), .inl (.int a2)]) (st' := []) rfl rfl rfl (Nat.le_of_ble_eq_true rfl) ⟨rfl, Or.inl (by decide)⟩ rfl (Nat.le_of_ble_eq_true rfl) (t_238 43 N P2 a1 a2) (fun v3 => ?_)
  exact tr_reI (z := km_143) rfl ⟨_, rfl, rfl⟩ rfl
def f_28_1 (N : Nat) (a1 : Int32) (a2 : Int32) (P : ab_P) : Option (Int32 × ab_P) :=
    ab_h2 (f_143 N a1 a2 P) (fun v2 P1 =>
    ab_lt (ab_pL P1 570 0 (v2).toInt64) fun P3 =>
    some ((0 : Int32), P3))
    (fun P9 => some ((1 : Int32), P9)) (fun _ => none) (fun _ => none)
theorem t_28_1 {xs : Nat × (Nat → Int32)} {d : Nat} (N : Nat) : ∀ (a1 : Int32) (a2 : Int32) (P : ab_P), ab_tr xs wI (d + 4) 28 0 [] [.inr (11, 0, 0, 0), .inl (.int a1), .inl (.int a2), .inr (22, 1, 0, 570), ab_top] [] P (f_28_1 N a1 a2 P) := by
  intro a1 a2 P
  unfold f_28_1
  refine tr_nil (rows2 := kb_28_0) rfl (List.cons_ne_nil _ _) ?_
  refine tr_blk 5 (pc' := 5) (rows' := kb_28_0.drop 5) (loc' := [.inr (11, 0, 0, 0), .inl (.int a1), .inl (.int a2), .inr (22, 1, 0, 570), ab_top]) (st' := [.inl (.int a2), .inl (.int a1), .inr (11, 0, 0, 0), .inl (.int (0 : Int32)), .inr (22, 1, 0, 570)]) (P1 := P) rfl ⟨trivial, trivial, trivial, trivial, trivial, trivial⟩ ?_
  refine tr_cah (fun b => some (.inl (.int b))) (zi := km_28) (fun _ => rfl) rfl (z := km_143) (av := [.inr (11, 0, 0, 0), .inl (.int a1), .inl (.int a2)]) (st' := [.inl (.int (0 : Int32)), .inr (22, 1, 0, 570)]) rfl rfl rfl (Nat.le_of_ble_eq_true rfl) ⟨rfl, Or.inl (by decide)⟩ rfl (Nat.le_of_ble_eq_true rfl) (t_143 N a1 a2 P) (fun v2 P1 => ?_) ?_ ?_ ?_
  · refine tr_blk 2 (pc' := 10) (rows' := kb_28_0.drop 8) (loc' := [.inr (11, 0, 0, 0), .inl (.int a1), .inl (.int a2), .inr (22, 1, 0, 570), ab_top]) (st' := []) (P1 := (ab_pL P1 570 0 (v2).toInt64)) rfl ⟨trivial, (ab_vi (by decide)), trivial⟩ ?_
    refine tr_lt (fun P3 => ?_)
    refine tr_goto ?_
    refine tr_nil (rows2 := kb_28_17) rfl (List.cons_ne_nil _ _) ?_
    refine tr_blk 1 (pc' := 18) (rows' := kb_28_17.drop 1) (loc' := [.inr (11, 0, 0, 0), .inl (.int a1), .inl (.int a2), .inr (22, 1, 0, 570), ab_top]) (st' := [.inl (.int (0 : Int32))]) (P1 := P3) rfl ⟨trivial, trivial⟩ ?_
    exact tr_reI (z := km_28) rfl ⟨_, rfl, rfl⟩ rfl
  · exact fun _ => tr_han (rows2 := kb_28_13) (z := km_28) _ (fun q => [.inr (11, 0, 0, 0), .inl (.int a1), .inl (.int a2), .inr (22, 1, 0, 570), .inr (40, 0, 0, q)]) rfl (List.cons_ne_nil _ _) (fun q => rfl) ⟨trivial, trivial, trivial⟩ rfl ⟨_, rfl, rfl⟩ rfl
  · exact fun _ => rfl
  · exact fun _ => rfl
def f_29_42 : Nat → Int32 → Int32 → Int32 → Int32 → ab_P → Option (Int32 × ab_P)
  | 0, _, _, _, _, _ => none
  | n + 1, x1, x2, x3, x4, P =>
    if x4 < (P.1 477 360) then
      Option.bind (f_144_366 477 P x4) fun v6 =>
      if v6 = (0 : Int32) then
        f_29_42 n x1 x2 (x3 + (0 : Int32)) (x4 + 1) P
      else
      Option.bind (f_135_366 477 P x4 (0 : Int32)) fun v7 =>
      if v7 = x1 then
        Option.bind (f_135_366 477 P x4 (1 : Int32)) fun v8 =>
        if v8 = x2 then
          Option.bind (f_135_366 477 P x4 (2 : Int32)) fun v9 =>
          f_29_42 n x1 x2 (x3 + v9) (x4 + 1) P
        else
        f_29_42 n x1 x2 (x3 + (0 : Int32)) (x4 + 1) P
      else
      f_29_42 n x1 x2 (x3 + (0 : Int32)) (x4 + 1) P
    else
    some (x3, P)
theorem t_29_42 {xs : Nat × (Nat → Int32)} {d : Nat} : ∀ n : Nat, ∀ (x1 : Int32) (x2 : Int32) (x3 : Int32) (x4 : Int32) (P : ab_P), ab_tr xs wI (d + 2) 29 42 [] [.inr (12, 0, 0, 72), .inl (.int x1), .inl (.int x2), .inl (.int x3), .inl (.int x4)] [] P (f_29_42 n x1 x2 x3 x4 P) := by
  intro n
  induction n with
  | zero => intro x1 x2 x3 x4 P; exact tr_no
  | succ n ih =>
    intro x1 x2 x3 x4 P
    refine tr_nil (rows2 := kb_29_42) rfl (List.cons_ne_nil _ _) ?_
    refine tr_blk 5 (pc' := 52) (rows' := kb_29_42.drop 5) (loc' := [.inr (12, 0, 0, 72), .inl (.int x1), .inl (.int x2), .inl (.int x3), .inl (.int x4)]) (st' := [.inl (.int (P.1 477 360)), .inl (.int x4)]) (P1 := P) rfl ⟨trivial, trivial, trivial, trivial, (ab_vi (by decide)), trivial⟩ ?_
    refine tr_if (fun h10 => ?_) (fun h10 => ?_)
    · refine tr_icF (cd := .ge) (Int32.not_le.mpr h10) ?_
      refine tr_blk 4 (pc' := 62) (rows' := kb_29_42.drop 10) (loc' := [.inr (12, 0, 0, 72), .inl (.int x1), .inl (.int x2), .inl (.int x3), .inl (.int x4)]) (st' := [.inl (.int x4), .inr (20, 366, 0, 477), .inl (.int x3)]) (P1 := P) rfl ⟨trivial, trivial, trivial, trivial, trivial⟩ ?_
      refine tr_cRI (z := km_144) (av := [.inr (20, 366, 0, 477), .inl (.int x4)]) (st' := [.inl (.int x3)]) rfl rfl rfl (Nat.le_of_ble_eq_true rfl) trivial rfl (Nat.le_of_ble_eq_true rfl) (t_144_366 477 P x4) (fun v6 => ?_)
      refine tr_if (fun h11 => ?_) (fun h11 => ?_)
      · refine tr_ifT (cd := .eq) h11 ?_
        refine tr_nil (rows2 := kb_29_109) rfl (List.cons_ne_nil _ _) ?_
        refine tr_blk 1 (pc' := 110) (rows' := kb_29_109.drop 1) (loc' := [.inr (12, 0, 0, 72), .inl (.int x1), .inl (.int x2), .inl (.int x3), .inl (.int x4)]) (st' := [.inl (.int (0 : Int32)), .inl (.int x3)]) (P1 := P) rfl ⟨trivial, trivial⟩ ?_
        refine tr_nil (rows2 := kb_29_110) rfl (List.cons_ne_nil _ _) ?_
        refine tr_blk 3 (pc' := 115) (rows' := kb_29_110.drop 3) (loc' := [.inr (12, 0, 0, 72), .inl (.int x1), .inl (.int x2), .inl (.int (x3 + (0 : Int32))), .inl (.int (x4 + 1))]) (st' := []) (P1 := P) rfl ⟨trivial, trivial, trivial, trivial⟩ ?_
        refine tr_goto ?_
        exact ih x1 x2 (x3 + (0 : Int32)) (x4 + 1) P
      · refine tr_ifF (cd := .eq) h11 ?_
        refine tr_blk 4 (pc' := 75) (rows' := kb_29_42.drop 16) (loc' := [.inr (12, 0, 0, 72), .inl (.int x1), .inl (.int x2), .inl (.int x3), .inl (.int x4)]) (st' := [.inl (.int (0 : Int32)), .inl (.int x4), .inr (20, 366, 0, 477), .inl (.int x3)]) (P1 := P) rfl ⟨trivial, trivial, trivial, trivial, trivial⟩ ?_
        refine tr_cRI (z := km_135) (av := [.inr (20, 366, 0, 477), .inl (.int x4), .inl (.int (0 : Int32))]) (st' := [.inl (.int x3)]) rfl rfl rfl (Nat.le_of_ble_eq_true rfl) trivial rfl (Nat.le_of_ble_eq_true rfl) (t_135_366 477 P x4 (0 : Int32)) (fun v7 => ?_)
        refine tr_blk 1 (pc' := 79) (rows' := kb_29_42.drop 18) (loc' := [.inr (12, 0, 0, 72), .inl (.int x1), .inl (.int x2), .inl (.int x3), .inl (.int x4)]) (st' := [.inl (.int x1), .inl (.int v7), .inl (.int x3)]) (P1 := P) rfl ⟨trivial, trivial⟩ ?_
        refine tr_if (fun h12 => ?_) (fun h12 => ?_)
        · refine tr_icF (cd := .ne) (fun q => q h12) ?_
          refine tr_blk 4 (pc' := 89) (rows' := kb_29_42.drop 23) (loc' := [.inr (12, 0, 0, 72), .inl (.int x1), .inl (.int x2), .inl (.int x3), .inl (.int x4)]) (st' := [.inl (.int (1 : Int32)), .inl (.int x4), .inr (20, 366, 0, 477), .inl (.int x3)]) (P1 := P) rfl ⟨trivial, trivial, trivial, trivial, trivial⟩ ?_
          refine tr_cRI (z := km_135) (av := [.inr (20, 366, 0, 477), .inl (.int x4), .inl (.int (1 : Int32))]) (st' := [.inl (.int x3)]) rfl rfl rfl (Nat.le_of_ble_eq_true rfl) trivial rfl (Nat.le_of_ble_eq_true rfl) (t_135_366 477 P x4 (1 : Int32)) (fun v8 => ?_)
          refine tr_blk 1 (pc' := 93) (rows' := kb_29_42.drop 25) (loc' := [.inr (12, 0, 0, 72), .inl (.int x1), .inl (.int x2), .inl (.int x3), .inl (.int x4)]) (st' := [.inl (.int x2), .inl (.int v8), .inl (.int x3)]) (P1 := P) rfl ⟨trivial, trivial⟩ ?_
          refine tr_if (fun h13 => ?_) (fun h13 => ?_)
          · refine tr_icF (cd := .ne) (fun q => q h13) ?_
            refine tr_blk 4 (pc' := 103) (rows' := kb_29_42.drop 30) (loc' := [.inr (12, 0, 0, 72), .inl (.int x1), .inl (.int x2), .inl (.int x3), .inl (.int x4)]) (st' := [.inl (.int (2 : Int32)), .inl (.int x4), .inr (20, 366, 0, 477), .inl (.int x3)]) (P1 := P) rfl ⟨trivial, trivial, trivial, trivial, trivial⟩ ?_
            refine tr_cRI (z := km_135) (av := [.inr (20, 366, 0, 477), .inl (.int x4), .inl (.int (2 : Int32))]) (st' := [.inl (.int x3)]) rfl rfl rfl (Nat.le_of_ble_eq_true rfl) trivial rfl (Nat.le_of_ble_eq_true rfl) (t_135_366 477 P x4 (2 : Int32)) (fun v9 => ?_)
            refine tr_goto ?_
            refine tr_nil (rows2 := kb_29_110) rfl (List.cons_ne_nil _ _) ?_
            refine tr_blk 3 (pc' := 115) (rows' := kb_29_110.drop 3) (loc' := [.inr (12, 0, 0, 72), .inl (.int x1), .inl (.int x2), .inl (.int (x3 + v9)), .inl (.int (x4 + 1))]) (st' := []) (P1 := P) rfl ⟨trivial, trivial, trivial, trivial⟩ ?_
            refine tr_goto ?_
            exact ih x1 x2 (x3 + v9) (x4 + 1) P
          · refine tr_icT (cd := .ne) h13 ?_
            refine tr_nil (rows2 := kb_29_109) rfl (List.cons_ne_nil _ _) ?_
            refine tr_blk 1 (pc' := 110) (rows' := kb_29_109.drop 1) (loc' := [.inr (12, 0, 0, 72), .inl (.int x1), .inl (.int x2), .inl (.int x3), .inl (.int x4)]) (st' := [.inl (.int (0 : Int32)), .inl (.int x3)]) (P1 := P) rfl ⟨trivial, trivial⟩ ?_
            refine tr_nil (rows2 := kb_29_110) rfl (List.cons_ne_nil _ _) ?_
            refine tr_blk 3 (pc' := 115) (rows' := kb_29_110.drop 3) (loc' := [.inr (12, 0, 0, 72), .inl (.int x1), .inl (.int x2), .inl (.int (x3 + (0 : Int32))), .inl (.int (x4 + 1))]) (st' := []) (P1 := P) rfl ⟨trivial, trivial, trivial, trivial⟩ ?_
            refine tr_goto ?_
            exact ih x1 x2 (x3 + (0 : Int32)) (x4 + 1) P
        · refine tr_icT (cd := .ne) h12 ?_
          refine tr_nil (rows2 := kb_29_109) rfl (List.cons_ne_nil _ _) ?_
          refine tr_blk 1 (pc' := 110) (rows' := kb_29_109.drop 1) (loc' := [.inr (12, 0, 0, 72), .inl (.int x1), .inl (.int x2), .inl (.int x3), .inl (.int x4)]) (st' := [.inl (.int (0 : Int32)), .inl (.int x3)]) (P1 := P) rfl ⟨trivial, trivial⟩ ?_
          refine tr_nil (rows2 := kb_29_110) rfl (List.cons_ne_nil _ _) ?_
          refine tr_blk 3 (pc' := 115) (rows' := kb_29_110.drop 3) (loc' := [.inr (12, 0, 0, 72), .inl (.int x1), .inl (.int x2), .inl (.int (x3 + (0 : Int32))), .inl (.int (x4 + 1))]) (st' := []) (P1 := P) rfl ⟨trivial, trivial, trivial, trivial⟩ ?_
          refine tr_goto ?_
          exact ih x1 x2 (x3 + (0 : Int32)) (x4 + 1) P
    · refine tr_icT (cd := .ge) (Int32.not_lt.mp h10) ?_
      refine tr_nil (rows2 := kb_29_118) rfl (List.cons_ne_nil _ _) ?_
      refine tr_blk 1 (pc' := 119) (rows' := kb_29_118.drop 1) (loc' := [.inr (12, 0, 0, 72), .inl (.int x1), .inl (.int x2), .inl (.int x3), .inl (.int x4)]) (st' := [.inl (.int x3)]) (P1 := P) rfl ⟨trivial, trivial⟩ ?_
      exact tr_reI (z := km_29) rfl ⟨_, rfl, rfl⟩ rfl
def f_29_27 (N : Nat) (x1 : Int32) (x2 : Int32) (s0 : Int32) (P : ab_P) : Option (Int32 × ab_P) :=
    ab_b2 (f_113 s0 (1 : Int32) (0 : Int32) P) fun v5 P4 =>
    if v5 = (0 : Int32) then
      f_29_42 N x1 x2 (0 : Int32) (0 : Int32) P4
    else
    some ((0 : Int32), P4)
theorem t_29_27 {xs : Nat × (Nat → Int32)} {d : Nat} (N : Nat) : ∀ (x1 : Int32) (x2 : Int32) (s0 : Int32) (P : ab_P), ab_tr xs wI (d + 2) 29 27 [] [.inr (12, 0, 0, 72), .inl (.int x1), .inl (.int x2), ab_top, ab_top] [.inl (.int s0), .inr (12, 0, 0, 72)] P (f_29_27 N x1 x2 s0 P) := by
  intro x1 x2 s0 P
  unfold f_29_27
  refine tr_nil (rows2 := kb_29_27) rfl (List.cons_ne_nil _ _) ?_
  refine tr_blk 2 (pc' := 29) (rows' := kb_29_27.drop 2) (loc' := [.inr (12, 0, 0, 72), .inl (.int x1), .inl (.int x2), ab_top, ab_top]) (st' := [.inl (.int (0 : Int32)), .inl (.int (1 : Int32)), .inl (.int s0), .inr (12, 0, 0, 72)]) (P1 := P) rfl ⟨trivial, trivial, trivial⟩ ?_
  refine tr_cWI (z := km_113) (av := [.inr (12, 0, 0, 72), .inl (.int s0), .inl (.int (1 : Int32)), .inl (.int (0 : Int32))]) (st' := []) rfl rfl rfl (Nat.le_of_ble_eq_true rfl) ⟨rfl, Or.inl (by decide)⟩ rfl (Nat.le_of_ble_eq_true rfl) (t_113 s0 (1 : Int32) (0 : Int32) P) (fun v5 P4 => ?_)
  refine tr_if (fun h14 => ?_) (fun h14 => ?_)
  · refine tr_ifT (cd := .eq) h14 ?_
    refine tr_nil (rows2 := kb_29_37) rfl (List.cons_ne_nil _ _) ?_
    refine tr_blk 4 (pc' := 42) (rows' := kb_29_37.drop 4) (loc' := [.inr (12, 0, 0, 72), .inl (.int x1), .inl (.int x2), .inl (.int (0 : Int32)), .inl (.int (0 : Int32))]) (st' := []) (P1 := P4) rfl ⟨trivial, trivial, trivial, trivial, trivial⟩ ?_
    exact t_29_42 N x1 x2 (0 : Int32) (0 : Int32) P4
  · refine tr_ifF (cd := .eq) h14 ?_
    refine tr_blk 1 (pc' := 36) (rows' := kb_29_27.drop 5) (loc' := [.inr (12, 0, 0, 72), .inl (.int x1), .inl (.int x2), ab_top, ab_top]) (st' := [.inl (.int (0 : Int32))]) (P1 := P4) rfl ⟨trivial, trivial⟩ ?_
    exact tr_reI (z := km_29) rfl ⟨_, rfl, rfl⟩ rfl
def f_29 (N : Nat) (a1 : Int32) (a2 : Int32) (P : ab_P) : Option (Int32 × ab_P) :=
    ab_lt (ab_pI P 72 0 (0 : Int32)) fun P1 =>
    Option.bind (f_137 P1 a1) fun v2 =>
    if v2 = (0 : Int32) then
      f_29_27 N a1 a2 (1 : Int32) P1
    else
    Option.bind (f_137 P1 a2) fun v3 =>
    if v3 = (0 : Int32) then
      f_29_27 N a1 a2 (1 : Int32) P1
    else
    f_29_27 N a1 a2 (0 : Int32) P1
theorem t_29 {xs : Nat × (Nat → Int32)} {d : Nat} (N : Nat) : ∀ (a1 : Int32) (a2 : Int32) (P : ab_P), ab_tr xs wI (d + 2) 29 0 [] [.inr (12, 0, 0, 72), .inl (.int a1), .inl (.int a2), ab_top, ab_top] [] P (f_29 N a1 a2 P) := by
  intro a1 a2 P
  unfold f_29
  refine tr_nil (rows2 := kb_29_0) rfl (List.cons_ne_nil _ _) ?_
  refine tr_blk 3 (pc' := 5) (rows' := kb_29_0.drop 3) (loc' := [.inr (12, 0, 0, 72), .inl (.int a1), .inl (.int a2), ab_top, ab_top]) (st' := []) (P1 := (ab_pI P 72 0 (0 : Int32))) rfl ⟨trivial, trivial, trivial, trivial⟩ ?_
  refine tr_lt (fun P1 => ?_)
  refine tr_blk 3 (pc' := 8) (rows' := kb_29_0.drop 6) (loc' := [.inr (12, 0, 0, 72), .inl (.int a1), .inl (.int a2), ab_top, ab_top]) (st' := [.inl (.int a1), .inr (12, 0, 0, 72), .inr (12, 0, 0, 72)]) (P1 := P1) rfl ⟨trivial, trivial, trivial, trivial⟩ ?_
  refine tr_cRI (z := km_137) (av := [.inr (12, 0, 0, 72), .inl (.int a1)]) (st' := [.inr (12, 0, 0, 72)]) rfl rfl rfl (Nat.le_of_ble_eq_true rfl) ⟨rfl, Or.inl (by decide)⟩ rfl (Nat.le_of_ble_eq_true rfl) (t_137 P1 a1) (fun v2 => ?_)
  refine tr_if (fun h15 => ?_) (fun h15 => ?_)
  · refine tr_ifT (cd := .eq) h15 ?_
    refine tr_nil (rows2 := kb_29_22) rfl (List.cons_ne_nil _ _) ?_
    refine tr_blk 1 (pc' := 23) (rows' := kb_29_22.drop 1) (loc' := [.inr (12, 0, 0, 72), .inl (.int a1), .inl (.int a2), ab_top, ab_top]) (st' := [.inl (.int (1 : Int32)), .inr (12, 0, 0, 72)]) (P1 := P1) rfl ⟨trivial, trivial⟩ ?_
    refine tr_goto ?_
    exact t_29_27 N a1 a2 (1 : Int32) P1
  · refine tr_ifF (cd := .eq) h15 ?_
    refine tr_blk 2 (pc' := 16) (rows' := kb_29_0.drop 10) (loc' := [.inr (12, 0, 0, 72), .inl (.int a1), .inl (.int a2), ab_top, ab_top]) (st' := [.inl (.int a2), .inr (12, 0, 0, 72), .inr (12, 0, 0, 72)]) (P1 := P1) rfl ⟨trivial, trivial, trivial⟩ ?_
    refine tr_cRI (z := km_137) (av := [.inr (12, 0, 0, 72), .inl (.int a2)]) (st' := [.inr (12, 0, 0, 72)]) rfl rfl rfl (Nat.le_of_ble_eq_true rfl) ⟨rfl, Or.inl (by decide)⟩ rfl (Nat.le_of_ble_eq_true rfl) (t_137 P1 a2) (fun v3 => ?_)
    refine tr_if (fun h16 => ?_) (fun h16 => ?_)
    · refine tr_ifF (cd := .ne) (fun q => q h16) ?_
      refine tr_nil (rows2 := kb_29_22) rfl (List.cons_ne_nil _ _) ?_
      refine tr_blk 1 (pc' := 23) (rows' := kb_29_22.drop 1) (loc' := [.inr (12, 0, 0, 72), .inl (.int a1), .inl (.int a2), ab_top, ab_top]) (st' := [.inl (.int (1 : Int32)), .inr (12, 0, 0, 72)]) (P1 := P1) rfl ⟨trivial, trivial⟩ ?_
      refine tr_goto ?_
      exact t_29_27 N a1 a2 (1 : Int32) P1
    · refine tr_ifT (cd := .ne) h16 ?_
      refine tr_nil (rows2 := kb_29_26) rfl (List.cons_ne_nil _ _) ?_
      refine tr_blk 1 (pc' := 27) (rows' := kb_29_26.drop 1) (loc' := [.inr (12, 0, 0, 72), .inl (.int a1), .inl (.int a2), ab_top, ab_top]) (st' := [.inl (.int (0 : Int32)), .inr (12, 0, 0, 72)]) (P1 := P1) rfl ⟨trivial, trivial⟩ ?_
      exact t_29_27 N a1 a2 (0 : Int32) P1
def f_145 (N : Nat) (a1 : Int32) (P : ab_P) : Option ((Int32 ⊕ Fin 3) × ab_P) :=
    ab_x2 (f_230 a1 P) (fun _ P1 =>
    ab_b2 (f_239 N a1 P1) fun v3 P2 =>
    some (.inl v3, P2)) (fun q => q)
theorem t_145 {xs : Nat × (Nat → Int32)} {d : Nat} (N : Nat) : ∀ (a1 : Int32) (P : ab_P), ab_tr xs xI (d + 4) 145 0 [] [.inr (11, 0, 0, 0), .inl (.int a1)] [] P (f_145 N a1 P) := by
  intro a1 P
  unfold f_145
  refine tr_nil (rows2 := kb_145_0) rfl (List.cons_ne_nil _ _) ?_
  refine tr_blk 2 (pc' := 2) (rows' := kb_145_0.drop 2) (loc' := [.inr (11, 0, 0, 0), .inl (.int a1)]) (st' := [.inl (.int a1), .inr (11, 0, 0, 0)]) (P1 := P) rfl ⟨trivial, trivial, trivial⟩ ?_
  refine tr_cax (fun _ => none) (zi := km_145) (fun _ => rfl) (fun _ _ => rfl) rfl rfl (z := km_230) (av := [.inr (11, 0, 0, 0), .inl (.int a1)]) (st' := []) rfl rfl rfl (Nat.le_of_ble_eq_true rfl) ⟨rfl, Or.inl (by decide)⟩ rfl (Nat.le_of_ble_eq_true rfl) (t_230 a1 P) (fun _ P1 => ?_)
  refine tr_blk 3 (pc' := 10) (rows' := kb_145_0.drop 6) (loc' := [.inr (11, 0, 0, 0), .inl (.int a1)]) (st' := [.inl (.int a1), .inr (4, 0, 0, 46)]) (P1 := P1) rfl ⟨trivial, trivial, trivial, trivial⟩ ?_
  refine tr_cWI (z := km_239) (av := [.inr (4, 0, 0, 46), .inl (.int a1)]) (st' := []) rfl rfl rfl (Nat.le_of_ble_eq_true rfl) ⟨rfl, Or.inl (by decide)⟩ rfl (Nat.le_of_ble_eq_true rfl) (t_239 N a1 P1) (fun v3 P2 => ?_)
  exact tr_reI (z := km_145) rfl ⟨_, rfl, rfl⟩ rfl
def f_30_1 (N : Nat) (a1 : Int32) (P : ab_P) : Option (Int32 × ab_P) :=
    ab_h2 (f_145 N a1 P) (fun v2 P1 =>
    ab_lt (ab_pL P1 570 0 (v2).toInt64) fun P3 =>
    some ((0 : Int32), P3))
    (fun P9 => some ((1 : Int32), P9)) (fun _ => none) (fun _ => none)
theorem t_30_1 {xs : Nat × (Nat → Int32)} {d : Nat} (N : Nat) : ∀ (a1 : Int32) (P : ab_P), ab_tr xs wI (d + 5) 30 0 [] [.inr (11, 0, 0, 0), .inl (.int a1), .inr (22, 1, 0, 570), ab_top] [] P (f_30_1 N a1 P) := by
  intro a1 P
  unfold f_30_1
  refine tr_nil (rows2 := kb_30_0) rfl (List.cons_ne_nil _ _) ?_
  refine tr_blk 4 (pc' := 4) (rows' := kb_30_0.drop 4) (loc' := [.inr (11, 0, 0, 0), .inl (.int a1), .inr (22, 1, 0, 570), ab_top]) (st' := [.inl (.int a1), .inr (11, 0, 0, 0), .inl (.int (0 : Int32)), .inr (22, 1, 0, 570)]) (P1 := P) rfl ⟨trivial, trivial, trivial, trivial, trivial⟩ ?_
  refine tr_cah (fun b => some (.inl (.int b))) (zi := km_30) (fun _ => rfl) rfl (z := km_145) (av := [.inr (11, 0, 0, 0), .inl (.int a1)]) (st' := [.inl (.int (0 : Int32)), .inr (22, 1, 0, 570)]) rfl rfl rfl (Nat.le_of_ble_eq_true rfl) ⟨rfl, Or.inl (by decide)⟩ rfl (Nat.le_of_ble_eq_true rfl) (t_145 N a1 P) (fun v2 P1 => ?_) ?_ ?_ ?_
  · refine tr_blk 2 (pc' := 9) (rows' := kb_30_0.drop 7) (loc' := [.inr (11, 0, 0, 0), .inl (.int a1), .inr (22, 1, 0, 570), ab_top]) (st' := []) (P1 := (ab_pL P1 570 0 (v2).toInt64)) rfl ⟨trivial, (ab_vi (by decide)), trivial⟩ ?_
    refine tr_lt (fun P3 => ?_)
    refine tr_goto ?_
    refine tr_nil (rows2 := kb_30_15) rfl (List.cons_ne_nil _ _) ?_
    refine tr_blk 1 (pc' := 16) (rows' := kb_30_15.drop 1) (loc' := [.inr (11, 0, 0, 0), .inl (.int a1), .inr (22, 1, 0, 570), ab_top]) (st' := [.inl (.int (0 : Int32))]) (P1 := P3) rfl ⟨trivial, trivial⟩ ?_
    exact tr_reI (z := km_30) rfl ⟨_, rfl, rfl⟩ rfl
  · exact fun _ => tr_han (rows2 := kb_30_12) (z := km_30) _ (fun q => [.inr (11, 0, 0, 0), .inl (.int a1), .inr (22, 1, 0, 570), .inr (40, 0, 0, q)]) rfl (List.cons_ne_nil _ _) (fun q => rfl) ⟨trivial, trivial, trivial⟩ rfl ⟨_, rfl, rfl⟩ rfl
  · exact fun _ => rfl
  · exact fun _ => rfl
def f_31_19 (N : Nat) (x1 : Int32) (s0 : Int32) (P : ab_P) : Option (Int32 × ab_P) :=
    ab_b2 (f_113 s0 (1 : Int32) (0 : Int32) P) fun v4 P3 =>
    if v4 = (0 : Int32) then
      ab_b2 (f_146_366 477 N x1 P3) fun v6 P5 =>
      some (v6, P5)
    else
    some ((0 : Int32), P3)
theorem t_31_19 {xs : Nat × (Nat → Int32)} {d : Nat} (N : Nat) : ∀ (x1 : Int32) (s0 : Int32) (P : ab_P), ab_tr xs wI (d + 6) 31 19 [] [.inr (12, 0, 0, 72), .inl (.int x1)] [.inl (.int s0), .inr (12, 0, 0, 72)] P (f_31_19 N x1 s0 P) := by
  intro x1 s0 P
  unfold f_31_19
  refine tr_nil (rows2 := kb_31_19) rfl (List.cons_ne_nil _ _) ?_
  refine tr_blk 2 (pc' := 21) (rows' := kb_31_19.drop 2) (loc' := [.inr (12, 0, 0, 72), .inl (.int x1)]) (st' := [.inl (.int (0 : Int32)), .inl (.int (1 : Int32)), .inl (.int s0), .inr (12, 0, 0, 72)]) (P1 := P) rfl ⟨trivial, trivial, trivial⟩ ?_
  refine tr_cWI (z := km_113) (av := [.inr (12, 0, 0, 72), .inl (.int s0), .inl (.int (1 : Int32)), .inl (.int (0 : Int32))]) (st' := []) rfl rfl rfl (Nat.le_of_ble_eq_true rfl) ⟨rfl, Or.inl (by decide)⟩ rfl (Nat.le_of_ble_eq_true rfl) (t_113 s0 (1 : Int32) (0 : Int32) P) (fun v4 P3 => ?_)
  refine tr_if (fun h7 => ?_) (fun h7 => ?_)
  · refine tr_ifT (cd := .eq) h7 ?_
    refine tr_nil (rows2 := kb_31_29) rfl (List.cons_ne_nil _ _) ?_
    refine tr_blk 4 (pc' := 35) (rows' := kb_31_29.drop 4) (loc' := [.inr (12, 0, 0, 72), .inl (.int x1)]) (st' := [.inl (.int x1), .inr (20, 366, 0, 477), .inr (12, 0, 0, 72)]) (P1 := P3) rfl ⟨trivial, trivial, trivial, trivial, trivial⟩ ?_
    refine tr_cWI (z := km_146) (av := [.inr (12, 0, 0, 72), .inr (20, 366, 0, 477), .inl (.int x1)]) (st' := []) rfl rfl rfl (Nat.le_of_ble_eq_true rfl) ⟨rfl, Or.inl (by decide)⟩ rfl (Nat.le_of_ble_eq_true rfl) (t_146_366 477 N x1 P3) (fun v6 P5 => ?_)
    exact tr_reI (z := km_31) rfl ⟨_, rfl, rfl⟩ rfl
  · refine tr_ifF (cd := .eq) h7 ?_
    refine tr_blk 1 (pc' := 28) (rows' := kb_31_19.drop 5) (loc' := [.inr (12, 0, 0, 72), .inl (.int x1)]) (st' := [.inl (.int (0 : Int32))]) (P1 := P3) rfl ⟨trivial, trivial⟩ ?_
    exact tr_reI (z := km_31) rfl ⟨_, rfl, rfl⟩ rfl
def f_31 (N : Nat) (a1 : Int32) (P : ab_P) : Option (Int32 × ab_P) :=
    ab_lt (ab_pI P 72 0 (0 : Int32)) fun P1 =>
    Option.bind (f_134 P1 a1) fun v2 =>
    if v2 = (0 : Int32) then
      f_31_19 N a1 (1 : Int32) P1
    else
    f_31_19 N a1 (0 : Int32) P1
theorem t_31 {xs : Nat × (Nat → Int32)} {d : Nat} (N : Nat) : ∀ (a1 : Int32) (P : ab_P), ab_tr xs wI (d + 6) 31 0 [] [.inr (12, 0, 0, 72), .inl (.int a1)] [] P (f_31 N a1 P) := by
  intro a1 P
  unfold f_31
  refine tr_nil (rows2 := kb_31_0) rfl (List.cons_ne_nil _ _) ?_
  refine tr_blk 3 (pc' := 5) (rows' := kb_31_0.drop 3) (loc' := [.inr (12, 0, 0, 72), .inl (.int a1)]) (st' := []) (P1 := (ab_pI P 72 0 (0 : Int32))) rfl ⟨trivial, trivial, trivial, trivial⟩ ?_
  refine tr_lt (fun P1 => ?_)
  refine tr_blk 3 (pc' := 8) (rows' := kb_31_0.drop 6) (loc' := [.inr (12, 0, 0, 72), .inl (.int a1)]) (st' := [.inl (.int a1), .inr (12, 0, 0, 72), .inr (12, 0, 0, 72)]) (P1 := P1) rfl ⟨trivial, trivial, trivial, trivial⟩ ?_
  refine tr_cRI (z := km_134) (av := [.inr (12, 0, 0, 72), .inl (.int a1)]) (st' := [.inr (12, 0, 0, 72)]) rfl rfl rfl (Nat.le_of_ble_eq_true rfl) ⟨rfl, Or.inl (by decide)⟩ rfl (Nat.le_of_ble_eq_true rfl) (t_134 P1 a1) (fun v2 => ?_)
  refine tr_if (fun h8 => ?_) (fun h8 => ?_)
  · refine tr_ifF (cd := .ne) (fun q => q h8) ?_
    refine tr_blk 1 (pc' := 15) (rows' := kb_31_0.drop 9) (loc' := [.inr (12, 0, 0, 72), .inl (.int a1)]) (st' := [.inl (.int (1 : Int32)), .inr (12, 0, 0, 72)]) (P1 := P1) rfl ⟨trivial, trivial⟩ ?_
    refine tr_goto ?_
    exact t_31_19 N a1 (1 : Int32) P1
  · refine tr_ifT (cd := .ne) h8 ?_
    refine tr_nil (rows2 := kb_31_18) rfl (List.cons_ne_nil _ _) ?_
    refine tr_blk 1 (pc' := 19) (rows' := kb_31_18.drop 1) (loc' := [.inr (12, 0, 0, 72), .inl (.int a1)]) (st' := [.inl (.int (0 : Int32)), .inr (12, 0, 0, 72)]) (P1 := P1) rfl ⟨trivial, trivial⟩ ?_
    exact t_31_19 N a1 (0 : Int32) P1
def f_240 (P : ab_P) (a0 : Int32) (a1 : Int32) (a2 : Int32) : Option Int32 :=
    if a0 < a1 then
      some (0 : Int32)
    else
    if a2 < a0 then
      some (0 : Int32)
    else
    some (1 : Int32)
theorem t_240 {xs : Nat × (Nat → Int32)} {d : Nat} (P : ab_P) : ∀ (a0 : Int32) (a1 : Int32) (a2 : Int32), ab_tr xs (rI P) (d + 0) 240 0 [] [.inl (.int a0), .inl (.int a1), .inl (.int a2)] [] P (f_240 P a0 a1 a2) := by
  intro a0 a1 a2
  unfold f_240
  refine tr_nil (rows2 := kb_240_0) rfl (List.cons_ne_nil _ _) ?_
  refine tr_blk 2 (pc' := 2) (rows' := kb_240_0.drop 2) (loc' := [.inl (.int a0), .inl (.int a1), .inl (.int a2)]) (st' := [.inl (.int a1), .inl (.int a0)]) (P1 := P) rfl ⟨trivial, trivial, trivial⟩ ?_
  refine tr_if (fun h1 => ?_) (fun h1 => ?_)
  · refine tr_icT (cd := .lt) h1 ?_
    refine tr_nil (rows2 := kb_240_14) rfl (List.cons_ne_nil _ _) ?_
    refine tr_blk 1 (pc' := 15) (rows' := kb_240_14.drop 1) (loc' := [.inl (.int a0), .inl (.int a1), .inl (.int a2)]) (st' := [.inl (.int (0 : Int32))]) (P1 := P) rfl ⟨trivial, trivial⟩ ?_
    refine tr_nil (rows2 := kb_240_15) rfl (List.cons_ne_nil _ _) ?_
    exact tr_reI (z := km_240) rfl ⟨_, rfl, rfl⟩ rfl
  · refine tr_icF (cd := .lt) h1 ?_
    refine tr_blk 2 (pc' := 7) (rows' := kb_240_0.drop 5) (loc' := [.inl (.int a0), .inl (.int a1), .inl (.int a2)]) (st' := [.inl (.int a2), .inl (.int a0)]) (P1 := P) rfl ⟨trivial, trivial, trivial⟩ ?_
    refine tr_if (fun h2 => ?_) (fun h2 => ?_)
    · refine tr_icT (cd := .gt) h2 ?_
      refine tr_nil (rows2 := kb_240_14) rfl (List.cons_ne_nil _ _) ?_
      refine tr_blk 1 (pc' := 15) (rows' := kb_240_14.drop 1) (loc' := [.inl (.int a0), .inl (.int a1), .inl (.int a2)]) (st' := [.inl (.int (0 : Int32))]) (P1 := P) rfl ⟨trivial, trivial⟩ ?_
      refine tr_nil (rows2 := kb_240_15) rfl (List.cons_ne_nil _ _) ?_
      exact tr_reI (z := km_240) rfl ⟨_, rfl, rfl⟩ rfl
    · refine tr_icF (cd := .gt) h2 ?_
      refine tr_blk 1 (pc' := 11) (rows' := kb_240_0.drop 7) (loc' := [.inl (.int a0), .inl (.int a1), .inl (.int a2)]) (st' := [.inl (.int (1 : Int32))]) (P1 := P) rfl ⟨trivial, trivial⟩ ?_
      refine tr_goto ?_
      refine tr_nil (rows2 := kb_240_15) rfl (List.cons_ne_nil _ _) ?_
      exact tr_reI (z := km_240) rfl ⟨_, rfl, rfl⟩ rfl
def f_241 (N : Nat) (a1 : Int32) (a2 : Int32) (a3 : Int32) (a4 : Int32) (a5 : Int32) (P : ab_P) : Option (Int32 × ab_P) :=
    ab_lt (ab_pI P 47 0 a1) fun P1 =>
    ab_lt (ab_pI P1 47 1 a2) fun P2 =>
    ab_lt (ab_pI P2 47 2 a3) fun P3 =>
    ab_lt (ab_pI P3 47 3 a4) fun P4 =>
    ab_lt (ab_pI P4 47 4 (0 : Int32)) fun P5 =>
    ab_lt (ab_pI P5 47 5 a5) fun P6 =>
    ab_lt (ab_pI P6 47 6 (0 : Int32)) fun P7 =>
    ab_lt (ab_pI P7 47 7 (0 : Int32)) fun P8 =>
    ab_b2 (f_297_8 15 47 N P8) fun v10 P9 =>
    some (v10, P9)
theorem t_241 {xs : Nat × (Nat → Int32)} {d : Nat} (N : Nat) : ∀ (a1 : Int32) (a2 : Int32) (a3 : Int32) (a4 : Int32) (a5 : Int32) (P : ab_P), ab_tr xs wI (d + 2) 241 0 [] [.inr (4, 0, 0, 46), .inl (.int a1), .inl (.int a2), .inl (.int a3), .inl (.int a4), .inl (.int a5)] [] P (f_241 N a1 a2 a3 a4 a5 P) := by
  intro a1 a2 a3 a4 a5 P
  unfold f_241
  refine tr_nil (rows2 := kb_241_0) rfl (List.cons_ne_nil _ _) ?_
  refine tr_blk 5 (pc' := 7) (rows' := kb_241_0.drop 5) (loc' := [.inr (4, 0, 0, 46), .inl (.int a1), .inl (.int a2), .inl (.int a3), .inl (.int a4), .inl (.int a5)]) (st' := []) (P1 := (ab_pI P 47 0 a1)) rfl ⟨trivial, trivial, trivial, trivial, (ab_vi (by decide)), trivial⟩ ?_
  refine tr_lt (fun P1 => ?_)
  refine tr_blk 5 (pc' := 14) (rows' := kb_241_0.drop 10) (loc' := [.inr (4, 0, 0, 46), .inl (.int a1), .inl (.int a2), .inl (.int a3), .inl (.int a4), .inl (.int a5)]) (st' := []) (P1 := (ab_pI P1 47 1 a2)) rfl ⟨trivial, trivial, trivial, trivial, (ab_vi (by decide)), trivial⟩ ?_
  refine tr_lt (fun P2 => ?_)
  refine tr_blk 5 (pc' := 21) (rows' := kb_241_0.drop 15) (loc' := [.inr (4, 0, 0, 46), .inl (.int a1), .inl (.int a2), .inl (.int a3), .inl (.int a4), .inl (.int a5)]) (st' := []) (P1 := (ab_pI P2 47 2 a3)) rfl ⟨trivial, trivial, trivial, trivial, (ab_vi (by decide)), trivial⟩ ?_
  refine tr_lt (fun P3 => ?_)
  refine tr_blk 5 (pc' := 29) (rows' := kb_241_0.drop 20) (loc' := [.inr (4, 0, 0, 46), .inl (.int a1), .inl (.int a2), .inl (.int a3), .inl (.int a4), .inl (.int a5)]) (st' := []) (P1 := (ab_pI P3 47 3 a4)) rfl ⟨trivial, trivial, trivial, trivial, (ab_vi (by decide)), trivial⟩ ?_
  refine tr_lt (fun P4 => ?_)
  refine tr_blk 5 (pc' := 36) (rows' := kb_241_0.drop 25) (loc' := [.inr (4, 0, 0, 46), .inl (.int a1), .inl (.int a2), .inl (.int a3), .inl (.int a4), .inl (.int a5)]) (st' := []) (P1 := (ab_pI P4 47 4 (0 : Int32))) rfl ⟨trivial, trivial, trivial, trivial, (ab_vi (by decide)), trivial⟩ ?_
  refine tr_lt (fun P5 => ?_)
  refine tr_blk 5 (pc' := 44) (rows' := kb_241_0.drop 30) (loc' := [.inr (4, 0, 0, 46), .inl (.int a1), .inl (.int a2), .inl (.int a3), .inl (.int a4), .inl (.int a5)]) (st' := []) (P1 := (ab_pI P5 47 5 a5)) rfl ⟨trivial, trivial, trivial, trivial, (ab_vi (by decide)), trivial⟩ ?_
  refine tr_lt (fun P6 => ?_)
  refine tr_blk 5 (pc' := 52) (rows' := kb_241_0.drop 35) (loc' := [.inr (4, 0, 0, 46), .inl (.int a1), .inl (.int a2), .inl (.int a3), .inl (.int a4), .inl (.int a5)]) (st' := []) (P1 := (ab_pI P6 47 6 (0 : Int32))) rfl ⟨trivial, trivial, trivial, trivial, (ab_vi (by decide)), trivial⟩ ?_
  refine tr_lt (fun P7 => ?_)
  refine tr_blk 5 (pc' := 60) (rows' := kb_241_0.drop 40) (loc' := [.inr (4, 0, 0, 46), .inl (.int a1), .inl (.int a2), .inl (.int a3), .inl (.int a4), .inl (.int a5)]) (st' := []) (P1 := (ab_pI P7 47 7 (0 : Int32))) rfl ⟨trivial, trivial, trivial, trivial, (ab_vi (by decide)), trivial⟩ ?_
  refine tr_lt (fun P8 => ?_)
  refine tr_blk 4 (pc' := 68) (rows' := kb_241_0.drop 44) (loc' := [.inr (4, 0, 0, 46), .inl (.int a1), .inl (.int a2), .inl (.int a3), .inl (.int a4), .inl (.int a5)]) (st' := [.inr (20, 8, 0, 47), .inr (5, 0, 0, 15)]) (P1 := P8) rfl ⟨trivial, trivial, trivial, trivial, trivial⟩ ?_
  refine tr_cWI (z := km_297) (av := [.inr (5, 0, 0, 15), .inr (20, 8, 0, 47)]) (st' := []) rfl rfl rfl (Nat.le_of_ble_eq_true rfl) ⟨rfl, Or.inl (by decide)⟩ rfl (Nat.le_of_ble_eq_true rfl) (t_297_8 15 47 N P8) (fun v10 P9 => ?_)
  exact tr_reI (z := km_241) rfl ⟨_, rfl, rfl⟩ rfl
def f_147_61 (N : Nat) (x1 : Int32) (x2 : Int32) (x3 : Int32) (x4 : Int32) (x5 : Int32) (s0 : Int32) (P : ab_P) : Option ((Int32 ⊕ Fin 3) × ab_P) :=
    ab_x2 (f_228 s0 P) (fun _ P6 =>
    ab_b2 (f_241 N x1 x2 x3 x4 x5 P6) fun v8 P7 =>
    some (.inl v8, P7)) (fun q => q)
theorem t_147_61 {xs : Nat × (Nat → Int32)} {d : Nat} (N : Nat) : ∀ (x1 : Int32) (x2 : Int32) (x3 : Int32) (x4 : Int32) (x5 : Int32) (s0 : Int32) (P : ab_P), ab_tr xs xI (d + 3) 147 61 [] [.inr (11, 0, 0, 0), .inl (.int x1), .inl (.int x2), .inl (.int x3), .inl (.int x4), .inl (.int x5)] [.inl (.int s0), .inr (11, 0, 0, 0)] P (f_147_61 N x1 x2 x3 x4 x5 s0 P) := by
  intro x1 x2 x3 x4 x5 s0 P
  unfold f_147_61
  refine tr_nil (rows2 := kb_147_61) rfl (List.cons_ne_nil _ _) ?_
  refine tr_cax (fun _ => none) (zi := km_147) (fun _ => rfl) (fun _ _ => rfl) rfl rfl (z := km_228) (av := [.inr (11, 0, 0, 0), .inl (.int s0)]) (st' := []) rfl rfl rfl (Nat.le_of_ble_eq_true rfl) ⟨rfl, Or.inl (by decide)⟩ rfl (Nat.le_of_ble_eq_true rfl) (t_228 s0 P) (fun _ P6 => ?_)
  refine tr_blk 7 (pc' := 75) (rows' := kb_147_61.drop 8) (loc' := [.inr (11, 0, 0, 0), .inl (.int x1), .inl (.int x2), .inl (.int x3), .inl (.int x4), .inl (.int x5)]) (st' := [.inl (.int x5), .inl (.int x4), .inl (.int x3), .inl (.int x2), .inl (.int x1), .inr (4, 0, 0, 46)]) (P1 := P6) rfl ⟨trivial, trivial, trivial, trivial, trivial, trivial, trivial, trivial⟩ ?_
  refine tr_cWI (z := km_241) (av := [.inr (4, 0, 0, 46), .inl (.int x1), .inl (.int x2), .inl (.int x3), .inl (.int x4), .inl (.int x5)]) (st' := []) rfl rfl rfl (Nat.le_of_ble_eq_true rfl) ⟨rfl, Or.inl (by decide)⟩ rfl (Nat.le_of_ble_eq_true rfl) (t_241 N x1 x2 x3 x4 x5 P6) (fun v8 P7 => ?_)
  exact tr_reI (z := km_147) rfl ⟨_, rfl, rfl⟩ rfl
def f_147 (N : Nat) (a1 : Int32) (a2 : Int32) (a3 : Int32) (a4 : Int32) (a5 : Int32) (P : ab_P) : Option ((Int32 ⊕ Fin 3) × ab_P) :=
    Option.bind (f_240 P a1 (0 : Int32) (9999 : Int32)) fun v1 =>
    if v1 = (0 : Int32) then
      f_147_61 N a1 a2 a3 a4 a5 (0 : Int32) P
    else
    Option.bind (f_240 P a2 (0 : Int32) (999 : Int32)) fun v2 =>
    if v2 = (0 : Int32) then
      f_147_61 N a1 a2 a3 a4 a5 (0 : Int32) P
    else
    Option.bind (f_240 P a3 (0 : Int32) (9 : Int32)) fun v3 =>
    if v3 = (0 : Int32) then
      f_147_61 N a1 a2 a3 a4 a5 (0 : Int32) P
    else
    Option.bind (f_240 P a4 (0 : Int32) (9 : Int32)) fun v4 =>
    if v4 = (0 : Int32) then
      f_147_61 N a1 a2 a3 a4 a5 (0 : Int32) P
    else
    Option.bind (f_240 P a5 (0 : Int32) (999 : Int32)) fun v5 =>
    if v5 = (0 : Int32) then
      f_147_61 N a1 a2 a3 a4 a5 (0 : Int32) P
    else
    f_147_61 N a1 a2 a3 a4 a5 (1 : Int32) P
theorem t_147 {xs : Nat × (Nat → Int32)} {d : Nat} (N : Nat) : ∀ (a1 : Int32) (a2 : Int32) (a3 : Int32) (a4 : Int32) (a5 : Int32) (P : ab_P), ab_tr xs xI (d + 3) 147 0 [] [.inr (11, 0, 0, 0), .inl (.int a1), .inl (.int a2), .inl (.int a3), .inl (.int a4), .inl (.int a5)] [] P (f_147 N a1 a2 a3 a4 a5 P) := by
  intro a1 a2 a3 a4 a5 P
  unfold f_147
  refine tr_nil (rows2 := kb_147_0) rfl (List.cons_ne_nil _ _) ?_
  refine tr_blk 4 (pc' := 6) (rows' := kb_147_0.drop 4) (loc' := [.inr (11, 0, 0, 0), .inl (.int a1), .inl (.int a2), .inl (.int a3), .inl (.int a4), .inl (.int a5)]) (st' := [.inl (.int (9999 : Int32)), .inl (.int (0 : Int32)), .inl (.int a1), .inr (11, 0, 0, 0)]) (P1 := P) rfl ⟨trivial, trivial, trivial, trivial, trivial⟩ ?_
  refine tr_cRI (z := km_240) (av := [.inl (.int a1), .inl (.int (0 : Int32)), .inl (.int (9999 : Int32))]) (st' := [.inr (11, 0, 0, 0)]) rfl rfl rfl (Nat.le_of_ble_eq_true rfl) trivial rfl (Nat.le_of_ble_eq_true rfl) (t_240 P a1 (0 : Int32) (9999 : Int32)) (fun v1 => ?_)
  refine tr_if (fun h9 => ?_) (fun h9 => ?_)
  · refine tr_ifT (cd := .eq) h9 ?_
    refine tr_nil (rows2 := kb_147_60) rfl (List.cons_ne_nil _ _) ?_
    refine tr_blk 1 (pc' := 61) (rows' := kb_147_60.drop 1) (loc' := [.inr (11, 0, 0, 0), .inl (.int a1), .inl (.int a2), .inl (.int a3), .inl (.int a4), .inl (.int a5)]) (st' := [.inl (.int (0 : Int32)), .inr (11, 0, 0, 0)]) (P1 := P) rfl ⟨trivial, trivial⟩ ?_
    exact t_147_61 N a1 a2 a3 a4 a5 (0 : Int32) P
  · refine tr_ifF (cd := .eq) h9 ?_
    refine tr_blk 3 (pc' := 17) (rows' := kb_147_0.drop 9) (loc' := [.inr (11, 0, 0, 0), .inl (.int a1), .inl (.int a2), .inl (.int a3), .inl (.int a4), .inl (.int a5)]) (st' := [.inl (.int (999 : Int32)), .inl (.int (0 : Int32)), .inl (.int a2), .inr (11, 0, 0, 0)]) (P1 := P) rfl ⟨trivial, trivial, trivial, trivial⟩ ?_
    refine tr_cRI (z := km_240) (av := [.inl (.int a2), .inl (.int (0 : Int32)), .inl (.int (999 : Int32))]) (st' := [.inr (11, 0, 0, 0)]) rfl rfl rfl (Nat.le_of_ble_eq_true rfl) trivial rfl (Nat.le_of_ble_eq_true rfl) (t_240 P a2 (0 : Int32) (999 : Int32)) (fun v2 => ?_)
    refine tr_if (fun h10 => ?_) (fun h10 => ?_)
    · refine tr_ifT (cd := .eq) h10 ?_
      refine tr_nil (rows2 := kb_147_60) rfl (List.cons_ne_nil _ _) ?_
      refine tr_blk 1 (pc' := 61) (rows' := kb_147_60.drop 1) (loc' := [.inr (11, 0, 0, 0), .inl (.int a1), .inl (.int a2), .inl (.int a3), .inl (.int a4), .inl (.int a5)]) (st' := [.inl (.int (0 : Int32)), .inr (11, 0, 0, 0)]) (P1 := P) rfl ⟨trivial, trivial⟩ ?_
      exact t_147_61 N a1 a2 a3 a4 a5 (0 : Int32) P
    · refine tr_ifF (cd := .eq) h10 ?_
      refine tr_blk 3 (pc' := 27) (rows' := kb_147_0.drop 14) (loc' := [.inr (11, 0, 0, 0), .inl (.int a1), .inl (.int a2), .inl (.int a3), .inl (.int a4), .inl (.int a5)]) (st' := [.inl (.int (9 : Int32)), .inl (.int (0 : Int32)), .inl (.int a3), .inr (11, 0, 0, 0)]) (P1 := P) rfl ⟨trivial, trivial, trivial, trivial⟩ ?_
      refine tr_cRI (z := km_240) (av := [.inl (.int a3), .inl (.int (0 : Int32)), .inl (.int (9 : Int32))]) (st' := [.inr (11, 0, 0, 0)]) rfl rfl rfl (Nat.le_of_ble_eq_true rfl) trivial rfl (Nat.le_of_ble_eq_true rfl) (t_240 P a3 (0 : Int32) (9 : Int32)) (fun v3 => ?_)
      refine tr_if (fun h11 => ?_) (fun h11 => ?_)
      · refine tr_ifT (cd := .eq) h11 ?_
        refine tr_nil (rows2 := kb_147_60) rfl (List.cons_ne_nil _ _) ?_
        refine tr_blk 1 (pc' := 61) (rows' := kb_147_60.drop 1) (loc' := [.inr (11, 0, 0, 0), .inl (.int a1), .inl (.int a2), .inl (.int a3), .inl (.int a4), .inl (.int a5)]) (st' := [.inl (.int (0 : Int32)), .inr (11, 0, 0, 0)]) (P1 := P) rfl ⟨trivial, trivial⟩ ?_
        exact t_147_61 N a1 a2 a3 a4 a5 (0 : Int32) P
      · refine tr_ifF (cd := .eq) h11 ?_
        refine tr_blk 3 (pc' := 38) (rows' := kb_147_0.drop 19) (loc' := [.inr (11, 0, 0, 0), .inl (.int a1), .inl (.int a2), .inl (.int a3), .inl (.int a4), .inl (.int a5)]) (st' := [.inl (.int (9 : Int32)), .inl (.int (0 : Int32)), .inl (.int a4), .inr (11, 0, 0, 0)]) (P1 := P) rfl ⟨trivial, trivial, trivial, trivial⟩ ?_
        refine tr_cRI (z := km_240) (av := [.inl (.int a4), .inl (.int (0 : Int32)), .inl (.int (9 : Int32))]) (st' := [.inr (11, 0, 0, 0)]) rfl rfl rfl (Nat.le_of_ble_eq_true rfl) trivial rfl (Nat.le_of_ble_eq_true rfl) (t_240 P a4 (0 : Int32) (9 : Int32)) (fun v4 => ?_)
        refine tr_if (fun h12 => ?_) (fun h12 => ?_)
        · refine tr_ifT (cd := .eq) h12 ?_
          refine tr_nil (rows2 := kb_147_60) rfl (List.cons_ne_nil _ _) ?_
          refine tr_blk 1 (pc' := 61) (rows' := kb_147_60.drop 1) (loc' := [.inr (11, 0, 0, 0), .inl (.int a1), .inl (.int a2), .inl (.int a3), .inl (.int a4), .inl (.int a5)]) (st' := [.inl (.int (0 : Int32)), .inr (11, 0, 0, 0)]) (P1 := P) rfl ⟨trivial, trivial⟩ ?_
          exact t_147_61 N a1 a2 a3 a4 a5 (0 : Int32) P
        · refine tr_ifF (cd := .eq) h12 ?_
          refine tr_blk 3 (pc' := 50) (rows' := kb_147_0.drop 24) (loc' := [.inr (11, 0, 0, 0), .inl (.int a1), .inl (.int a2), .inl (.int a3), .inl (.int a4), .inl (.int a5)]) (st' := [.inl (.int (999 : Int32)), .inl (.int (0 : Int32)), .inl (.int a5), .inr (11, 0, 0, 0)]) (P1 := P) rfl ⟨trivial, trivial, trivial, trivial⟩ ?_
          refine tr_cRI (z := km_240) (av := [.inl (.int a5), .inl (.int (0 : Int32)), .inl (.int (999 : Int32))]) (st' := [.inr (11, 0, 0, 0)]) rfl rfl rfl (Nat.le_of_ble_eq_true rfl) trivial rfl (Nat.le_of_ble_eq_true rfl) (t_240 P a5 (0 : Int32) (999 : Int32)) (fun v5 => ?_)
          refine tr_if (fun h13 => ?_) (fun h13 => ?_)
          · refine tr_ifT (cd := .eq) h13 ?_
            refine tr_nil (rows2 := kb_147_60) rfl (List.cons_ne_nil _ _) ?_
            refine tr_blk 1 (pc' := 61) (rows' := kb_147_60.drop 1) (loc' := [.inr (11, 0, 0, 0), .inl (.int a1), .inl (.int a2), .inl (.int a3), .inl (.int a4), .inl (.int a5)]) (st' := [.inl (.int (0 : Int32)), .inr (11, 0, 0, 0)]) (P1 := P) rfl ⟨trivial, trivial⟩ ?_
            exact t_147_61 N a1 a2 a3 a4 a5 (0 : Int32) P
          · refine tr_ifF (cd := .eq) h13 ?_
            refine tr_blk 1 (pc' := 57) (rows' := kb_147_0.drop 27) (loc' := [.inr (11, 0, 0, 0), .inl (.int a1), .inl (.int a2), .inl (.int a3), .inl (.int a4), .inl (.int a5)]) (st' := [.inl (.int (1 : Int32)), .inr (11, 0, 0, 0)]) (P1 := P) rfl ⟨trivial, trivial⟩ ?_
            refine tr_goto ?_
            exact t_147_61 N a1 a2 a3 a4 a5 (1 : Int32) P
def f_32_1 (N : Nat) (a1 : Int32) (a2 : Int32) (a3 : Int32) (a4 : Int32) (a5 : Int32) (P : ab_P) : Option (Int32 × ab_P) :=
    ab_h2 (f_147 N a1 a2 a3 a4 a5 P) (fun v2 P1 =>
    ab_lt (ab_pL P1 570 0 (v2).toInt64) fun P3 =>
    some ((0 : Int32), P3))
    (fun _ => none) (fun P9 => some ((1 : Int32), P9)) (fun _ => none)
theorem t_32_1 {xs : Nat × (Nat → Int32)} {d : Nat} (N : Nat) : ∀ (a1 : Int32) (a2 : Int32) (a3 : Int32) (a4 : Int32) (a5 : Int32) (P : ab_P), ab_tr xs wI (d + 4) 32 0 [] [.inr (11, 0, 0, 0), .inl (.int a1), .inl (.int a2), .inl (.int a3), .inl (.int a4), .inl (.int a5), .inr (22, 1, 0, 570), ab_top] [] P (f_32_1 N a1 a2 a3 a4 a5 P) := by
  intro a1 a2 a3 a4 a5 P
  unfold f_32_1
  refine tr_nil (rows2 := kb_32_0) rfl (List.cons_ne_nil _ _) ?_
  refine tr_blk 8 (pc' := 11) (rows' := kb_32_0.drop 8) (loc' := [.inr (11, 0, 0, 0), .inl (.int a1), .inl (.int a2), .inl (.int a3), .inl (.int a4), .inl (.int a5), .inr (22, 1, 0, 570), ab_top]) (st' := [.inl (.int a5), .inl (.int a4), .inl (.int a3), .inl (.int a2), .inl (.int a1), .inr (11, 0, 0, 0), .inl (.int (0 : Int32)), .inr (22, 1, 0, 570)]) (P1 := P) rfl ⟨trivial, trivial, trivial, trivial, trivial, trivial, trivial, trivial, trivial⟩ ?_
  refine tr_cah (fun b => some (.inl (.int b))) (zi := km_32) (fun _ => rfl) rfl (z := km_147) (av := [.inr (11, 0, 0, 0), .inl (.int a1), .inl (.int a2), .inl (.int a3), .inl (.int a4), .inl (.int a5)]) (st' := [.inl (.int (0 : Int32)), .inr (22, 1, 0, 570)]) rfl rfl rfl (Nat.le_of_ble_eq_true rfl) ⟨rfl, Or.inl (by decide)⟩ rfl (Nat.le_of_ble_eq_true rfl) (t_147 N a1 a2 a3 a4 a5 P) (fun v2 P1 => ?_) ?_ ?_ ?_
  · refine tr_blk 2 (pc' := 16) (rows' := kb_32_0.drop 11) (loc' := [.inr (11, 0, 0, 0), .inl (.int a1), .inl (.int a2), .inl (.int a3), .inl (.int a4), .inl (.int a5), .inr (22, 1, 0, 570), ab_top]) (st' := []) (P1 := (ab_pL P1 570 0 (v2).toInt64)) rfl ⟨trivial, (ab_vi (by decide)), trivial⟩ ?_
    refine tr_lt (fun P3 => ?_)
    refine tr_goto ?_
    refine tr_nil (rows2 := kb_32_23) rfl (List.cons_ne_nil _ _) ?_
    refine tr_blk 1 (pc' := 24) (rows' := kb_32_23.drop 1) (loc' := [.inr (11, 0, 0, 0), .inl (.int a1), .inl (.int a2), .inl (.int a3), .inl (.int a4), .inl (.int a5), .inr (22, 1, 0, 570), ab_top]) (st' := [.inl (.int (0 : Int32))]) (P1 := P3) rfl ⟨trivial, trivial⟩ ?_
    exact tr_reI (z := km_32) rfl ⟨_, rfl, rfl⟩ rfl
  · exact fun _ => rfl
  · exact fun _ => tr_han (rows2 := kb_32_19) (z := km_32) _ (fun q => [.inr (11, 0, 0, 0), .inl (.int a1), .inl (.int a2), .inl (.int a3), .inl (.int a4), .inl (.int a5), .inr (22, 1, 0, 570), .inr (40, 1, 0, q)]) rfl (List.cons_ne_nil _ _) (fun q => rfl) ⟨trivial, trivial, trivial⟩ rfl ⟨_, rfl, rfl⟩ rfl
  · exact fun _ => rfl
def f_33_79 (N : Nat) : Nat → Int32 → Int32 → Int32 → Int32 → Int32 → Int32 → ab_P → Option (Int32 × ab_P)
  | 0, _, _, _, _, _, _, _ => none
  | n + 1, x1, x2, x3, x4, x5, x6, P =>
    if x6 < (8 : Int32) then
      if ab_gi x6 8 then
      ab_lt (ab_pI P 476 x6.toNatClampNeg (0 : Int32)) fun P17 =>
      f_33_79 N n x1 x2 x3 x4 x5 (x6 + 1) P17
      else none
    else
    ab_lt (ab_pI P 476 0 x1) fun P9 =>
    ab_lt (ab_pI P9 476 1 x2) fun P10 =>
    ab_lt (ab_pI P10 476 2 x3) fun P11 =>
    ab_lt (ab_pI P11 476 3 x4) fun P12 =>
    ab_lt (ab_pI P12 476 5 x5) fun P13 =>
    ab_b2 (f_148 N P13) fun v15 P14 =>
    some (v15, P14)
theorem t_33_79 {xs : Nat × (Nat → Int32)} {d : Nat} (N : Nat) : ∀ n : Nat, ∀ (x1 : Int32) (x2 : Int32) (x3 : Int32) (x4 : Int32) (x5 : Int32) (x6 : Int32) (P : ab_P), ab_tr xs wI (d + 4) 33 79 [] [.inr (12, 0, 0, 72), .inl (.int x1), .inl (.int x2), .inl (.int x3), .inl (.int x4), .inl (.int x5), .inl (.int x6)] [] P (f_33_79 N n x1 x2 x3 x4 x5 x6 P) := by
  intro n
  induction n with
  | zero => intro x1 x2 x3 x4 x5 x6 P; exact tr_no
  | succ n ih =>
    intro x1 x2 x3 x4 x5 x6 P
    refine tr_nil (rows2 := kb_33_79) rfl (List.cons_ne_nil _ _) ?_
    refine tr_blk 2 (pc' := 83) (rows' := kb_33_79.drop 2) (loc' := [.inr (12, 0, 0, 72), .inl (.int x1), .inl (.int x2), .inl (.int x3), .inl (.int x4), .inl (.int x5), .inl (.int x6)]) (st' := [.inl (.int (8 : Int32)), .inl (.int x6)]) (P1 := P) rfl ⟨trivial, trivial, trivial⟩ ?_
    refine tr_if (fun h18 => ?_) (fun h18 => ?_)
    · refine tr_icF (cd := .ge) (Int32.not_le.mpr h18) ?_
      refine tr_gd (fun h16 => ?_)
      refine tr_blk 5 (pc' := 94) (rows' := kb_33_79.drop 8) (loc' := [.inr (12, 0, 0, 72), .inl (.int x1), .inl (.int x2), .inl (.int x3), .inl (.int x4), .inl (.int x5), .inl (.int x6)]) (st' := []) (P1 := (ab_pI P 476 x6.toNatClampNeg (0 : Int32))) rfl ⟨trivial, trivial, trivial, trivial, h16, trivial⟩ ?_
      refine tr_lt (fun P17 => ?_)
      refine tr_blk 1 (pc' := 97) (rows' := kb_33_79.drop 9) (loc' := [.inr (12, 0, 0, 72), .inl (.int x1), .inl (.int x2), .inl (.int x3), .inl (.int x4), .inl (.int x5), .inl (.int (x6 + 1))]) (st' := []) (P1 := P17) rfl ⟨trivial, trivial⟩ ?_
      refine tr_goto ?_
      exact ih x1 x2 x3 x4 x5 (x6 + 1) P17
    · refine tr_icT (cd := .ge) (Int32.not_lt.mp h18) ?_
      refine tr_nil (rows2 := kb_33_100) rfl (List.cons_ne_nil _ _) ?_
      refine tr_blk 5 (pc' := 107) (rows' := kb_33_100.drop 5) (loc' := [.inr (12, 0, 0, 72), .inl (.int x1), .inl (.int x2), .inl (.int x3), .inl (.int x4), .inl (.int x5), .inl (.int x6)]) (st' := []) (P1 := (ab_pI P 476 0 x1)) rfl ⟨trivial, trivial, trivial, trivial, (ab_vi (by decide)), trivial⟩ ?_
      refine tr_lt (fun P9 => ?_)
      refine tr_blk 5 (pc' := 114) (rows' := kb_33_100.drop 10) (loc' := [.inr (12, 0, 0, 72), .inl (.int x1), .inl (.int x2), .inl (.int x3), .inl (.int x4), .inl (.int x5), .inl (.int x6)]) (st' := []) (P1 := (ab_pI P9 476 1 x2)) rfl ⟨trivial, trivial, trivial, trivial, (ab_vi (by decide)), trivial⟩ ?_
      refine tr_lt (fun P10 => ?_)
      refine tr_blk 5 (pc' := 121) (rows' := kb_33_100.drop 15) (loc' := [.inr (12, 0, 0, 72), .inl (.int x1), .inl (.int x2), .inl (.int x3), .inl (.int x4), .inl (.int x5), .inl (.int x6)]) (st' := []) (P1 := (ab_pI P10 476 2 x3)) rfl ⟨trivial, trivial, trivial, trivial, (ab_vi (by decide)), trivial⟩ ?_
      refine tr_lt (fun P11 => ?_)
      refine tr_blk 5 (pc' := 129) (rows' := kb_33_100.drop 20) (loc' := [.inr (12, 0, 0, 72), .inl (.int x1), .inl (.int x2), .inl (.int x3), .inl (.int x4), .inl (.int x5), .inl (.int x6)]) (st' := []) (P1 := (ab_pI P11 476 3 x4)) rfl ⟨trivial, trivial, trivial, trivial, (ab_vi (by decide)), trivial⟩ ?_
      refine tr_lt (fun P12 => ?_)
      refine tr_blk 5 (pc' := 137) (rows' := kb_33_100.drop 25) (loc' := [.inr (12, 0, 0, 72), .inl (.int x1), .inl (.int x2), .inl (.int x3), .inl (.int x4), .inl (.int x5), .inl (.int x6)]) (st' := []) (P1 := (ab_pI P12 476 5 x5)) rfl ⟨trivial, trivial, trivial, trivial, (ab_vi (by decide)), trivial⟩ ?_
      refine tr_lt (fun P13 => ?_)
      refine tr_blk 1 (pc' := 138) (rows' := kb_33_100.drop 26) (loc' := [.inr (12, 0, 0, 72), .inl (.int x1), .inl (.int x2), .inl (.int x3), .inl (.int x4), .inl (.int x5), .inl (.int x6)]) (st' := [.inr (12, 0, 0, 72)]) (P1 := P13) rfl ⟨trivial, trivial⟩ ?_
      refine tr_cWI (z := km_148) (av := [.inr (12, 0, 0, 72)]) (st' := []) rfl rfl rfl (Nat.le_of_ble_eq_true rfl) ⟨rfl, Or.inl (by decide)⟩ rfl (Nat.le_of_ble_eq_true rfl) (t_148 N P13) (fun v15 P14 => ?_)
      exact tr_reI (z := km_33) rfl ⟨_, rfl, rfl⟩ rfl
def f_33_66 (N : Nat) (x1 : Int32) (x2 : Int32) (x3 : Int32) (x4 : Int32) (x5 : Int32) (s0 : Int32) (P : ab_P) : Option (Int32 × ab_P) :=
    ab_b2 (f_113 s0 (1 : Int32) (1 : Int32) P) fun v8 P7 =>
    if v8 = (0 : Int32) then
      f_33_79 N N x1 x2 x3 x4 x5 (0 : Int32) P7
    else
    some ((0 : Int32), P7)
theorem t_33_66 {xs : Nat × (Nat → Int32)} {d : Nat} (N : Nat) : ∀ (x1 : Int32) (x2 : Int32) (x3 : Int32) (x4 : Int32) (x5 : Int32) (s0 : Int32) (P : ab_P), ab_tr xs wI (d + 4) 33 66 [] [.inr (12, 0, 0, 72), .inl (.int x1), .inl (.int x2), .inl (.int x3), .inl (.int x4), .inl (.int x5), ab_top] [.inl (.int s0), .inr (12, 0, 0, 72)] P (f_33_66 N x1 x2 x3 x4 x5 s0 P) := by
  intro x1 x2 x3 x4 x5 s0 P
  unfold f_33_66
  refine tr_nil (rows2 := kb_33_66) rfl (List.cons_ne_nil _ _) ?_
  refine tr_blk 2 (pc' := 68) (rows' := kb_33_66.drop 2) (loc' := [.inr (12, 0, 0, 72), .inl (.int x1), .inl (.int x2), .inl (.int x3), .inl (.int x4), .inl (.int x5), ab_top]) (st' := [.inl (.int (1 : Int32)), .inl (.int (1 : Int32)), .inl (.int s0), .inr (12, 0, 0, 72)]) (P1 := P) rfl ⟨trivial, trivial, trivial⟩ ?_
  refine tr_cWI (z := km_113) (av := [.inr (12, 0, 0, 72), .inl (.int s0), .inl (.int (1 : Int32)), .inl (.int (1 : Int32))]) (st' := []) rfl rfl rfl (Nat.le_of_ble_eq_true rfl) ⟨rfl, Or.inl (by decide)⟩ rfl (Nat.le_of_ble_eq_true rfl) (t_113 s0 (1 : Int32) (1 : Int32) P) (fun v8 P7 => ?_)
  refine tr_if (fun h19 => ?_) (fun h19 => ?_)
  · refine tr_ifT (cd := .eq) h19 ?_
    refine tr_nil (rows2 := kb_33_76) rfl (List.cons_ne_nil _ _) ?_
    refine tr_blk 2 (pc' := 79) (rows' := kb_33_76.drop 2) (loc' := [.inr (12, 0, 0, 72), .inl (.int x1), .inl (.int x2), .inl (.int x3), .inl (.int x4), .inl (.int x5), .inl (.int (0 : Int32))]) (st' := []) (P1 := P7) rfl ⟨trivial, trivial, trivial⟩ ?_
    exact t_33_79 N N x1 x2 x3 x4 x5 (0 : Int32) P7
  · refine tr_ifF (cd := .eq) h19 ?_
    refine tr_blk 1 (pc' := 75) (rows' := kb_33_66.drop 5) (loc' := [.inr (12, 0, 0, 72), .inl (.int x1), .inl (.int x2), .inl (.int x3), .inl (.int x4), .inl (.int x5), ab_top]) (st' := [.inl (.int (0 : Int32))]) (P1 := P7) rfl ⟨trivial, trivial⟩ ?_
    exact tr_reI (z := km_33) rfl ⟨_, rfl, rfl⟩ rfl
def f_33 (N : Nat) (a1 : Int32) (a2 : Int32) (a3 : Int32) (a4 : Int32) (a5 : Int32) (P : ab_P) : Option (Int32 × ab_P) :=
    ab_lt (ab_pI P 72 0 (0 : Int32)) fun P1 =>
    Option.bind (f_112 P1 a1 (0 : Int32) (9999 : Int32)) fun v2 =>
    if v2 = (0 : Int32) then
      f_33_66 N a1 a2 a3 a4 a5 (1 : Int32) P1
    else
    Option.bind (f_112 P1 a2 (0 : Int32) (999 : Int32)) fun v3 =>
    if v3 = (0 : Int32) then
      f_33_66 N a1 a2 a3 a4 a5 (1 : Int32) P1
    else
    Option.bind (f_112 P1 a3 (0 : Int32) (9 : Int32)) fun v4 =>
    if v4 = (0 : Int32) then
      f_33_66 N a1 a2 a3 a4 a5 (1 : Int32) P1
    else
    Option.bind (f_112 P1 a4 (0 : Int32) (9 : Int32)) fun v5 =>
    if v5 = (0 : Int32) then
      f_33_66 N a1 a2 a3 a4 a5 (1 : Int32) P1
    else
    Option.bind (f_112 P1 a5 (0 : Int32) (999 : Int32)) fun v6 =>
    if v6 = (0 : Int32) then
      f_33_66 N a1 a2 a3 a4 a5 (1 : Int32) P1
    else
    f_33_66 N a1 a2 a3 a4 a5 (0 : Int32) P1
theorem t_33 {xs : Nat × (Nat → Int32)} {d : Nat} (N : Nat) : ∀ (a1 : Int32) (a2 : Int32) (a3 : Int32) (a4 : Int32) (a5 : Int32) (P : ab_P), ab_tr xs wI (d + 4) 33 0 [] [.inr (12, 0, 0, 72), .inl (.int a1), .inl (.int a2), .inl (.int a3), .inl (.int a4), .inl (.int a5), ab_top] [] P (f_33 N a1 a2 a3 a4 a5 P) := by
  intro a1 a2 a3 a4 a5 P
  unfold f_33
  refine tr_nil (rows2 := kb_33_0) rfl (List.cons_ne_nil _ _) ?_
  refine tr_blk 3 (pc' := 5) (rows' := kb_33_0.drop 3) (loc' := [.inr (12, 0, 0, 72), .inl (.int a1), .inl (.int a2), .inl (.int a3), .inl (.int a4), .inl (.int a5), ab_top]) (st' := []) (P1 := (ab_pI P 72 0 (0 : Int32))) rfl ⟨trivial, trivial, trivial, trivial⟩ ?_
  refine tr_lt (fun P1 => ?_)
  refine tr_blk 4 (pc' := 11) (rows' := kb_33_0.drop 7) (loc' := [.inr (12, 0, 0, 72), .inl (.int a1), .inl (.int a2), .inl (.int a3), .inl (.int a4), .inl (.int a5), ab_top]) (st' := [.inl (.int (9999 : Int32)), .inl (.int (0 : Int32)), .inl (.int a1), .inr (12, 0, 0, 72)]) (P1 := P1) rfl ⟨trivial, trivial, trivial, trivial, trivial⟩ ?_
  refine tr_cRI (z := km_112) (av := [.inl (.int a1), .inl (.int (0 : Int32)), .inl (.int (9999 : Int32))]) (st' := [.inr (12, 0, 0, 72)]) rfl rfl rfl (Nat.le_of_ble_eq_true rfl) trivial rfl (Nat.le_of_ble_eq_true rfl) (t_112 P1 a1 (0 : Int32) (9999 : Int32)) (fun v2 => ?_)
  refine tr_if (fun h20 => ?_) (fun h20 => ?_)
  · refine tr_ifT (cd := .eq) h20 ?_
    refine tr_nil (rows2 := kb_33_61) rfl (List.cons_ne_nil _ _) ?_
    refine tr_blk 1 (pc' := 62) (rows' := kb_33_61.drop 1) (loc' := [.inr (12, 0, 0, 72), .inl (.int a1), .inl (.int a2), .inl (.int a3), .inl (.int a4), .inl (.int a5), ab_top]) (st' := [.inl (.int (1 : Int32)), .inr (12, 0, 0, 72)]) (P1 := P1) rfl ⟨trivial, trivial⟩ ?_
    refine tr_goto ?_
    exact t_33_66 N a1 a2 a3 a4 a5 (1 : Int32) P1
  · refine tr_ifF (cd := .eq) h20 ?_
    refine tr_blk 3 (pc' := 22) (rows' := kb_33_0.drop 12) (loc' := [.inr (12, 0, 0, 72), .inl (.int a1), .inl (.int a2), .inl (.int a3), .inl (.int a4), .inl (.int a5), ab_top]) (st' := [.inl (.int (999 : Int32)), .inl (.int (0 : Int32)), .inl (.int a2), .inr (12, 0, 0, 72)]) (P1 := P1) rfl ⟨trivial, trivial, trivial, trivial⟩ ?_
    refine tr_cRI (z := km_112) (av := [.inl (.int a2), .inl (.int (0 : Int32)), .inl (.int (999 : Int32))]) (st' := [.inr (12, 0, 0, 72)]) rfl rfl rfl (Nat.le_of_ble_eq_true rfl) trivial rfl (Nat.le_of_ble_eq_true rfl) (t_112 P1 a2 (0 : Int32) (999 : Int32)) (fun v3 => ?_)
    refine tr_if (fun h21 => ?_) (fun h21 => ?_)
    · refine tr_ifT (cd := .eq) h21 ?_
      refine tr_nil (rows2 := kb_33_61) rfl (List.cons_ne_nil _ _) ?_
      refine tr_blk 1 (pc' := 62) (rows' := kb_33_61.drop 1) (loc' := [.inr (12, 0, 0, 72), .inl (.int a1), .inl (.int a2), .inl (.int a3), .inl (.int a4), .inl (.int a5), ab_top]) (st' := [.inl (.int (1 : Int32)), .inr (12, 0, 0, 72)]) (P1 := P1) rfl ⟨trivial, trivial⟩ ?_
      refine tr_goto ?_
      exact t_33_66 N a1 a2 a3 a4 a5 (1 : Int32) P1
    · refine tr_ifF (cd := .eq) h21 ?_
      refine tr_blk 3 (pc' := 32) (rows' := kb_33_0.drop 17) (loc' := [.inr (12, 0, 0, 72), .inl (.int a1), .inl (.int a2), .inl (.int a3), .inl (.int a4), .inl (.int a5), ab_top]) (st' := [.inl (.int (9 : Int32)), .inl (.int (0 : Int32)), .inl (.int a3), .inr (12, 0, 0, 72)]) (P1 := P1) rfl ⟨trivial, trivial, trivial, trivial⟩ ?_
      refine tr_cRI (z := km_112) (av := [.inl (.int a3), .inl (.int (0 : Int32)), .inl (.int (9 : Int32))]) (st' := [.inr (12, 0, 0, 72)]) rfl rfl rfl (Nat.le_of_ble_eq_true rfl) trivial rfl (Nat.le_of_ble_eq_true rfl) (t_112 P1 a3 (0 : Int32) (9 : Int32)) (fun v4 => ?_)
      refine tr_if (fun h22 => ?_) (fun h22 => ?_)
      · refine tr_ifT (cd := .eq) h22 ?_
        refine tr_nil (rows2 := kb_33_61) rfl (List.cons_ne_nil _ _) ?_
        refine tr_blk 1 (pc' := 62) (rows' := kb_33_61.drop 1) (loc' := [.inr (12, 0, 0, 72), .inl (.int a1), .inl (.int a2), .inl (.int a3), .inl (.int a4), .inl (.int a5), ab_top]) (st' := [.inl (.int (1 : Int32)), .inr (12, 0, 0, 72)]) (P1 := P1) rfl ⟨trivial, trivial⟩ ?_
        refine tr_goto ?_
        exact t_33_66 N a1 a2 a3 a4 a5 (1 : Int32) P1
      · refine tr_ifF (cd := .eq) h22 ?_
        refine tr_blk 3 (pc' := 43) (rows' := kb_33_0.drop 22) (loc' := [.inr (12, 0, 0, 72), .inl (.int a1), .inl (.int a2), .inl (.int a3), .inl (.int a4), .inl (.int a5), ab_top]) (st' := [.inl (.int (9 : Int32)), .inl (.int (0 : Int32)), .inl (.int a4), .inr (12, 0, 0, 72)]) (P1 := P1) rfl ⟨trivial, trivial, trivial, trivial⟩ ?_
        refine tr_cRI (z := km_112) (av := [.inl (.int a4), .inl (.int (0 : Int32)), .inl (.int (9 : Int32))]) (st' := [.inr (12, 0, 0, 72)]) rfl rfl rfl (Nat.le_of_ble_eq_true rfl) trivial rfl (Nat.le_of_ble_eq_true rfl) (t_112 P1 a4 (0 : Int32) (9 : Int32)) (fun v5 => ?_)
        refine tr_if (fun h23 => ?_) (fun h23 => ?_)
        · refine tr_ifT (cd := .eq) h23 ?_
          refine tr_nil (rows2 := kb_33_61) rfl (List.cons_ne_nil _ _) ?_
          refine tr_blk 1 (pc' := 62) (rows' := kb_33_61.drop 1) (loc' := [.inr (12, 0, 0, 72), .inl (.int a1), .inl (.int a2), .inl (.int a3), .inl (.int a4), .inl (.int a5), ab_top]) (st' := [.inl (.int (1 : Int32)), .inr (12, 0, 0, 72)]) (P1 := P1) rfl ⟨trivial, trivial⟩ ?_
          refine tr_goto ?_
          exact t_33_66 N a1 a2 a3 a4 a5 (1 : Int32) P1
        · refine tr_ifF (cd := .eq) h23 ?_
          refine tr_blk 3 (pc' := 55) (rows' := kb_33_0.drop 27) (loc' := [.inr (12, 0, 0, 72), .inl (.int a1), .inl (.int a2), .inl (.int a3), .inl (.int a4), .inl (.int a5), ab_top]) (st' := [.inl (.int (999 : Int32)), .inl (.int (0 : Int32)), .inl (.int a5), .inr (12, 0, 0, 72)]) (P1 := P1) rfl ⟨trivial, trivial, trivial, trivial⟩ ?_
          refine tr_cRI (z := km_112) (av := [.inl (.int a5), .inl (.int (0 : Int32)), .inl (.int (999 : Int32))]) (st' := [.inr (12, 0, 0, 72)]) rfl rfl rfl (Nat.le_of_ble_eq_true rfl) trivial rfl (Nat.le_of_ble_eq_true rfl) (t_112 P1 a5 (0 : Int32) (999 : Int32)) (fun v6 => ?_)
          refine tr_if (fun h24 => ?_) (fun h24 => ?_)
          · refine tr_ifF (cd := .ne) (fun q => q h24) ?_
            refine tr_nil (rows2 := kb_33_61) rfl (List.cons_ne_nil _ _) ?_
            refine tr_blk 1 (pc' := 62) (rows' := kb_33_61.drop 1) (loc' := [.inr (12, 0, 0, 72), .inl (.int a1), .inl (.int a2), .inl (.int a3), .inl (.int a4), .inl (.int a5), ab_top]) (st' := [.inl (.int (1 : Int32)), .inr (12, 0, 0, 72)]) (P1 := P1) rfl ⟨trivial, trivial⟩ ?_
            refine tr_goto ?_
            exact t_33_66 N a1 a2 a3 a4 a5 (1 : Int32) P1
          · refine tr_ifT (cd := .ne) h24 ?_
            refine tr_nil (rows2 := kb_33_65) rfl (List.cons_ne_nil _ _) ?_
            refine tr_blk 1 (pc' := 66) (rows' := kb_33_65.drop 1) (loc' := [.inr (12, 0, 0, 72), .inl (.int a1), .inl (.int a2), .inl (.int a3), .inl (.int a4), .inl (.int a5), ab_top]) (st' := [.inl (.int (0 : Int32)), .inr (12, 0, 0, 72)]) (P1 := P1) rfl ⟨trivial, trivial⟩ ?_
            exact t_33_66 N a1 a2 a3 a4 a5 (0 : Int32) P1
def f_149_4 (N : Nat) : Nat → Int64 → Int32 → ab_P → Option (Int64 × ab_P)
  | 0, _, _, _ => none
  | n + 1, x1, x3, P =>
    if x3 < (P.1 43 2) then
      ab_b2 (f_243 N x3 P) fun v2 P1 =>
      if v2 = (0 : Int32) then
        f_149_4 N n x1 (x3 + 1) P1
      else
      f_149_4 N n (x1 ||| ((1 : Int64) <<< ((x3).toInt64 &&& 63))) (x3 + 1) P1
    else
    some (x1, P)
theorem t_149_4 {xs : Nat × (Nat → Int32)} {d : Nat} (N : Nat) : ∀ n : Nat, ∀ (x1 : Int64) (x3 : Int32) (P : ab_P), ab_tr xs wL (d + 5) 149 4 [] [.inr (4, 0, 0, 46), .inl (.long x1), ab_top, .inl (.int x3)] [] P (f_149_4 N n x1 x3 P) := by
  intro n
  induction n with
  | zero => intro x1 x3 P; exact tr_no
  | succ n ih =>
    intro x1 x3 P
    refine tr_nil (rows2 := kb_149_4) rfl (List.cons_ne_nil _ _) ?_
    refine tr_blk 4 (pc' := 12) (rows' := kb_149_4.drop 4) (loc' := [.inr (4, 0, 0, 46), .inl (.long x1), ab_top, .inl (.int x3)]) (st' := [.inl (.int (P.1 43 2)), .inl (.int x3)]) (P1 := P) rfl ⟨trivial, trivial, trivial, trivial, trivial⟩ ?_
    refine tr_if (fun h3 => ?_) (fun h3 => ?_)
    · refine tr_icF (cd := .ge) (Int32.not_le.mpr h3) ?_
      refine tr_blk 2 (pc' := 17) (rows' := kb_149_4.drop 7) (loc' := [.inr (4, 0, 0, 46), .inl (.long x1), ab_top, .inl (.int x3)]) (st' := [.inl (.int x3), .inr (4, 0, 0, 46)]) (P1 := P) rfl ⟨trivial, trivial, trivial⟩ ?_
      refine tr_cWI (z := km_243) (av := [.inr (4, 0, 0, 46), .inl (.int x3)]) (st' := []) rfl rfl rfl (Nat.le_of_ble_eq_true rfl) ⟨rfl, Or.inl (by decide)⟩ rfl (Nat.le_of_ble_eq_true rfl) (t_243 N x3 P) (fun v2 P1 => ?_)
      refine tr_if (fun h4 => ?_) (fun h4 => ?_)
      · refine tr_ifT (cd := .eq) h4 ?_
        refine tr_nil (rows2 := kb_149_29) rfl (List.cons_ne_nil _ _) ?_
        refine tr_blk 1 (pc' := 32) (rows' := kb_149_29.drop 1) (loc' := [.inr (4, 0, 0, 46), .inl (.long x1), ab_top, .inl (.int (x3 + 1))]) (st' := []) (P1 := P1) rfl ⟨trivial, trivial⟩ ?_
        refine tr_goto ?_
        exact ih x1 (x3 + 1) P1
      · refine tr_ifF (cd := .eq) h4 ?_
        refine tr_blk 6 (pc' := 29) (rows' := kb_149_4.drop 15) (loc' := [.inr (4, 0, 0, 46), .inl (.long (x1 ||| ((1 : Int64) <<< ((x3).toInt64 &&& 63)))), ab_top, .inl (.int x3)]) (st' := []) (P1 := P1) rfl ⟨trivial, trivial, trivial, trivial, trivial, trivial, trivial⟩ ?_
        refine tr_nil (rows2 := kb_149_29) rfl (List.cons_ne_nil _ _) ?_
        refine tr_blk 1 (pc' := 32) (rows' := kb_149_29.drop 1) (loc' := [.inr (4, 0, 0, 46), .inl (.long (x1 ||| ((1 : Int64) <<< ((x3).toInt64 &&& 63)))), ab_top, .inl (.int (x3 + 1))]) (st' := []) (P1 := P1) rfl ⟨trivial, trivial⟩ ?_
        refine tr_goto ?_
        exact ih (x1 ||| ((1 : Int64) <<< ((x3).toInt64 &&& 63))) (x3 + 1) P1
    · refine tr_icT (cd := .ge) (Int32.not_lt.mp h3) ?_
      refine tr_nil (rows2 := kb_149_35) rfl (List.cons_ne_nil _ _) ?_
      refine tr_blk 1 (pc' := 36) (rows' := kb_149_35.drop 1) (loc' := [.inr (4, 0, 0, 46), .inl (.long x1), ab_top, .inl (.int x3)]) (st' := [.inl (.long x1)]) (P1 := P) rfl ⟨trivial, trivial⟩ ?_
      exact tr_reL (z := km_149) rfl rfl rfl
def f_149 (N : Nat) (P : ab_P) : Option (Int64 × ab_P) :=
    f_149_4 N N (0 : Int64) (0 : Int32) P
theorem t_149 {xs : Nat × (Nat → Int32)} {d : Nat} (N : Nat) : ∀ (P : ab_P), ab_tr xs wL (d + 5) 149 0 [] [.inr (4, 0, 0, 46), ab_top, ab_top, ab_top] [] P (f_149 N P) := by
  intro P
  unfold f_149
  refine tr_nil (rows2 := kb_149_0) rfl (List.cons_ne_nil _ _) ?_
  refine tr_blk 4 (pc' := 4) (rows' := kb_149_0.drop 4) (loc' := [.inr (4, 0, 0, 46), .inl (.long (0 : Int64)), ab_top, .inl (.int (0 : Int32))]) (st' := []) (P1 := P) rfl ⟨trivial, trivial, trivial, trivial, trivial⟩ ?_
  exact t_149_4 N N (0 : Int64) (0 : Int32) P
def f_34 (N : Nat) (P : ab_P) : Option (Int64 × ab_P) :=
    ab_b2 (f_149 N P) fun v2 P1 =>
    some (v2, P1)
theorem t_34 {xs : Nat × (Nat → Int32)} {d : Nat} (N : Nat) : ∀ (P : ab_P), ab_tr xs wL (d + 6) 34 0 [] [.inr (11, 0, 0, 0)] [] P (f_34 N P) := by
  intro P
  unfold f_34
  refine tr_nil (rows2 := kb_34_0) rfl (List.cons_ne_nil _ _) ?_
  refine tr_blk 2 (pc' := 4) (rows' := kb_34_0.drop 2) (loc' := [.inr (11, 0, 0, 0)]) (st' := [.inr (4, 0, 0, 46)]) (P1 := P) rfl ⟨trivial, trivial, trivial⟩ ?_
  refine tr_cWL (z := km_149) (av := [.inr (4, 0, 0, 46)]) (st' := []) rfl rfl rfl (Nat.le_of_ble_eq_true rfl) ⟨rfl, Or.inl (by decide)⟩ rfl (Nat.le_of_ble_eq_true rfl) (t_149 N P) (fun v2 P1 => ?_)
  exact tr_reL (z := km_34) rfl rfl rfl
def f_150 (N : Nat) (a1 : Int32) (P : ab_P) : Option (Int32 × ab_P) :=
    Option.bind (f_144_366 477 P a1) fun v1 =>
    if v1 = (0 : Int32) then
      some ((0 : Int32), P)
    else
    ab_b2 (f_146_366 477 N a1 P) fun v3 P2 =>
    if v3 < (P2.1 76 3) then
      some ((0 : Int32), P2)
    else
    some ((1 : Int32), P2)
theorem t_150 {xs : Nat × (Nat → Int32)} {d : Nat} (N : Nat) : ∀ (a1 : Int32) (P : ab_P), ab_tr xs wI (d + 6) 150 0 [] [.inr (12, 0, 0, 72), .inl (.int a1)] [] P (f_150 N a1 P) := by
  intro a1 P
  unfold f_150
  refine tr_nil (rows2 := kb_150_0) rfl (List.cons_ne_nil _ _) ?_
  refine tr_blk 3 (pc' := 5) (rows' := kb_150_0.drop 3) (loc' := [.inr (12, 0, 0, 72), .inl (.int a1)]) (st' := [.inl (.int a1), .inr (20, 366, 0, 477)]) (P1 := P) rfl ⟨trivial, trivial, trivial, trivial⟩ ?_
  refine tr_cRI (z := km_144) (av := [.inr (20, 366, 0, 477), .inl (.int a1)]) (st' := []) rfl rfl rfl (Nat.le_of_ble_eq_true rfl) trivial rfl (Nat.le_of_ble_eq_true rfl) (t_144_366 477 P a1) (fun v1 => ?_)
  refine tr_if (fun h4 => ?_) (fun h4 => ?_)
  · refine tr_ifT (cd := .eq) h4 ?_
    refine tr_nil (rows2 := kb_150_33) rfl (List.cons_ne_nil _ _) ?_
    refine tr_blk 1 (pc' := 34) (rows' := kb_150_33.drop 1) (loc' := [.inr (12, 0, 0, 72), .inl (.int a1)]) (st' := [.inl (.int (0 : Int32))]) (P1 := P) rfl ⟨trivial, trivial⟩ ?_
    refine tr_nil (rows2 := kb_150_34) rfl (List.cons_ne_nil _ _) ?_
    exact tr_reI (z := km_150) rfl ⟨_, rfl, rfl⟩ rfl
  · refine tr_ifF (cd := .eq) h4 ?_
    refine tr_blk 4 (pc' := 17) (rows' := kb_150_0.drop 9) (loc' := [.inr (12, 0, 0, 72), .inl (.int a1)]) (st' := [.inl (.int a1), .inr (20, 366, 0, 477), .inr (12, 0, 0, 72)]) (P1 := P) rfl ⟨trivial, trivial, trivial, trivial, trivial⟩ ?_
    refine tr_cWI (z := km_146) (av := [.inr (12, 0, 0, 72), .inr (20, 366, 0, 477), .inl (.int a1)]) (st' := []) rfl rfl rfl (Nat.le_of_ble_eq_true rfl) ⟨rfl, Or.inl (by decide)⟩ rfl (Nat.le_of_ble_eq_true rfl) (t_146_366 477 N a1 P) (fun v3 P2 => ?_)
    refine tr_blk 4 (pc' := 26) (rows' := kb_150_0.drop 14) (loc' := [.inr (12, 0, 0, 72), .inl (.int a1)]) (st' := [.inl (.int (P2.1 76 3)), .inl (.int v3)]) (P1 := P2) rfl ⟨trivial, trivial, trivial, (ab_vi (by decide)), trivial⟩ ?_
    refine tr_if (fun h5 => ?_) (fun h5 => ?_)
    · refine tr_icT (cd := .lt) h5 ?_
      refine tr_nil (rows2 := kb_150_33) rfl (List.cons_ne_nil _ _) ?_
      refine tr_blk 1 (pc' := 34) (rows' := kb_150_33.drop 1) (loc' := [.inr (12, 0, 0, 72), .inl (.int a1)]) (st' := [.inl (.int (0 : Int32))]) (P1 := P2) rfl ⟨trivial, trivial⟩ ?_
      refine tr_nil (rows2 := kb_150_34) rfl (List.cons_ne_nil _ _) ?_
      exact tr_reI (z := km_150) rfl ⟨_, rfl, rfl⟩ rfl
    · refine tr_icF (cd := .lt) h5 ?_
      refine tr_blk 1 (pc' := 30) (rows' := kb_150_0.drop 16) (loc' := [.inr (12, 0, 0, 72), .inl (.int a1)]) (st' := [.inl (.int (1 : Int32))]) (P1 := P2) rfl ⟨trivial, trivial⟩ ?_
      refine tr_goto ?_
      refine tr_nil (rows2 := kb_150_34) rfl (List.cons_ne_nil _ _) ?_
      exact tr_reI (z := km_150) rfl ⟨_, rfl, rfl⟩ rfl
def f_35_9 (N : Nat) : Nat → Int64 → Int32 → ab_P → Option (Int64 × ab_P)
  | 0, _, _, _ => none
  | n + 1, x1, x3, P =>
    if x3 < (P.1 477 360) then
      ab_b2 (f_150 N x3 P) fun v3 P2 =>
      if v3 = (0 : Int32) then
        f_35_9 N n (x1 ||| (0 : Int64)) (x3 + 1) P2
      else
      f_35_9 N n (x1 ||| ((1 : Int64) <<< ((x3).toInt64 &&& 63))) (x3 + 1) P2
    else
    some (x1, P)
theorem t_35_9 {xs : Nat × (Nat → Int32)} {d : Nat} (N : Nat) : ∀ n : Nat, ∀ (x1 : Int64) (x3 : Int32) (P : ab_P), ab_tr xs wL (d + 7) 35 9 [] [.inr (12, 0, 0, 72), .inl (.long x1), ab_top, .inl (.int x3)] [] P (f_35_9 N n x1 x3 P) := by
  intro n
  induction n with
  | zero => intro x1 x3 P; exact tr_no
  | succ n ih =>
    intro x1 x3 P
    refine tr_nil (rows2 := kb_35_9) rfl (List.cons_ne_nil _ _) ?_
    refine tr_blk 5 (pc' := 18) (rows' := kb_35_9.drop 5) (loc' := [.inr (12, 0, 0, 72), .inl (.long x1), ab_top, .inl (.int x3)]) (st' := [.inl (.int (P.1 477 360)), .inl (.int x3)]) (P1 := P) rfl ⟨trivial, trivial, trivial, trivial, (ab_vi (by decide)), trivial⟩ ?_
    refine tr_if (fun h4 => ?_) (fun h4 => ?_)
    · refine tr_icF (cd := .ge) (Int32.not_le.mpr h4) ?_
      refine tr_blk 3 (pc' := 24) (rows' := kb_35_9.drop 9) (loc' := [.inr (12, 0, 0, 72), .inl (.long x1), ab_top, .inl (.int x3)]) (st' := [.inl (.int x3), .inr (12, 0, 0, 72), .inl (.long x1)]) (P1 := P) rfl ⟨trivial, trivial, trivial, trivial⟩ ?_
      refine tr_cWI (z := km_150) (av := [.inr (12, 0, 0, 72), .inl (.int x3)]) (st' := [.inl (.long x1)]) rfl rfl rfl (Nat.le_of_ble_eq_true rfl) ⟨rfl, Or.inl (by decide)⟩ rfl (Nat.le_of_ble_eq_true rfl) (t_150 N x3 P) (fun v3 P2 => ?_)
      refine tr_if (fun h5 => ?_) (fun h5 => ?_)
      · refine tr_ifT (cd := .eq) h5 ?_
        refine tr_nil (rows2 := kb_35_36) rfl (List.cons_ne_nil _ _) ?_
        refine tr_blk 1 (pc' := 37) (rows' := kb_35_36.drop 1) (loc' := [.inr (12, 0, 0, 72), .inl (.long x1), ab_top, .inl (.int x3)]) (st' := [.inl (.long (0 : Int64)), .inl (.long x1)]) (P1 := P2) rfl ⟨trivial, trivial⟩ ?_
        refine tr_nil (rows2 := kb_35_37) rfl (List.cons_ne_nil _ _) ?_
        refine tr_blk 3 (pc' := 42) (rows' := kb_35_37.drop 3) (loc' := [.inr (12, 0, 0, 72), .inl (.long (x1 ||| (0 : Int64))), ab_top, .inl (.int (x3 + 1))]) (st' := []) (P1 := P2) rfl ⟨trivial, trivial, trivial, trivial⟩ ?_
        refine tr_goto ?_
        exact ih (x1 ||| (0 : Int64)) (x3 + 1) P2
      · refine tr_ifF (cd := .eq) h5 ?_
        refine tr_blk 3 (pc' := 33) (rows' := kb_35_9.drop 14) (loc' := [.inr (12, 0, 0, 72), .inl (.long x1), ab_top, .inl (.int x3)]) (st' := [.inl (.long ((1 : Int64) <<< ((x3).toInt64 &&& 63))), .inl (.long x1)]) (P1 := P2) rfl ⟨trivial, trivial, trivial, trivial⟩ ?_
        refine tr_goto ?_
        refine tr_nil (rows2 := kb_35_37) rfl (List.cons_ne_nil _ _) ?_
        refine tr_blk 3 (pc' := 42) (rows' := kb_35_37.drop 3) (loc' := [.inr (12, 0, 0, 72), .inl (.long (x1 ||| ((1 : Int64) <<< ((x3).toInt64 &&& 63)))), ab_top, .inl (.int (x3 + 1))]) (st' := []) (P1 := P2) rfl ⟨trivial, trivial, trivial, trivial⟩ ?_
        refine tr_goto ?_
        exact ih (x1 ||| ((1 : Int64) <<< ((x3).toInt64 &&& 63))) (x3 + 1) P2
    · refine tr_icT (cd := .ge) (Int32.not_lt.mp h4) ?_
      refine tr_nil (rows2 := kb_35_45) rfl (List.cons_ne_nil _ _) ?_
      refine tr_blk 1 (pc' := 46) (rows' := kb_35_45.drop 1) (loc' := [.inr (12, 0, 0, 72), .inl (.long x1), ab_top, .inl (.int x3)]) (st' := [.inl (.long x1)]) (P1 := P) rfl ⟨trivial, trivial⟩ ?_
      exact tr_reL (z := km_35) rfl rfl rfl
def f_35 (N : Nat) (P : ab_P) : Option (Int64 × ab_P) :=
    ab_lt (ab_pI P 72 0 (0 : Int32)) fun P1 =>
    f_35_9 N N (0 : Int64) (0 : Int32) P1
theorem t_35 {xs : Nat × (Nat → Int32)} {d : Nat} (N : Nat) : ∀ (P : ab_P), ab_tr xs wL (d + 7) 35 0 [] [.inr (12, 0, 0, 72), ab_top, ab_top, ab_top] [] P (f_35 N P) := by
  intro P
  unfold f_35
  refine tr_nil (rows2 := kb_35_0) rfl (List.cons_ne_nil _ _) ?_
  refine tr_blk 3 (pc' := 5) (rows' := kb_35_0.drop 3) (loc' := [.inr (12, 0, 0, 72), ab_top, ab_top, ab_top]) (st' := []) (P1 := (ab_pI P 72 0 (0 : Int32))) rfl ⟨trivial, trivial, trivial, trivial⟩ ?_
  refine tr_lt (fun P1 => ?_)
  refine tr_blk 4 (pc' := 9) (rows' := kb_35_0.drop 7) (loc' := [.inr (12, 0, 0, 72), .inl (.long (0 : Int64)), ab_top, .inl (.int (0 : Int32))]) (st' := []) (P1 := P1) rfl ⟨trivial, trivial, trivial, trivial, trivial⟩ ?_
  exact t_35_9 N N (0 : Int64) (0 : Int32) P1
def f_151_32 (N : Nat) (x1 : Int32) (x2 : Int32) (x3 : Int32) (s0 : Int32) (P : ab_P) : Option ((Int64 ⊕ Fin 3) × ab_P) :=
    ab_x2 (f_228 s0 P) (fun _ P4 =>
    ab_b2 (f_244 N x1 x2 x3 P4) fun v6 P5 =>
    some (.inl v6, P5)) (fun q => q)
theorem t_151_32 {xs : Nat × (Nat → Int32)} {d : Nat} (N : Nat) : ∀ (x1 : Int32) (x2 : Int32) (x3 : Int32) (s0 : Int32) (P : ab_P), ab_tr xs xL (d + 3) 151 32 [] [.inr (11, 0, 0, 0), .inl (.int x1), .inl (.int x2), .inl (.int x3)] [.inl (.int s0), .inr (11, 0, 0, 0)] P (f_151_32 N x1 x2 x3 s0 P) := by
  intro x1 x2 x3 s0 P
  unfold f_151_32
  refine tr_nil (rows2 := kb_151_32) rfl (List.cons_ne_nil _ _) ?_
  refine tr_cax (fun _ => none) (zi := km_151) (fun _ => rfl) (fun _ _ => rfl) rfl rfl (z := km_228) (av := [.inr (11, 0, 0, 0), .inl (.int s0)]) (st' := []) rfl rfl rfl (Nat.le_of_ble_eq_true rfl) ⟨rfl, Or.inl (by decide)⟩ rfl (Nat.le_of_ble_eq_true rfl) (t_228 s0 P) (fun _ P4 => ?_)
  refine tr_blk 5 (pc' := 42) (rows' := kb_151_32.drop 6) (loc' := [.inr (11, 0, 0, 0), .inl (.int x1), .inl (.int x2), .inl (.int x3)]) (st' := [.inl (.int x3), .inl (.int x2), .inl (.int x1), .inr (8, 0, 0, 49)]) (P1 := P4) rfl ⟨trivial, trivial, trivial, trivial, trivial, trivial⟩ ?_
  refine tr_cWL (z := km_244) (av := [.inr (8, 0, 0, 49), .inl (.int x1), .inl (.int x2), .inl (.int x3)]) (st' := []) rfl rfl rfl (Nat.le_of_ble_eq_true rfl) ⟨rfl, Or.inl (by decide)⟩ rfl (Nat.le_of_ble_eq_true rfl) (t_244 N x1 x2 x3 P4) (fun v6 P5 => ?_)
  exact tr_reL (z := km_151) rfl rfl rfl
def f_151 (N : Nat) (a1 : Int32) (a2 : Int32) (a3 : Int32) (P : ab_P) : Option ((Int64 ⊕ Fin 3) × ab_P) :=
    ab_x2 (f_232 a1 P) (fun _ P1 =>
    ab_x2 (f_232 a2 P1) (fun _ P2 =>
    if a1 = a2 then
      f_151_32 N a1 a2 a3 (0 : Int32) P2
    else
    Option.bind (f_240 P2 a3 (1 : Int32) (999 : Int32)) fun v3 =>
    if v3 = (0 : Int32) then
      f_151_32 N a1 a2 a3 (0 : Int32) P2
    else
    f_151_32 N a1 a2 a3 (1 : Int32) P2) (fun q => q)) (fun q => q)
theorem t_151 {xs : Nat × (Nat → Int32)} {d : Nat} (N : Nat) : ∀ (a1 : Int32) (a2 : Int32) (a3 : Int32) (P : ab_P), ab_tr xs xL (d + 3) 151 0 [] [.inr (11, 0, 0, 0), .inl (.int a1), .inl (.int a2), .inl (.int a3)] [] P (f_151 N a1 a2 a3 P) := by
  intro a1 a2 a3 P
  unfold f_151
  refine tr_nil (rows2 := kb_151_0) rfl (List.cons_ne_nil _ _) ?_
  refine tr_blk 2 (pc' := 2) (rows' := kb_151_0.drop 2) (loc' := [.inr (11, 0, 0, 0), .inl (.int a1), .inl (.int a2), .inl (.int a3)]) (st' := [.inl (.int a1), .inr (11, 0, 0, 0)]) (P1 := P) rfl ⟨trivial, trivial, trivial⟩ ?_
  refine tr_cax (fun _ => none) (zi := km_151) (fun _ => rfl) (fun _ _ => rfl) rfl rfl (z := km_232) (av := [.inr (11, 0, 0, 0), .inl (.int a1)]) (st' := []) rfl rfl rfl (Nat.le_of_ble_eq_true rfl) ⟨rfl, Or.inl (by decide)⟩ rfl (Nat.le_of_ble_eq_true rfl) (t_232 a1 P) (fun _ P1 => ?_)
  refine tr_blk 2 (pc' := 7) (rows' := kb_151_0.drop 5) (loc' := [.inr (11, 0, 0, 0), .inl (.int a1), .inl (.int a2), .inl (.int a3)]) (st' := [.inl (.int a2), .inr (11, 0, 0, 0)]) (P1 := P1) rfl ⟨trivial, trivial, trivial⟩ ?_
  refine tr_cax (fun _ => none) (zi := km_151) (fun _ => rfl) (fun _ _ => rfl) rfl rfl (z := km_232) (av := [.inr (11, 0, 0, 0), .inl (.int a2)]) (st' := []) rfl rfl rfl (Nat.le_of_ble_eq_true rfl) ⟨rfl, Or.inl (by decide)⟩ rfl (Nat.le_of_ble_eq_true rfl) (t_232 a2 P1) (fun _ P2 => ?_)
  refine tr_blk 3 (pc' := 13) (rows' := kb_151_0.drop 9) (loc' := [.inr (11, 0, 0, 0), .inl (.int a1), .inl (.int a2), .inl (.int a3)]) (st' := [.inl (.int a2), .inl (.int a1), .inr (11, 0, 0, 0)]) (P1 := P2) rfl ⟨trivial, trivial, trivial, trivial⟩ ?_
  refine tr_if (fun h7 => ?_) (fun h7 => ?_)
  · refine tr_icT (cd := .eq) h7 ?_
    refine tr_nil (rows2 := kb_151_31) rfl (List.cons_ne_nil _ _) ?_
    refine tr_blk 1 (pc' := 32) (rows' := kb_151_31.drop 1) (loc' := [.inr (11, 0, 0, 0), .inl (.int a1), .inl (.int a2), .inl (.int a3)]) (st' := [.inl (.int (0 : Int32)), .inr (11, 0, 0, 0)]) (P1 := P2) rfl ⟨trivial, trivial⟩ ?_
    exact t_151_32 N a1 a2 a3 (0 : Int32) P2
  · refine tr_icF (cd := .eq) h7 ?_
    refine tr_blk 3 (pc' := 21) (rows' := kb_151_0.drop 13) (loc' := [.inr (11, 0, 0, 0), .inl (.int a1), .inl (.int a2), .inl (.int a3)]) (st' := [.inl (.int (999 : Int32)), .inl (.int (1 : Int32)), .inl (.int a3), .inr (11, 0, 0, 0)]) (P1 := P2) rfl ⟨trivial, trivial, trivial, trivial⟩ ?_
    refine tr_cRI (z := km_240) (av := [.inl (.int a3), .inl (.int (1 : Int32)), .inl (.int (999 : Int32))]) (st' := [.inr (11, 0, 0, 0)]) rfl rfl rfl (Nat.le_of_ble_eq_true rfl) trivial rfl (Nat.le_of_ble_eq_true rfl) (t_240 P2 a3 (1 : Int32) (999 : Int32)) (fun v3 => ?_)
    refine tr_if (fun h8 => ?_) (fun h8 => ?_)
    · refine tr_ifT (cd := .eq) h8 ?_
      refine tr_nil (rows2 := kb_151_31) rfl (List.cons_ne_nil _ _) ?_
      refine tr_blk 1 (pc' := 32) (rows' := kb_151_31.drop 1) (loc' := [.inr (11, 0, 0, 0), .inl (.int a1), .inl (.int a2), .inl (.int a3)]) (st' := [.inl (.int (0 : Int32)), .inr (11, 0, 0, 0)]) (P1 := P2) rfl ⟨trivial, trivial⟩ ?_
      exact t_151_32 N a1 a2 a3 (0 : Int32) P2
    · refine tr_ifF (cd := .eq) h8 ?_
      refine tr_blk 1 (pc' := 28) (rows' := kb_151_0.drop 16) (loc' := [.inr (11, 0, 0, 0), .inl (.int a1), .inl (.int a2), .inl (.int a3)]) (st' := [.inl (.int (1 : Int32)), .inr (11, 0, 0, 0)]) (P1 := P2) rfl ⟨trivial, trivial⟩ ?_
      refine tr_goto ?_
      exact t_151_32 N a1 a2 a3 (1 : Int32) P2
def f_36_1 (N : Nat) (a1 : Int32) (a2 : Int32) (a3 : Int32) (P : ab_P) : Option (Int32 × ab_P) :=
    ab_h2 (f_151 N a1 a2 a3 P) (fun v2 P1 =>
    ab_lt (ab_pL P1 570 0 v2) fun P3 =>
    some ((0 : Int32), P3))
    (fun P9 => some ((1 : Int32), P9)) (fun P9 => some ((2 : Int32), P9)) (fun _ => none)
theorem t_36_1 {xs : Nat × (Nat → Int32)} {d : Nat} (N : Nat) : ∀ (a1 : Int32) (a2 : Int32) (a3 : Int32) (P : ab_P), ab_tr xs wI (d + 4) 36 0 [] [.inr (11, 0, 0, 0), .inl (.int a1), .inl (.int a2), .inl (.int a3), .inr (22, 1, 0, 570), ab_top] [] P (f_36_1 N a1 a2 a3 P) := by
  intro a1 a2 a3 P
  unfold f_36_1
  refine tr_nil (rows2 := kb_36_0) rfl (List.cons_ne_nil _ _) ?_
  refine tr_blk 6 (pc' := 7) (rows' := kb_36_0.drop 6) (loc' := [.inr (11, 0, 0, 0), .inl (.int a1), .inl (.int a2), .inl (.int a3), .inr (22, 1, 0, 570), ab_top]) (st' := [.inl (.int a3), .inl (.int a2), .inl (.int a1), .inr (11, 0, 0, 0), .inl (.int (0 : Int32)), .inr (22, 1, 0, 570)]) (P1 := P) rfl ⟨trivial, trivial, trivial, trivial, trivial, trivial, trivial⟩ ?_
  refine tr_cah (fun b => some (.inl (.long b))) (zi := km_36) (fun _ => rfl) rfl (z := km_151) (av := [.inr (11, 0, 0, 0), .inl (.int a1), .inl (.int a2), .inl (.int a3)]) (st' := [.inl (.int (0 : Int32)), .inr (22, 1, 0, 570)]) rfl rfl rfl (Nat.le_of_ble_eq_true rfl) ⟨rfl, Or.inl (by decide)⟩ rfl (Nat.le_of_ble_eq_true rfl) (t_151 N a1 a2 a3 P) (fun v2 P1 => ?_) ?_ ?_ ?_
  · refine tr_blk 1 (pc' := 11) (rows' := kb_36_0.drop 8) (loc' := [.inr (11, 0, 0, 0), .inl (.int a1), .inl (.int a2), .inl (.int a3), .inr (22, 1, 0, 570), ab_top]) (st' := []) (P1 := (ab_pL P1 570 0 v2)) rfl ⟨(ab_vi (by decide)), trivial⟩ ?_
    refine tr_lt (fun P3 => ?_)
    refine tr_goto ?_
    refine tr_nil (rows2 := kb_36_22) rfl (List.cons_ne_nil _ _) ?_
    refine tr_blk 1 (pc' := 23) (rows' := kb_36_22.drop 1) (loc' := [.inr (11, 0, 0, 0), .inl (.int a1), .inl (.int a2), .inl (.int a3), .inr (22, 1, 0, 570), ab_top]) (st' := [.inl (.int (0 : Int32))]) (P1 := P3) rfl ⟨trivial, trivial⟩ ?_
    exact tr_reI (z := km_36) rfl ⟨_, rfl, rfl⟩ rfl
  · exact fun _ => tr_han (rows2 := kb_36_14) (z := km_36) _ (fun q => [.inr (11, 0, 0, 0), .inl (.int a1), .inl (.int a2), .inl (.int a3), .inr (22, 1, 0, 570), .inr (40, 0, 0, q)]) rfl (List.cons_ne_nil _ _) (fun q => rfl) ⟨trivial, trivial, trivial⟩ rfl ⟨_, rfl, rfl⟩ rfl
  · exact fun _ => tr_han (rows2 := kb_36_18) (z := km_36) _ (fun q => [.inr (11, 0, 0, 0), .inl (.int a1), .inl (.int a2), .inl (.int a3), .inr (22, 1, 0, 570), .inr (40, 1, 0, q)]) rfl (List.cons_ne_nil _ _) (fun q => rfl) ⟨trivial, trivial, trivial⟩ rfl ⟨_, rfl, rfl⟩ rfl
  · exact fun _ => rfl
def f_37_57 (N : Nat) (x1 : Int32) (x2 : Int32) (x3 : Int32) (s0 : Int32) (P : ab_P) : Option (Int64 × ab_P) :=
    ab_b2 (f_113 s0 (2 : Int32) (1 : Int32) P) fun v8 P7 =>
    if v8 = (0 : Int32) then
      ab_b2 (f_152_366 477 N x1 x2 x3 P7) fun v10 P9 =>
      some (v10, P9)
    else
    some ((0 : Int64), P7)
theorem t_37_57 {xs : Nat × (Nat → Int32)} {d : Nat} (N : Nat) : ∀ (x1 : Int32) (x2 : Int32) (x3 : Int32) (s0 : Int32) (P : ab_P), ab_tr xs wL (d + 4) 37 57 [] [.inr (12, 0, 0, 72), .inl (.int x1), .inl (.int x2), .inl (.int x3)] [.inl (.int s0), .inr (12, 0, 0, 72)] P (f_37_57 N x1 x2 x3 s0 P) := by
  intro x1 x2 x3 s0 P
  unfold f_37_57
  refine tr_nil (rows2 := kb_37_57) rfl (List.cons_ne_nil _ _) ?_
  refine tr_blk 2 (pc' := 59) (rows' := kb_37_57.drop 2) (loc' := [.inr (12, 0, 0, 72), .inl (.int x1), .inl (.int x2), .inl (.int x3)]) (st' := [.inl (.int (1 : Int32)), .inl (.int (2 : Int32)), .inl (.int s0), .inr (12, 0, 0, 72)]) (P1 := P) rfl ⟨trivial, trivial, trivial⟩ ?_
  refine tr_cWI (z := km_113) (av := [.inr (12, 0, 0, 72), .inl (.int s0), .inl (.int (2 : Int32)), .inl (.int (1 : Int32))]) (st' := []) rfl rfl rfl (Nat.le_of_ble_eq_true rfl) ⟨rfl, Or.inl (by decide)⟩ rfl (Nat.le_of_ble_eq_true rfl) (t_113 s0 (2 : Int32) (1 : Int32) P) (fun v8 P7 => ?_)
  refine tr_if (fun h11 => ?_) (fun h11 => ?_)
  · refine tr_ifT (cd := .eq) h11 ?_
    refine tr_nil (rows2 := kb_37_67) rfl (List.cons_ne_nil _ _) ?_
    refine tr_blk 6 (pc' := 75) (rows' := kb_37_67.drop 6) (loc' := [.inr (12, 0, 0, 72), .inl (.int x1), .inl (.int x2), .inl (.int x3)]) (st' := [.inl (.int x3), .inl (.int x2), .inl (.int x1), .inr (20, 366, 0, 477), .inr (12, 0, 0, 72)]) (P1 := P7) rfl ⟨trivial, trivial, trivial, trivial, trivial, trivial, trivial⟩ ?_
    refine tr_cWL (z := km_152) (av := [.inr (12, 0, 0, 72), .inr (20, 366, 0, 477), .inl (.int x1), .inl (.int x2), .inl (.int x3)]) (st' := []) rfl rfl rfl (Nat.le_of_ble_eq_true rfl) ⟨rfl, Or.inl (by decide)⟩ rfl (Nat.le_of_ble_eq_true rfl) (t_152_366 477 N x1 x2 x3 P7) (fun v10 P9 => ?_)
    exact tr_reL (z := km_37) rfl rfl rfl
  · refine tr_ifF (cd := .eq) h11 ?_
    refine tr_nil (rows2 := kb_37_65) rfl (List.cons_ne_nil _ _) ?_
    refine tr_blk 1 (pc' := 66) (rows' := kb_37_65.drop 1) (loc' := [.inr (12, 0, 0, 72), .inl (.int x1), .inl (.int x2), .inl (.int x3)]) (st' := [.inl (.long (0 : Int64))]) (P1 := P7) rfl ⟨trivial, trivial⟩ ?_
    exact tr_reL (z := km_37) rfl rfl rfl
def f_37_27 (N : Nat) (x1 : Int32) (x2 : Int32) (x3 : Int32) (s0 : Int32) (P : ab_P) : Option (Int64 × ab_P) :=
    ab_b2 (f_113 s0 (1 : Int32) (0 : Int32) P) fun v5 P4 =>
    if v5 = (0 : Int32) then
      if x1 = x2 then
        f_37_57 N x1 x2 x3 (1 : Int32) P4
      else
      Option.bind (f_112 P4 x3 (1 : Int32) (999 : Int32)) fun v6 =>
      if v6 = (0 : Int32) then
        f_37_57 N x1 x2 x3 (1 : Int32) P4
      else
      f_37_57 N x1 x2 x3 (0 : Int32) P4
    else
    some ((0 : Int64), P4)
theorem t_37_27 {xs : Nat × (Nat → Int32)} {d : Nat} (N : Nat) : ∀ (x1 : Int32) (x2 : Int32) (x3 : Int32) (s0 : Int32) (P : ab_P), ab_tr xs wL (d + 4) 37 27 [] [.inr (12, 0, 0, 72), .inl (.int x1), .inl (.int x2), .inl (.int x3)] [.inl (.int s0), .inr (12, 0, 0, 72)] P (f_37_27 N x1 x2 x3 s0 P) := by
  intro x1 x2 x3 s0 P
  unfold f_37_27
  refine tr_nil (rows2 := kb_37_27) rfl (List.cons_ne_nil _ _) ?_
  refine tr_blk 2 (pc' := 29) (rows' := kb_37_27.drop 2) (loc' := [.inr (12, 0, 0, 72), .inl (.int x1), .inl (.int x2), .inl (.int x3)]) (st' := [.inl (.int (0 : Int32)), .inl (.int (1 : Int32)), .inl (.int s0), .inr (12, 0, 0, 72)]) (P1 := P) rfl ⟨trivial, trivial, trivial⟩ ?_
  refine tr_cWI (z := km_113) (av := [.inr (12, 0, 0, 72), .inl (.int s0), .inl (.int (1 : Int32)), .inl (.int (0 : Int32))]) (st' := []) rfl rfl rfl (Nat.le_of_ble_eq_true rfl) ⟨rfl, Or.inl (by decide)⟩ rfl (Nat.le_of_ble_eq_true rfl) (t_113 s0 (1 : Int32) (0 : Int32) P) (fun v5 P4 => ?_)
  refine tr_if (fun h12 => ?_) (fun h12 => ?_)
  · refine tr_ifF (cd := .ne) (fun q => q h12) ?_
    refine tr_blk 3 (pc' := 38) (rows' := kb_37_27.drop 7) (loc' := [.inr (12, 0, 0, 72), .inl (.int x1), .inl (.int x2), .inl (.int x3)]) (st' := [.inl (.int x2), .inl (.int x1), .inr (12, 0, 0, 72)]) (P1 := P4) rfl ⟨trivial, trivial, trivial, trivial⟩ ?_
    refine tr_if (fun h13 => ?_) (fun h13 => ?_)
    · refine tr_icT (cd := .eq) h13 ?_
      refine tr_nil (rows2 := kb_37_52) rfl (List.cons_ne_nil _ _) ?_
      refine tr_blk 1 (pc' := 53) (rows' := kb_37_52.drop 1) (loc' := [.inr (12, 0, 0, 72), .inl (.int x1), .inl (.int x2), .inl (.int x3)]) (st' := [.inl (.int (1 : Int32)), .inr (12, 0, 0, 72)]) (P1 := P4) rfl ⟨trivial, trivial⟩ ?_
      refine tr_goto ?_
      exact t_37_57 N x1 x2 x3 (1 : Int32) P4
    · refine tr_icF (cd := .eq) h13 ?_
      refine tr_blk 3 (pc' := 46) (rows' := kb_37_27.drop 11) (loc' := [.inr (12, 0, 0, 72), .inl (.int x1), .inl (.int x2), .inl (.int x3)]) (st' := [.inl (.int (999 : Int32)), .inl (.int (1 : Int32)), .inl (.int x3), .inr (12, 0, 0, 72)]) (P1 := P4) rfl ⟨trivial, trivial, trivial, trivial⟩ ?_
      refine tr_cRI (z := km_112) (av := [.inl (.int x3), .inl (.int (1 : Int32)), .inl (.int (999 : Int32))]) (st' := [.inr (12, 0, 0, 72)]) rfl rfl rfl (Nat.le_of_ble_eq_true rfl) trivial rfl (Nat.le_of_ble_eq_true rfl) (t_112 P4 x3 (1 : Int32) (999 : Int32)) (fun v6 => ?_)
      refine tr_if (fun h14 => ?_) (fun h14 => ?_)
      · refine tr_ifF (cd := .ne) (fun q => q h14) ?_
        refine tr_nil (rows2 := kb_37_52) rfl (List.cons_ne_nil _ _) ?_
        refine tr_blk 1 (pc' := 53) (rows' := kb_37_52.drop 1) (loc' := [.inr (12, 0, 0, 72), .inl (.int x1), .inl (.int x2), .inl (.int x3)]) (st' := [.inl (.int (1 : Int32)), .inr (12, 0, 0, 72)]) (P1 := P4) rfl ⟨trivial, trivial⟩ ?_
        refine tr_goto ?_
        exact t_37_57 N x1 x2 x3 (1 : Int32) P4
      · refine tr_ifT (cd := .ne) h14 ?_
        refine tr_nil (rows2 := kb_37_56) rfl (List.cons_ne_nil _ _) ?_
        refine tr_blk 1 (pc' := 57) (rows' := kb_37_56.drop 1) (loc' := [.inr (12, 0, 0, 72), .inl (.int x1), .inl (.int x2), .inl (.int x3)]) (st' := [.inl (.int (0 : Int32)), .inr (12, 0, 0, 72)]) (P1 := P4) rfl ⟨trivial, trivial⟩ ?_
        exact t_37_57 N x1 x2 x3 (0 : Int32) P4
  · refine tr_ifT (cd := .ne) h12 ?_
    refine tr_nil (rows2 := kb_37_65) rfl (List.cons_ne_nil _ _) ?_
    refine tr_blk 1 (pc' := 66) (rows' := kb_37_65.drop 1) (loc' := [.inr (12, 0, 0, 72), .inl (.int x1), .inl (.int x2), .inl (.int x3)]) (st' := [.inl (.long (0 : Int64))]) (P1 := P4) rfl ⟨trivial, trivial⟩ ?_
    exact tr_reL (z := km_37) rfl rfl rfl
def f_37 (N : Nat) (a1 : Int32) (a2 : Int32) (a3 : Int32) (P : ab_P) : Option (Int64 × ab_P) :=
    ab_lt (ab_pI P 72 0 (0 : Int32)) fun P1 =>
    Option.bind (f_137 P1 a1) fun v2 =>
    if v2 = (0 : Int32) then
      f_37_27 N a1 a2 a3 (1 : Int32) P1
    else
    Option.bind (f_137 P1 a2) fun v3 =>
    if v3 = (0 : Int32) then
      f_37_27 N a1 a2 a3 (1 : Int32) P1
    else
    f_37_27 N a1 a2 a3 (0 : Int32) P1
theorem t_37 {xs : Nat × (Nat → Int32)} {d : Nat} (N : Nat) : ∀ (a1 : Int32) (a2 : Int32) (a3 : Int32) (P : ab_P), ab_tr xs wL (d + 4) 37 0 [] [.inr (12, 0, 0, 72), .inl (.int a1), .inl (.int a2), .inl (.int a3)] [] P (f_37 N a1 a2 a3 P) := by
  intro a1 a2 a3 P
  unfold f_37
  refine tr_nil (rows2 := kb_37_0) rfl (List.cons_ne_nil _ _) ?_
  refine tr_blk 3 (pc' := 5) (rows' := kb_37_0.drop 3) (loc' := [.inr (12, 0, 0, 72), .inl (.int a1), .inl (.int a2), .inl (.int a3)]) (st' := []) (P1 := (ab_pI P 72 0 (0 : Int32))) rfl ⟨trivial, trivial, trivial, trivial⟩ ?_
  refine tr_lt (fun P1 => ?_)
  refine tr_blk 3 (pc' := 8) (rows' := kb_37_0.drop 6) (loc' := [.inr (12, 0, 0, 72), .inl (.int a1), .inl (.int a2), .inl (.int a3)]) (st' := [.inl (.int a1), .inr (12, 0, 0, 72), .inr (12, 0, 0, 72)]) (P1 := P1) rfl ⟨trivial, trivial, trivial, trivial⟩ ?_
  refine tr_cRI (z := km_137) (av := [.inr (12, 0, 0, 72), .inl (.int a1)]) (st' := [.inr (12, 0, 0, 72)]) rfl rfl rfl (Nat.le_of_ble_eq_true rfl) ⟨rfl, Or.inl (by decide)⟩ rfl (Nat.le_of_ble_eq_true rfl) (t_137 P1 a1) (fun v2 => ?_)
  refine tr_if (fun h15 => ?_) (fun h15 => ?_)
  · refine tr_ifT (cd := .eq) h15 ?_
    refine tr_nil (rows2 := kb_37_22) rfl (List.cons_ne_nil _ _) ?_
    refine tr_blk 1 (pc' := 23) (rows' := kb_37_22.drop 1) (loc' := [.inr (12, 0, 0, 72), .inl (.int a1), .inl (.int a2), .inl (.int a3)]) (st' := [.inl (.int (1 : Int32)), .inr (12, 0, 0, 72)]) (P1 := P1) rfl ⟨trivial, trivial⟩ ?_
    refine tr_goto ?_
    exact t_37_27 N a1 a2 a3 (1 : Int32) P1
  · refine tr_ifF (cd := .eq) h15 ?_
    refine tr_blk 2 (pc' := 16) (rows' := kb_37_0.drop 10) (loc' := [.inr (12, 0, 0, 72), .inl (.int a1), .inl (.int a2), .inl (.int a3)]) (st' := [.inl (.int a2), .inr (12, 0, 0, 72), .inr (12, 0, 0, 72)]) (P1 := P1) rfl ⟨trivial, trivial, trivial⟩ ?_
    refine tr_cRI (z := km_137) (av := [.inr (12, 0, 0, 72), .inl (.int a2)]) (st' := [.inr (12, 0, 0, 72)]) rfl rfl rfl (Nat.le_of_ble_eq_true rfl) ⟨rfl, Or.inl (by decide)⟩ rfl (Nat.le_of_ble_eq_true rfl) (t_137 P1 a2) (fun v3 => ?_)
    refine tr_if (fun h16 => ?_) (fun h16 => ?_)
    · refine tr_ifF (cd := .ne) (fun q => q h16) ?_
      refine tr_nil (rows2 := kb_37_22) rfl (List.cons_ne_nil _ _) ?_
      refine tr_blk 1 (pc' := 23) (rows' := kb_37_22.drop 1) (loc' := [.inr (12, 0, 0, 72), .inl (.int a1), .inl (.int a2), .inl (.int a3)]) (st' := [.inl (.int (1 : Int32)), .inr (12, 0, 0, 72)]) (P1 := P1) rfl ⟨trivial, trivial⟩ ?_
      refine tr_goto ?_
      exact t_37_27 N a1 a2 a3 (1 : Int32) P1
    · refine tr_ifT (cd := .ne) h16 ?_
      refine tr_nil (rows2 := kb_37_26) rfl (List.cons_ne_nil _ _) ?_
      refine tr_blk 1 (pc' := 27) (rows' := kb_37_26.drop 1) (loc' := [.inr (12, 0, 0, 72), .inl (.int a1), .inl (.int a2), .inl (.int a3)]) (st' := [.inl (.int (0 : Int32)), .inr (12, 0, 0, 72)]) (P1 := P1) rfl ⟨trivial, trivial⟩ ?_
      exact t_37_27 N a1 a2 a3 (0 : Int32) P1
def f_343_313_6 : Nat → Int64 → Int32 → Int32 → ab_P → Option ab_P
  | 0, _, _, _, _ => none
  | n + 1, x1, x3, x4, P =>
    if x3 < x4 then
      if ab_gi x3 313 then
      ab_lt (ab_pL P 50 x3.toNatClampNeg x1) fun P2 =>
      f_343_313_6 n x1 (x3 + 1) x4 P2
      else none
    else
    some P
theorem t_343_313_6 {xs : Nat × (Nat → Int32)} {d : Nat} : ∀ n : Nat, ∀ (x1 : Int64) (x3 : Int32) (x4 : Int32) (P : ab_P), ab_tr xs wV (d + 0) 343 6 [] [.inr (22, 313, 0, 50), .inl (.long x1), ab_top, .inl (.int x3), .inl (.int x4)] [] P (f_343_313_6 n x1 x3 x4 P) := by
  intro n
  induction n with
  | zero => intro x1 x3 x4 P; exact tr_no
  | succ n ih =>
    intro x1 x3 x4 P
    refine tr_nil (rows2 := kb_343_6) rfl (List.cons_ne_nil _ _) ?_
    refine tr_blk 2 (pc' := 9) (rows' := kb_343_6.drop 2) (loc' := [.inr (22, 313, 0, 50), .inl (.long x1), ab_top, .inl (.int x3), .inl (.int x4)]) (st' := [.inl (.int x4), .inl (.int x3)]) (P1 := P) rfl ⟨trivial, trivial, trivial⟩ ?_
    refine tr_if (fun h3 => ?_) (fun h3 => ?_)
    · refine tr_icF (cd := .ge) (Int32.not_le.mpr h3) ?_
      refine tr_gd (fun h1 => ?_)
      refine tr_blk 4 (pc' := 16) (rows' := kb_343_6.drop 7) (loc' := [.inr (22, 313, 0, 50), .inl (.long x1), ab_top, .inl (.int x3), .inl (.int x4)]) (st' := []) (P1 := (ab_pL P 50 x3.toNatClampNeg x1)) rfl ⟨trivial, trivial, trivial, h1, trivial⟩ ?_
      refine tr_lt (fun P2 => ?_)
      refine tr_blk 1 (pc' := 19) (rows' := kb_343_6.drop 8) (loc' := [.inr (22, 313, 0, 50), .inl (.long x1), ab_top, .inl (.int (x3 + 1)), .inl (.int x4)]) (st' := []) (P1 := P2) rfl ⟨trivial, trivial⟩ ?_
      refine tr_goto ?_
      exact ih x1 (x3 + 1) x4 P2
    · refine tr_icT (cd := .ge) (Int32.not_lt.mp h3) ?_
      refine tr_nil (rows2 := kb_343_22) rfl (List.cons_ne_nil _ _) ?_
      exact tr_reV (z := km_343) rfl rfl rfl
def f_343_313 (N : Nat) (a1 : Int64) (P : ab_P) : Option ab_P :=
    f_343_313_6 N a1 (0 : Int32) (313 : Int32) P
theorem t_343_313 {xs : Nat × (Nat → Int32)} {d : Nat} (N : Nat) : ∀ (a1 : Int64) (P : ab_P), ab_tr xs wV (d + 0) 343 0 [] [.inr (22, 313, 0, 50), .inl (.long a1), ab_top, ab_top, ab_top] [] P (f_343_313 N a1 P) := by
  intro a1 P
  unfold f_343_313
  refine tr_nil (rows2 := kb_343_0) rfl (List.cons_ne_nil _ _) ?_
  refine tr_blk 5 (pc' := 6) (rows' := kb_343_0.drop 5) (loc' := [.inr (22, 313, 0, 50), .inl (.long a1), ab_top, .inl (.int (0 : Int32)), .inl (.int (313 : Int32))]) (st' := []) (P1 := P) rfl ⟨trivial, trivial, trivial, (Or.inl (by decide)), trivial, trivial⟩ ?_
  exact t_343_313_6 N a1 (0 : Int32) (313 : Int32) P
def f_344_14 : Nat → Int32 → Int32 → Int32 → ab_P → Option ab_P
  | 0, _, _, _, _ => none
  | n + 1, x3, x4, x5, P =>
    if x5 < x3 then
      some P
    else
    if x5 < (313 : Int32) then
      if x3 < (0 : Int32) then
        some P
      else
      if ab_gi (x5 - x3) 313 then
      if (0 : Int32) < x4 then
        if (0 : Int32) < (x5 - x3) then
          if ab_gi ((x5 - x3) - (1 : Int32)) 313 then
          if ab_gi x5 313 then
          if ab_gi x5 313 then
          ab_lt (ab_pL P 50 x5.toNatClampNeg ((P.2.1 50 x5.toNatClampNeg) ||| (((P.2.1 50 ((x5 - x3)).toNatClampNeg) <<< ((x4).toInt64 &&& 63)) ||| (((P.2.1 50 (((x5 - x3) - (1 : Int32))).toNatClampNeg)).toUInt64 >>> ((((64 : Int32) - x4)).toInt64.toUInt64 &&& Int64.toUInt64 63)).toInt64))) fun P11 =>
          f_344_14 n x3 x4 (x5 + (-1)) P11
          else none
          else none
          else none
        else
        if ab_gi x5 313 then
        if ab_gi x5 313 then
        ab_lt (ab_pL P 50 x5.toNatClampNeg ((P.2.1 50 x5.toNatClampNeg) ||| ((P.2.1 50 ((x5 - x3)).toNatClampNeg) <<< ((x4).toInt64 &&& 63)))) fun P7 =>
        f_344_14 n x3 x4 (x5 + (-1)) P7
        else none
        else none
      else
      if ab_gi x5 313 then
      if ab_gi x5 313 then
      ab_lt (ab_pL P 50 x5.toNatClampNeg ((P.2.1 50 x5.toNatClampNeg) ||| ((P.2.1 50 ((x5 - x3)).toNatClampNeg) <<< ((x4).toInt64 &&& 63)))) fun P4 =>
      f_344_14 n x3 x4 (x5 + (-1)) P4
      else none
      else none
      else none
    else
    some P
theorem t_344_14 {xs : Nat × (Nat → Int32)} {d : Nat} : ∀ n : Nat, ∀ (x3 : Int32) (x4 : Int32) (x5 : Int32) (d1 : Int32) (d2 : Int32) (d6 : ab_V) (d7 : ab_V) (P : ab_P), ab_tr xs wV (d + 0) 344 14 [] [.inr (8, 0, 0, 49), .inl (.int d1), .inl (.int d2), .inl (.int x3), .inl (.int x4), .inl (.int x5), d6, d7, ab_top] [] P (f_344_14 n x3 x4 x5 P) := by
  intro n
  induction n with
  | zero => intro x3 x4 x5 d1 d2 d6 d7 P; exact tr_no
  | succ n ih =>
    intro x3 x4 x5 d1 d2 d6 d7 P
    refine tr_nil (rows2 := kb_344_14) rfl (List.cons_ne_nil _ _) ?_
    refine tr_blk 2 (pc' := 17) (rows' := kb_344_14.drop 2) (loc' := [.inr (8, 0, 0, 49), .inl (.int d1), .inl (.int d2), .inl (.int x3), .inl (.int x4), .inl (.int x5), d6, d7, ab_top]) (st' := [.inl (.int x3), .inl (.int x5)]) (P1 := P) rfl ⟨trivial, trivial, trivial⟩ ?_
    refine tr_if (fun h12 => ?_) (fun h12 => ?_)
    · refine tr_icT (cd := .lt) h12 ?_
      refine tr_nil (rows2 := kb_344_100) rfl (List.cons_ne_nil _ _) ?_
      exact tr_reV (z := km_344) rfl rfl rfl
    · refine tr_icF (cd := .lt) h12 ?_
      refine tr_blk 4 (pc' := 27) (rows' := kb_344_14.drop 7) (loc' := [.inr (8, 0, 0, 49), .inl (.int d1), .inl (.int d2), .inl (.int x3), .inl (.int x4), .inl (.int x5), d6, d7, ab_top]) (st' := [.inl (.int (313 : Int32)), .inl (.int x5)]) (P1 := P) rfl ⟨trivial, trivial, trivial, (Or.inl (by decide)), trivial⟩ ?_
      refine tr_if (fun h13 => ?_) (fun h13 => ?_)
      · refine tr_icF (cd := .ge) (Int32.not_le.mpr h13) ?_
        refine tr_blk 1 (pc' := 31) (rows' := kb_344_14.drop 9) (loc' := [.inr (8, 0, 0, 49), .inl (.int d1), .inl (.int d2), .inl (.int x3), .inl (.int x4), .inl (.int x5), d6, d7, ab_top]) (st' := [.inl (.int x3)]) (P1 := P) rfl ⟨trivial, trivial⟩ ?_
        refine tr_if (fun h14 => ?_) (fun h14 => ?_)
        · refine tr_ifT (cd := .lt) h14 ?_
          refine tr_nil (rows2 := kb_344_100) rfl (List.cons_ne_nil _ _) ?_
          exact tr_reV (z := km_344) rfl rfl rfl
        · refine tr_ifF (cd := .lt) h14 ?_
          refine tr_gd (fun h1 => ?_)
          refine tr_blk 12 (pc' := 54) (rows' := kb_344_14.drop 22) (loc' := [.inr (8, 0, 0, 49), .inl (.int d1), .inl (.int d2), .inl (.int x3), .inl (.int x4), .inl (.int x5), .inl (.int (x5 - x3)), .inl (.long ((P.2.1 50 ((x5 - x3)).toNatClampNeg) <<< ((x4).toInt64 &&& 63))), ab_top]) (st' := [.inl (.int x4)]) (P1 := P) rfl ⟨trivial, trivial, trivial, trivial, trivial, trivial, trivial, h1, trivial, trivial, trivial, trivial, trivial⟩ ?_
          refine tr_if (fun h15 => ?_) (fun h15 => ?_)
          · refine tr_ifF (cd := .le) (Int32.not_le.mpr h15) ?_
            refine tr_blk 1 (pc' := 59) (rows' := kb_344_14.drop 24) (loc' := [.inr (8, 0, 0, 49), .inl (.int d1), .inl (.int d2), .inl (.int x3), .inl (.int x4), .inl (.int x5), .inl (.int (x5 - x3)), .inl (.long ((P.2.1 50 ((x5 - x3)).toNatClampNeg) <<< ((x4).toInt64 &&& 63))), ab_top]) (st' := [.inl (.int (x5 - x3))]) (P1 := P) rfl ⟨trivial, trivial⟩ ?_
            refine tr_if (fun h16 => ?_) (fun h16 => ?_)
            · refine tr_ifF (cd := .le) (Int32.not_le.mpr h16) ?_
              refine tr_gd (fun h8 => ?_)
              refine tr_blk 13 (pc' := 82) (rows' := kb_344_14.drop 38) (loc' := [.inr (8, 0, 0, 49), .inl (.int d1), .inl (.int d2), .inl (.int x3), .inl (.int x4), .inl (.int x5), .inl (.int (x5 - x3)), .inl (.long (((P.2.1 50 ((x5 - x3)).toNatClampNeg) <<< ((x4).toInt64 &&& 63)) ||| (((P.2.1 50 (((x5 - x3) - (1 : Int32))).toNatClampNeg)).toUInt64 >>> ((((64 : Int32) - x4)).toInt64.toUInt64 &&& Int64.toUInt64 63)).toInt64)), ab_top]) (st' := []) (P1 := P) rfl ⟨trivial, trivial, trivial, trivial, trivial, trivial, h8, trivial, trivial, trivial, trivial, trivial, trivial, trivial⟩ ?_
              refine tr_nil (rows2 := kb_344_82) rfl (List.cons_ne_nil _ _) ?_
              refine tr_gd (fun h9 => ?_)
              refine tr_gd (fun h10 => ?_)
              refine tr_blk 8 (pc' := 94) (rows' := kb_344_82.drop 8) (loc' := [.inr (8, 0, 0, 49), .inl (.int d1), .inl (.int d2), .inl (.int x3), .inl (.int x4), .inl (.int x5), .inl (.int (x5 - x3)), .inl (.long (((P.2.1 50 ((x5 - x3)).toNatClampNeg) <<< ((x4).toInt64 &&& 63)) ||| (((P.2.1 50 (((x5 - x3) - (1 : Int32))).toNatClampNeg)).toUInt64 >>> ((((64 : Int32) - x4)).toInt64.toUInt64 &&& Int64.toUInt64 63)).toInt64)), ab_top]) (st' := []) (P1 := (ab_pL P 50 x5.toNatClampNeg ((P.2.1 50 x5.toNatClampNeg) ||| (((P.2.1 50 ((x5 - x3)).toNatClampNeg) <<< ((x4).toInt64 &&& 63)) ||| (((P.2.1 50 (((x5 - x3) - (1 : Int32))).toNatClampNeg)).toUInt64 >>> ((((64 : Int32) - x4)).toInt64.toUInt64 &&& Int64.toUInt64 63)).toInt64)))) rfl ⟨trivial, trivial, trivial, trivial, h9, trivial, trivial, h10, trivial⟩ ?_
              refine tr_lt (fun P11 => ?_)
              refine tr_blk 1 (pc' := 97) (rows' := kb_344_82.drop 9) (loc' := [.inr (8, 0, 0, 49), .inl (.int d1), .inl (.int d2), .inl (.int x3), .inl (.int x4), .inl (.int (x5 + (-1))), .inl (.int (x5 - x3)), .inl (.long (((P.2.1 50 ((x5 - x3)).toNatClampNeg) <<< ((x4).toInt64 &&& 63)) ||| (((P.2.1 50 (((x5 - x3) - (1 : Int32))).toNatClampNeg)).toUInt64 >>> ((((64 : Int32) - x4)).toInt64.toUInt64 &&& Int64.toUInt64 63)).toInt64)), ab_top]) (st' := []) (P1 := P11) rfl ⟨trivial, trivial⟩ ?_
              refine tr_goto ?_
              exact ih x3 x4 (x5 + (-1)) (d1) (d2) (.inl (.int (x5 - x3))) (.inl (.long (((P.2.1 50 ((x5 - x3)).toNatClampNeg) <<< ((x4).toInt64 &&& 63)) ||| (((P.2.1 50 (((x5 - x3) - (1 : Int32))).toNatClampNeg)).toUInt64 >>> ((((64 : Int32) - x4)).toInt64.toUInt64 &&& Int64.toUInt64 63)).toInt64))) P11
            · refine tr_ifT (cd := .le) (Int32.not_lt.mp h16) ?_
              refine tr_nil (rows2 := kb_344_82) rfl (List.cons_ne_nil _ _) ?_
              refine tr_gd (fun h5 => ?_)
              refine tr_gd (fun h6 => ?_)
              refine tr_blk 8 (pc' := 94) (rows' := kb_344_82.drop 8) (loc' := [.inr (8, 0, 0, 49), .inl (.int d1), .inl (.int d2), .inl (.int x3), .inl (.int x4), .inl (.int x5), .inl (.int (x5 - x3)), .inl (.long ((P.2.1 50 ((x5 - x3)).toNatClampNeg) <<< ((x4).toInt64 &&& 63))), ab_top]) (st' := []) (P1 := (ab_pL P 50 x5.toNatClampNeg ((P.2.1 50 x5.toNatClampNeg) ||| ((P.2.1 50 ((x5 - x3)).toNatClampNeg) <<< ((x4).toInt64 &&& 63))))) rfl ⟨trivial, trivial, trivial, trivial, h5, trivial, trivial, h6, trivial⟩ ?_
              refine tr_lt (fun P7 => ?_)
              refine tr_blk 1 (pc' := 97) (rows' := kb_344_82.drop 9) (loc' := [.inr (8, 0, 0, 49), .inl (.int d1), .inl (.int d2), .inl (.int x3), .inl (.int x4), .inl (.int (x5 + (-1))), .inl (.int (x5 - x3)), .inl (.long ((P.2.1 50 ((x5 - x3)).toNatClampNeg) <<< ((x4).toInt64 &&& 63))), ab_top]) (st' := []) (P1 := P7) rfl ⟨trivial, trivial⟩ ?_
              refine tr_goto ?_
              exact ih x3 x4 (x5 + (-1)) (d1) (d2) (.inl (.int (x5 - x3))) (.inl (.long ((P.2.1 50 ((x5 - x3)).toNatClampNeg) <<< ((x4).toInt64 &&& 63)))) P7
          · refine tr_ifT (cd := .le) (Int32.not_lt.mp h15) ?_
            refine tr_nil (rows2 := kb_344_82) rfl (List.cons_ne_nil _ _) ?_
            refine tr_gd (fun h2 => ?_)
            refine tr_gd (fun h3 => ?_)
            refine tr_blk 8 (pc' := 94) (rows' := kb_344_82.drop 8) (loc' := [.inr (8, 0, 0, 49), .inl (.int d1), .inl (.int d2), .inl (.int x3), .inl (.int x4), .inl (.int x5), .inl (.int (x5 - x3)), .inl (.long ((P.2.1 50 ((x5 - x3)).toNatClampNeg) <<< ((x4).toInt64 &&& 63))), ab_top]) (st' := []) (P1 := (ab_pL P 50 x5.toNatClampNeg ((P.2.1 50 x5.toNatClampNeg) ||| ((P.2.1 50 ((x5 - x3)).toNatClampNeg) <<< ((x4).toInt64 &&& 63))))) rfl ⟨trivial, trivial, trivial, trivial, h2, trivial, trivial, h3, trivial⟩ ?_
            refine tr_lt (fun P4 => ?_)
            refine tr_blk 1 (pc' := 97) (rows' := kb_344_82.drop 9) (loc' := [.inr (8, 0, 0, 49), .inl (.int d1), .inl (.int d2), .inl (.int x3), .inl (.int x4), .inl (.int (x5 + (-1))), .inl (.int (x5 - x3)), .inl (.long ((P.2.1 50 ((x5 - x3)).toNatClampNeg) <<< ((x4).toInt64 &&& 63))), ab_top]) (st' := []) (P1 := P4) rfl ⟨trivial, trivial⟩ ?_
            refine tr_goto ?_
            exact ih x3 x4 (x5 + (-1)) (d1) (d2) (.inl (.int (x5 - x3))) (.inl (.long ((P.2.1 50 ((x5 - x3)).toNatClampNeg) <<< ((x4).toInt64 &&& 63)))) P4
      · refine tr_icT (cd := .ge) (Int32.not_lt.mp h13) ?_
        refine tr_nil (rows2 := kb_344_100) rfl (List.cons_ne_nil _ _) ?_
        exact tr_reV (z := km_344) rfl rfl rfl
def f_344 (N : Nat) (a1 : Int32) (a2 : Int32) (P : ab_P) : Option ab_P :=
    f_344_14 N (a1 >>> ((6 : Int32) &&& 31)) (a1 &&& (63 : Int32)) a2 P
theorem t_344 {xs : Nat × (Nat → Int32)} {d : Nat} (N : Nat) : ∀ (a1 : Int32) (a2 : Int32) (P : ab_P), ab_tr xs wV (d + 0) 344 0 [] [.inr (8, 0, 0, 49), .inl (.int a1), .inl (.int a2), ab_top, ab_top, ab_top, ab_top, ab_top, ab_top] [] P (f_344 N a1 a2 P) := by
  intro a1 a2 P
  unfold f_344
  refine tr_nil (rows2 := kb_344_0) rfl (List.cons_ne_nil _ _) ?_
  refine tr_blk 10 (pc' := 14) (rows' := kb_344_0.drop 10) (loc' := [.inr (8, 0, 0, 49), .inl (.int a1), .inl (.int a2), .inl (.int (a1 >>> ((6 : Int32) &&& 31))), .inl (.int (a1 &&& (63 : Int32))), .inl (.int a2), ab_top, ab_top, ab_top]) (st' := []) (P1 := P) rfl ⟨trivial, trivial, trivial, trivial, trivial, trivial, trivial, trivial, trivial, trivial, trivial⟩ ?_
  exact t_344_14 N (a1 >>> ((6 : Int32) &&& 31)) (a1 &&& (63 : Int32)) a2 (a1) (a2) (ab_top) (ab_top) P
def f_301_19 (N : Nat) : Nat → Int32 → Int32 → Int32 → ab_P → Option (Int32 × ab_P)
  | 0, _, _, _, _ => none
  | n + 1, x1, x2, x3, P =>
    if x3 < (P.1 43 2) then
      Option.bind (f_263 43 P x3) fun v3 =>
      if v3 = (0 : Int32) then
        f_301_19 N n x1 x2 (x3 + 1) P
      else
      Option.bind (f_231 43 P (1 : Int32) x3) fun v4 =>
      if v4 = x1 then
        Option.bind (f_231 43 P (2 : Int32) x3) fun v5 =>
        Option.bind (f_231 43 P (2 : Int32) x3) fun v6 =>
        Option.bind (f_344 N v6 (ab_mn ((x2 + v5) / (64 : Int32)) (312 : Int32)) P) fun P7 =>
        f_301_19 N n x1 (x2 + v5) (x3 + 1) P7
      else
      f_301_19 N n x1 x2 (x3 + 1) P
    else
    some (x2, P)
theorem t_301_19 {xs : Nat × (Nat → Int32)} {d : Nat} (N : Nat) : ∀ n : Nat, ∀ (x1 : Int32) (x2 : Int32) (x3 : Int32) (P : ab_P), ab_tr xs wI (d + 2) 301 19 [] [.inr (8, 0, 0, 49), .inl (.int x1), .inl (.int x2), .inl (.int x3)] [] P (f_301_19 N n x1 x2 x3 P) := by
  intro n
  induction n with
  | zero => intro x1 x2 x3 P; exact tr_no
  | succ n ih =>
    intro x1 x2 x3 P
    refine tr_nil (rows2 := kb_301_19) rfl (List.cons_ne_nil _ _) ?_
    refine tr_blk 4 (pc' := 27) (rows' := kb_301_19.drop 4) (loc' := [.inr (8, 0, 0, 49), .inl (.int x1), .inl (.int x2), .inl (.int x3)]) (st' := [.inl (.int (P.1 43 2)), .inl (.int x3)]) (P1 := P) rfl ⟨trivial, trivial, trivial, trivial, trivial⟩ ?_
    refine tr_if (fun h8 => ?_) (fun h8 => ?_)
    · refine tr_icF (cd := .ge) (Int32.not_le.mpr h8) ?_
      refine tr_blk 3 (pc' := 35) (rows' := kb_301_19.drop 8) (loc' := [.inr (8, 0, 0, 49), .inl (.int x1), .inl (.int x2), .inl (.int x3)]) (st' := [.inl (.int x3), .inr (6, 0, 0, 43)]) (P1 := P) rfl ⟨trivial, trivial, trivial, trivial⟩ ?_
      refine tr_cRI (z := km_263) (av := [.inr (6, 0, 0, 43), .inl (.int x3)]) (st' := []) rfl rfl rfl (Nat.le_of_ble_eq_true rfl) ⟨rfl, Or.inl (by decide)⟩ rfl (Nat.le_of_ble_eq_true rfl) (t_263 43 P x3) (fun v3 => ?_)
      refine tr_if (fun h9 => ?_) (fun h9 => ?_)
      · refine tr_ifT (cd := .eq) h9 ?_
        refine tr_nil (rows2 := kb_301_89) rfl (List.cons_ne_nil _ _) ?_
        refine tr_blk 1 (pc' := 92) (rows' := kb_301_89.drop 1) (loc' := [.inr (8, 0, 0, 49), .inl (.int x1), .inl (.int x2), .inl (.int (x3 + 1))]) (st' := []) (P1 := P) rfl ⟨trivial, trivial⟩ ?_
        refine tr_goto ?_
        exact ih x1 x2 (x3 + 1) P
      · refine tr_ifF (cd := .eq) h9 ?_
        refine tr_blk 4 (pc' := 47) (rows' := kb_301_19.drop 14) (loc' := [.inr (8, 0, 0, 49), .inl (.int x1), .inl (.int x2), .inl (.int x3)]) (st' := [.inl (.int x3), .inl (.int (1 : Int32)), .inr (6, 0, 0, 43)]) (P1 := P) rfl ⟨trivial, trivial, trivial, trivial, trivial⟩ ?_
        refine tr_cRI (z := km_231) (av := [.inr (6, 0, 0, 43), .inl (.int (1 : Int32)), .inl (.int x3)]) (st' := []) rfl rfl rfl (Nat.le_of_ble_eq_true rfl) ⟨rfl, Or.inl (by decide)⟩ rfl (Nat.le_of_ble_eq_true rfl) (t_231 43 P (1 : Int32) x3) (fun v4 => ?_)
        refine tr_blk 1 (pc' := 51) (rows' := kb_301_19.drop 16) (loc' := [.inr (8, 0, 0, 49), .inl (.int x1), .inl (.int x2), .inl (.int x3)]) (st' := [.inl (.int x1), .inl (.int v4)]) (P1 := P) rfl ⟨trivial, trivial⟩ ?_
        refine tr_if (fun h10 => ?_) (fun h10 => ?_)
        · refine tr_icF (cd := .ne) (fun q => q h10) ?_
          refine tr_blk 5 (pc' := 61) (rows' := kb_301_19.drop 22) (loc' := [.inr (8, 0, 0, 49), .inl (.int x1), .inl (.int x2), .inl (.int x3)]) (st' := [.inl (.int x3), .inl (.int (2 : Int32)), .inr (6, 0, 0, 43), .inl (.int x2)]) (P1 := P) rfl ⟨trivial, trivial, trivial, trivial, trivial, trivial⟩ ?_
          refine tr_cRI (z := km_231) (av := [.inr (6, 0, 0, 43), .inl (.int (2 : Int32)), .inl (.int x3)]) (st' := [.inl (.int x2)]) rfl rfl rfl (Nat.le_of_ble_eq_true rfl) ⟨rfl, Or.inl (by decide)⟩ rfl (Nat.le_of_ble_eq_true rfl) (t_231 43 P (2 : Int32) x3) (fun v5 => ?_)
          refine tr_blk 7 (pc' := 73) (rows' := kb_301_19.drop 30) (loc' := [.inr (8, 0, 0, 49), .inl (.int x1), .inl (.int (x2 + v5)), .inl (.int x3)]) (st' := [.inl (.int x3), .inl (.int (2 : Int32)), .inr (6, 0, 0, 43), .inr (8, 0, 0, 49)]) (P1 := P) rfl ⟨trivial, trivial, trivial, trivial, trivial, trivial, trivial, trivial⟩ ?_
          refine tr_cRI (z := km_231) (av := [.inr (6, 0, 0, 43), .inl (.int (2 : Int32)), .inl (.int x3)]) (st' := [.inr (8, 0, 0, 49)]) rfl rfl rfl (Nat.le_of_ble_eq_true rfl) ⟨rfl, Or.inl (by decide)⟩ rfl (Nat.le_of_ble_eq_true rfl) (t_231 43 P (2 : Int32) x3) (fun v6 => ?_)
          refine tr_blk 5 (pc' := 86) (rows' := kb_301_19.drop 36) (loc' := [.inr (8, 0, 0, 49), .inl (.int x1), .inl (.int (x2 + v5)), .inl (.int x3)]) (st' := [.inl (.int (ab_mn ((x2 + v5) / (64 : Int32)) (312 : Int32))), .inl (.int v6), .inr (8, 0, 0, 49)]) (P1 := P) rfl ⟨trivial, trivial, (by decide), trivial, (Nat.le_of_ble_eq_true rfl), trivial⟩ ?_
          refine tr_cWV (z := km_344) (av := [.inr (8, 0, 0, 49), .inl (.int v6), .inl (.int (ab_mn ((x2 + v5) / (64 : Int32)) (312 : Int32)))]) (st' := []) rfl rfl rfl (Nat.le_of_ble_eq_true rfl) ⟨rfl, Or.inl (by decide)⟩ rfl (Nat.le_of_ble_eq_true rfl) (t_344 N v6 (ab_mn ((x2 + v5) / (64 : Int32)) (312 : Int32)) P) (fun P7 => ?_)
          refine tr_nil (rows2 := kb_301_89) rfl (List.cons_ne_nil _ _) ?_
          refine tr_blk 1 (pc' := 92) (rows' := kb_301_89.drop 1) (loc' := [.inr (8, 0, 0, 49), .inl (.int x1), .inl (.int (x2 + v5)), .inl (.int (x3 + 1))]) (st' := []) (P1 := P7) rfl ⟨trivial, trivial⟩ ?_
          refine tr_goto ?_
          exact ih x1 (x2 + v5) (x3 + 1) P7
        · refine tr_icT (cd := .ne) h10 ?_
          refine tr_nil (rows2 := kb_301_89) rfl (List.cons_ne_nil _ _) ?_
          refine tr_blk 1 (pc' := 92) (rows' := kb_301_89.drop 1) (loc' := [.inr (8, 0, 0, 49), .inl (.int x1), .inl (.int x2), .inl (.int (x3 + 1))]) (st' := []) (P1 := P) rfl ⟨trivial, trivial⟩ ?_
          refine tr_goto ?_
          exact ih x1 x2 (x3 + 1) P
    · refine tr_icT (cd := .ge) (Int32.not_lt.mp h8) ?_
      refine tr_nil (rows2 := kb_301_95) rfl (List.cons_ne_nil _ _) ?_
      refine tr_blk 1 (pc' := 96) (rows' := kb_301_95.drop 1) (loc' := [.inr (8, 0, 0, 49), .inl (.int x1), .inl (.int x2), .inl (.int x3)]) (st' := [.inl (.int x2)]) (P1 := P) rfl ⟨trivial, trivial⟩ ?_
      exact tr_reI (z := km_301) rfl ⟨_, rfl, rfl⟩ rfl
def f_301 (N : Nat) (a1 : Int32) (P : ab_P) : Option (Int32 × ab_P) :=
    Option.bind (f_343_313 N (0 : Int64) P) fun P1 =>
    ab_lt (ab_pL P1 50 0 (1 : Int64)) fun P2 =>
    f_301_19 N N a1 (0 : Int32) (0 : Int32) P2
theorem t_301 {xs : Nat × (Nat → Int32)} {d : Nat} (N : Nat) : ∀ (a1 : Int32) (P : ab_P), ab_tr xs wI (d + 2) 301 0 [] [.inr (8, 0, 0, 49), .inl (.int a1), ab_top, ab_top] [] P (f_301 N a1 P) := by
  intro a1 P
  unfold f_301
  refine tr_nil (rows2 := kb_301_0) rfl (List.cons_ne_nil _ _) ?_
  refine tr_blk 3 (pc' := 5) (rows' := kb_301_0.drop 3) (loc' := [.inr (8, 0, 0, 49), .inl (.int a1), ab_top, ab_top]) (st' := [.inl (.long (0 : Int64)), .inr (22, 313, 0, 50)]) (P1 := P) rfl ⟨trivial, trivial, trivial, trivial⟩ ?_
  refine tr_cWV (z := km_343) (av := [.inr (22, 313, 0, 50), .inl (.long (0 : Int64))]) (st' := []) rfl rfl rfl (Nat.le_of_ble_eq_true rfl) trivial rfl (Nat.le_of_ble_eq_true rfl) (t_343_313 N (0 : Int64) P) (fun P1 => ?_)
  refine tr_blk 5 (pc' := 15) (rows' := kb_301_0.drop 9) (loc' := [.inr (8, 0, 0, 49), .inl (.int a1), ab_top, ab_top]) (st' := []) (P1 := (ab_pL P1 50 0 (1 : Int64))) rfl ⟨trivial, trivial, trivial, trivial, (ab_vi (by decide)), trivial⟩ ?_
  refine tr_lt (fun P2 => ?_)
  refine tr_blk 4 (pc' := 19) (rows' := kb_301_0.drop 13) (loc' := [.inr (8, 0, 0, 49), .inl (.int a1), .inl (.int (0 : Int32)), .inl (.int (0 : Int32))]) (st' := []) (P1 := P2) rfl ⟨trivial, trivial, trivial, trivial, trivial⟩ ?_
  exact t_301_19 N N a1 (0 : Int32) (0 : Int32) P2
def f_302 (P : ab_P) (a1 : Int32) : Option Int32 :=
    if a1 < (0 : Int32) then
      some (0 : Int32)
    else
    if a1 < (20032 : Int32) then
      if ab_gi (a1 >>> ((6 : Int32) &&& 31)) 313 then
      if (lg_cmp ((((P.2.1 50 ((a1 >>> ((6 : Int32) &&& 31))).toNatClampNeg)).toUInt64 >>> (((a1 &&& (63 : Int32))).toInt64.toUInt64 &&& Int64.toUInt64 63)).toInt64 &&& (1 : Int64)) (0 : Int64)) = (0 : Int32) then
        some (0 : Int32)
      else
      some (1 : Int32)
      else none
    else
    some (0 : Int32)
theorem t_302 {xs : Nat × (Nat → Int32)} {d : Nat} (P : ab_P) : ∀ (a1 : Int32), ab_tr xs (rI P) (d + 0) 302 0 [] [.inr (8, 0, 0, 49), .inl (.int a1)] [] P (f_302 P a1) := by
  intro a1
  unfold f_302
  refine tr_nil (rows2 := kb_302_0) rfl (List.cons_ne_nil _ _) ?_
  refine tr_blk 1 (pc' := 1) (rows' := kb_302_0.drop 1) (loc' := [.inr (8, 0, 0, 49), .inl (.int a1)]) (st' := [.inl (.int a1)]) (P1 := P) rfl ⟨trivial, trivial⟩ ?_
  refine tr_if (fun h2 => ?_) (fun h2 => ?_)
  · refine tr_ifT (cd := .lt) h2 ?_
    refine tr_nil (rows2 := kb_302_36) rfl (List.cons_ne_nil _ _) ?_
    refine tr_blk 1 (pc' := 37) (rows' := kb_302_36.drop 1) (loc' := [.inr (8, 0, 0, 49), .inl (.int a1)]) (st' := [.inl (.int (0 : Int32))]) (P1 := P) rfl ⟨trivial, trivial⟩ ?_
    refine tr_nil (rows2 := kb_302_37) rfl (List.cons_ne_nil _ _) ?_
    exact tr_reI (z := km_302) rfl ⟨_, rfl, rfl⟩ rfl
  · refine tr_ifF (cd := .lt) h2 ?_
    refine tr_blk 2 (pc' := 8) (rows' := kb_302_0.drop 4) (loc' := [.inr (8, 0, 0, 49), .inl (.int a1)]) (st' := [.inl (.int (20032 : Int32)), .inl (.int a1)]) (P1 := P) rfl ⟨trivial, trivial, trivial⟩ ?_
    refine tr_if (fun h3 => ?_) (fun h3 => ?_)
    · refine tr_icF (cd := .ge) (Int32.not_le.mpr h3) ?_
      refine tr_gd (fun h1 => ?_)
      refine tr_blk 14 (pc' := 29) (rows' := kb_302_0.drop 19) (loc' := [.inr (8, 0, 0, 49), .inl (.int a1)]) (st' := [.inl (.int (lg_cmp ((((P.2.1 50 ((a1 >>> ((6 : Int32) &&& 31))).toNatClampNeg)).toUInt64 >>> (((a1 &&& (63 : Int32))).toInt64.toUInt64 &&& Int64.toUInt64 63)).toInt64 &&& (1 : Int64)) (0 : Int64)))]) (P1 := P) rfl ⟨trivial, trivial, trivial, trivial, trivial, h1, trivial, trivial, trivial, trivial, trivial, trivial, trivial, trivial, trivial⟩ ?_
      refine tr_if (fun h4 => ?_) (fun h4 => ?_)
      · refine tr_ifT (cd := .eq) h4 ?_
        refine tr_nil (rows2 := kb_302_36) rfl (List.cons_ne_nil _ _) ?_
        refine tr_blk 1 (pc' := 37) (rows' := kb_302_36.drop 1) (loc' := [.inr (8, 0, 0, 49), .inl (.int a1)]) (st' := [.inl (.int (0 : Int32))]) (P1 := P) rfl ⟨trivial, trivial⟩ ?_
        refine tr_nil (rows2 := kb_302_37) rfl (List.cons_ne_nil _ _) ?_
        exact tr_reI (z := km_302) rfl ⟨_, rfl, rfl⟩ rfl
      · refine tr_ifF (cd := .eq) h4 ?_
        refine tr_blk 1 (pc' := 33) (rows' := kb_302_0.drop 21) (loc' := [.inr (8, 0, 0, 49), .inl (.int a1)]) (st' := [.inl (.int (1 : Int32))]) (P1 := P) rfl ⟨trivial, trivial⟩ ?_
        refine tr_goto ?_
        refine tr_nil (rows2 := kb_302_37) rfl (List.cons_ne_nil _ _) ?_
        exact tr_reI (z := km_302) rfl ⟨_, rfl, rfl⟩ rfl
    · refine tr_icT (cd := .ge) (Int32.not_lt.mp h3) ?_
      refine tr_nil (rows2 := kb_302_36) rfl (List.cons_ne_nil _ _) ?_
      refine tr_blk 1 (pc' := 37) (rows' := kb_302_36.drop 1) (loc' := [.inr (8, 0, 0, 49), .inl (.int a1)]) (st' := [.inl (.int (0 : Int32))]) (P1 := P) rfl ⟨trivial, trivial⟩ ?_
      refine tr_nil (rows2 := kb_302_37) rfl (List.cons_ne_nil _ _) ?_
      exact tr_reI (z := km_302) rfl ⟨_, rfl, rfl⟩ rfl
def f_246_9 : Nat → Int32 → Int32 → ab_P → Option (Int32 × ab_P)
  | 0, _, _, _ => none
  | n + 1, x3, x4, P =>
    if x4 < (20032 : Int32) then
      if x3 < x4 then
        some ((-1 : Int32), P)
      else
      Option.bind (f_302 P x4) fun v3 =>
      if v3 = (0 : Int32) then
        f_246_9 n x3 (x4 + 1) P
      else
      some (x4, P)
    else
    some ((-1 : Int32), P)
theorem t_246_9 {xs : Nat × (Nat → Int32)} {d : Nat} : ∀ n : Nat, ∀ (x3 : Int32) (x4 : Int32) (d1 : Int32) (d2 : Int32) (P : ab_P), ab_tr xs wI (d + 3) 246 9 [] [.inr (8, 0, 0, 49), .inl (.int d1), .inl (.int d2), .inl (.int x3), .inl (.int x4)] [] P (f_246_9 n x3 x4 P) := by
  intro n
  induction n with
  | zero => intro x3 x4 d1 d2 P; exact tr_no
  | succ n ih =>
    intro x3 x4 d1 d2 P
    refine tr_nil (rows2 := kb_246_9) rfl (List.cons_ne_nil _ _) ?_
    refine tr_blk 2 (pc' := 14) (rows' := kb_246_9.drop 2) (loc' := [.inr (8, 0, 0, 49), .inl (.int d1), .inl (.int d2), .inl (.int x3), .inl (.int x4)]) (st' := [.inl (.int (20032 : Int32)), .inl (.int x4)]) (P1 := P) rfl ⟨trivial, trivial, trivial⟩ ?_
    refine tr_if (fun h4 => ?_) (fun h4 => ?_)
    · refine tr_icF (cd := .ge) (Int32.not_le.mpr h4) ?_
      refine tr_blk 2 (pc' := 20) (rows' := kb_246_9.drop 5) (loc' := [.inr (8, 0, 0, 49), .inl (.int d1), .inl (.int d2), .inl (.int x3), .inl (.int x4)]) (st' := [.inl (.int x3), .inl (.int x4)]) (P1 := P) rfl ⟨trivial, trivial, trivial⟩ ?_
      refine tr_if (fun h5 => ?_) (fun h5 => ?_)
      · refine tr_icT (cd := .gt) h5 ?_
        refine tr_nil (rows2 := kb_246_41) rfl (List.cons_ne_nil _ _) ?_
        refine tr_blk 1 (pc' := 42) (rows' := kb_246_41.drop 1) (loc' := [.inr (8, 0, 0, 49), .inl (.int d1), .inl (.int d2), .inl (.int x3), .inl (.int x4)]) (st' := [.inl (.int (-1 : Int32))]) (P1 := P) rfl ⟨trivial, trivial⟩ ?_
        exact tr_reI (z := km_246) rfl ⟨_, rfl, rfl⟩ rfl
      · refine tr_icF (cd := .gt) h5 ?_
        refine tr_blk 2 (pc' := 26) (rows' := kb_246_9.drop 8) (loc' := [.inr (8, 0, 0, 49), .inl (.int d1), .inl (.int d2), .inl (.int x3), .inl (.int x4)]) (st' := [.inl (.int x4), .inr (8, 0, 0, 49)]) (P1 := P) rfl ⟨trivial, trivial, trivial⟩ ?_
        refine tr_cRI (z := km_302) (av := [.inr (8, 0, 0, 49), .inl (.int x4)]) (st' := []) rfl rfl rfl (Nat.le_of_ble_eq_true rfl) ⟨rfl, Or.inl (by decide)⟩ rfl (Nat.le_of_ble_eq_true rfl) (t_302 P x4) (fun v3 => ?_)
        refine tr_if (fun h6 => ?_) (fun h6 => ?_)
        · refine tr_ifT (cd := .eq) h6 ?_
          refine tr_nil (rows2 := kb_246_35) rfl (List.cons_ne_nil _ _) ?_
          refine tr_blk 1 (pc' := 38) (rows' := kb_246_35.drop 1) (loc' := [.inr (8, 0, 0, 49), .inl (.int d1), .inl (.int d2), .inl (.int x3), .inl (.int (x4 + 1))]) (st' := []) (P1 := P) rfl ⟨trivial, trivial⟩ ?_
          refine tr_goto ?_
          exact ih x3 (x4 + 1) (d1) (d2) P
        · refine tr_ifF (cd := .eq) h6 ?_
          refine tr_blk 1 (pc' := 34) (rows' := kb_246_9.drop 11) (loc' := [.inr (8, 0, 0, 49), .inl (.int d1), .inl (.int d2), .inl (.int x3), .inl (.int x4)]) (st' := [.inl (.int x4)]) (P1 := P) rfl ⟨trivial, trivial⟩ ?_
          exact tr_reI (z := km_246) rfl ⟨_, rfl, rfl⟩ rfl
    · refine tr_icT (cd := .ge) (Int32.not_lt.mp h4) ?_
      refine tr_nil (rows2 := kb_246_41) rfl (List.cons_ne_nil _ _) ?_
      refine tr_blk 1 (pc' := 42) (rows' := kb_246_41.drop 1) (loc' := [.inr (8, 0, 0, 49), .inl (.int d1), .inl (.int d2), .inl (.int x3), .inl (.int x4)]) (st' := [.inl (.int (-1 : Int32))]) (P1 := P) rfl ⟨trivial, trivial⟩ ?_
      exact tr_reI (z := km_246) rfl ⟨_, rfl, rfl⟩ rfl
def f_246 (N : Nat) (a1 : Int32) (a2 : Int32) (P : ab_P) : Option (Int32 × ab_P) :=
    ab_b2 (f_301 N a1 P) fun v2 P1 =>
    f_246_9 N v2 a2 P1
theorem t_246 {xs : Nat × (Nat → Int32)} {d : Nat} (N : Nat) : ∀ (a1 : Int32) (a2 : Int32) (P : ab_P), ab_tr xs wI (d + 3) 246 0 [] [.inr (8, 0, 0, 49), .inl (.int a1), .inl (.int a2), ab_top, ab_top] [] P (f_246 N a1 a2 P) := by
  intro a1 a2 P
  unfold f_246
  refine tr_nil (rows2 := kb_246_0) rfl (List.cons_ne_nil _ _) ?_
  refine tr_blk 2 (pc' := 2) (rows' := kb_246_0.drop 2) (loc' := [.inr (8, 0, 0, 49), .inl (.int a1), .inl (.int a2), ab_top, ab_top]) (st' := [.inl (.int a1), .inr (8, 0, 0, 49)]) (P1 := P) rfl ⟨trivial, trivial, trivial⟩ ?_
  refine tr_cWI (z := km_301) (av := [.inr (8, 0, 0, 49), .inl (.int a1)]) (st' := []) rfl rfl rfl (Nat.le_of_ble_eq_true rfl) ⟨rfl, Or.inl (by decide)⟩ rfl (Nat.le_of_ble_eq_true rfl) (t_301 N a1 P) (fun v2 P1 => ?_)
  refine tr_blk 3 (pc' := 9) (rows' := kb_246_0.drop 6) (loc' := [.inr (8, 0, 0, 49), .inl (.int a1), .inl (.int a2), .inl (.int v2), .inl (.int a2)]) (st' := []) (P1 := P1) rfl ⟨trivial, trivial, trivial, trivial⟩ ?_
  exact t_246_9 N v2 a2 (a1) (a2) P1
def f_153 (N : Nat) (a1 : Int32) (a2 : Int32) (P : ab_P) : Option ((Int32 ⊕ Fin 3) × ab_P) :=
    ab_x2 (f_232 a1 P) (fun _ P1 =>
    Option.bind (f_240 P1 a2 (0 : Int32) (9999 : Int32)) fun v2 =>
    ab_x2 (f_228 v2 P1) (fun _ P3 =>
    ab_b2 (f_246 N a1 a2 P3) fun v5 P4 =>
    some (.inl v5, P4)) (fun q => q)) (fun q => q)
theorem t_153 {xs : Nat × (Nat → Int32)} {d : Nat} (N : Nat) : ∀ (a1 : Int32) (a2 : Int32) (P : ab_P), ab_tr xs xI (d + 4) 153 0 [] [.inr (11, 0, 0, 0), .inl (.int a1), .inl (.int a2)] [] P (f_153 N a1 a2 P) := by
  intro a1 a2 P
  unfold f_153
  refine tr_nil (rows2 := kb_153_0) rfl (List.cons_ne_nil _ _) ?_
  refine tr_blk 2 (pc' := 2) (rows' := kb_153_0.drop 2) (loc' := [.inr (11, 0, 0, 0), .inl (.int a1), .inl (.int a2)]) (st' := [.inl (.int a1), .inr (11, 0, 0, 0)]) (P1 := P) rfl ⟨trivial, trivial, trivial⟩ ?_
  refine tr_cax (fun _ => none) (zi := km_153) (fun _ => rfl) (fun _ _ => rfl) rfl rfl (z := km_232) (av := [.inr (11, 0, 0, 0), .inl (.int a1)]) (st' := []) rfl rfl rfl (Nat.le_of_ble_eq_true rfl) ⟨rfl, Or.inl (by decide)⟩ rfl (Nat.le_of_ble_eq_true rfl) (t_232 a1 P) (fun _ P1 => ?_)
  refine tr_blk 4 (pc' := 11) (rows' := kb_153_0.drop 7) (loc' := [.inr (11, 0, 0, 0), .inl (.int a1), .inl (.int a2)]) (st' := [.inl (.int (9999 : Int32)), .inl (.int (0 : Int32)), .inl (.int a2), .inr (11, 0, 0, 0)]) (P1 := P1) rfl ⟨trivial, trivial, trivial, trivial, trivial⟩ ?_
  refine tr_cRI (z := km_240) (av := [.inl (.int a2), .inl (.int (0 : Int32)), .inl (.int (9999 : Int32))]) (st' := [.inr (11, 0, 0, 0)]) rfl rfl rfl (Nat.le_of_ble_eq_true rfl) trivial rfl (Nat.le_of_ble_eq_true rfl) (t_240 P1 a2 (0 : Int32) (9999 : Int32)) (fun v2 => ?_)
  refine tr_cax (fun _ => none) (zi := km_153) (fun _ => rfl) (fun _ _ => rfl) rfl rfl (z := km_228) (av := [.inr (11, 0, 0, 0), .inl (.int v2)]) (st' := []) rfl rfl rfl (Nat.le_of_ble_eq_true rfl) ⟨rfl, Or.inl (by decide)⟩ rfl (Nat.le_of_ble_eq_true rfl) (t_228 v2 P1) (fun _ P3 => ?_)
  refine tr_blk 4 (pc' := 23) (rows' := kb_153_0.drop 13) (loc' := [.inr (11, 0, 0, 0), .inl (.int a1), .inl (.int a2)]) (st' := [.inl (.int a2), .inl (.int a1), .inr (8, 0, 0, 49)]) (P1 := P3) rfl ⟨trivial, trivial, trivial, trivial, trivial⟩ ?_
  refine tr_cWI (z := km_246) (av := [.inr (8, 0, 0, 49), .inl (.int a1), .inl (.int a2)]) (st' := []) rfl rfl rfl (Nat.le_of_ble_eq_true rfl) ⟨rfl, Or.inl (by decide)⟩ rfl (Nat.le_of_ble_eq_true rfl) (t_246 N a1 a2 P3) (fun v5 P4 => ?_)
  exact tr_reI (z := km_153) rfl ⟨_, rfl, rfl⟩ rfl
def f_38_1 (N : Nat) (a1 : Int32) (a2 : Int32) (P : ab_P) : Option (Int32 × ab_P) :=
    ab_h2 (f_153 N a1 a2 P) (fun v2 P1 =>
    ab_lt (ab_pL P1 570 0 (v2).toInt64) fun P3 =>
    some ((0 : Int32), P3))
    (fun P9 => some ((1 : Int32), P9)) (fun P9 => some ((2 : Int32), P9)) (fun _ => none)
theorem t_38_1 {xs : Nat × (Nat → Int32)} {d : Nat} (N : Nat) : ∀ (a1 : Int32) (a2 : Int32) (P : ab_P), ab_tr xs wI (d + 5) 38 0 [] [.inr (11, 0, 0, 0), .inl (.int a1), .inl (.int a2), .inr (22, 1, 0, 570), ab_top] [] P (f_38_1 N a1 a2 P) := by
  intro a1 a2 P
  unfold f_38_1
  refine tr_nil (rows2 := kb_38_0) rfl (List.cons_ne_nil _ _) ?_
  refine tr_blk 5 (pc' := 5) (rows' := kb_38_0.drop 5) (loc' := [.inr (11, 0, 0, 0), .inl (.int a1), .inl (.int a2), .inr (22, 1, 0, 570), ab_top]) (st' := [.inl (.int a2), .inl (.int a1), .inr (11, 0, 0, 0), .inl (.int (0 : Int32)), .inr (22, 1, 0, 570)]) (P1 := P) rfl ⟨trivial, trivial, trivial, trivial, trivial, trivial⟩ ?_
  refine tr_cah (fun b => some (.inl (.int b))) (zi := km_38) (fun _ => rfl) rfl (z := km_153) (av := [.inr (11, 0, 0, 0), .inl (.int a1), .inl (.int a2)]) (st' := [.inl (.int (0 : Int32)), .inr (22, 1, 0, 570)]) rfl rfl rfl (Nat.le_of_ble_eq_true rfl) ⟨rfl, Or.inl (by decide)⟩ rfl (Nat.le_of_ble_eq_true rfl) (t_153 N a1 a2 P) (fun v2 P1 => ?_) ?_ ?_ ?_
  · refine tr_blk 2 (pc' := 10) (rows' := kb_38_0.drop 8) (loc' := [.inr (11, 0, 0, 0), .inl (.int a1), .inl (.int a2), .inr (22, 1, 0, 570), ab_top]) (st' := []) (P1 := (ab_pL P1 570 0 (v2).toInt64)) rfl ⟨trivial, (ab_vi (by decide)), trivial⟩ ?_
    refine tr_lt (fun P3 => ?_)
    refine tr_goto ?_
    refine tr_nil (rows2 := kb_38_21) rfl (List.cons_ne_nil _ _) ?_
    refine tr_blk 1 (pc' := 22) (rows' := kb_38_21.drop 1) (loc' := [.inr (11, 0, 0, 0), .inl (.int a1), .inl (.int a2), .inr (22, 1, 0, 570), ab_top]) (st' := [.inl (.int (0 : Int32))]) (P1 := P3) rfl ⟨trivial, trivial⟩ ?_
    exact tr_reI (z := km_38) rfl ⟨_, rfl, rfl⟩ rfl
  · exact fun _ => tr_han (rows2 := kb_38_13) (z := km_38) _ (fun q => [.inr (11, 0, 0, 0), .inl (.int a1), .inl (.int a2), .inr (22, 1, 0, 570), .inr (40, 0, 0, q)]) rfl (List.cons_ne_nil _ _) (fun q => rfl) ⟨trivial, trivial, trivial⟩ rfl ⟨_, rfl, rfl⟩ rfl
  · exact fun _ => tr_han (rows2 := kb_38_17) (z := km_38) _ (fun q => [.inr (11, 0, 0, 0), .inl (.int a1), .inl (.int a2), .inr (22, 1, 0, 570), .inr (40, 1, 0, q)]) rfl (List.cons_ne_nil _ _) (fun q => rfl) ⟨trivial, trivial, trivial⟩ rfl ⟨_, rfl, rfl⟩ rfl
  · exact fun _ => rfl
def f_154_81 (H34 : Int32 → Int32 → ab_P → Option ab_P) : Nat → Int32 → Int32 → Int32 → ab_P → Option ab_P
  | 0, _, _, _, _ => none
  | n + 1, x1, x2, x3, P =>
    Option.bind (f_135_366 477 P x2 (2 : Int32)) fun v7 =>
    if x3 < v7 then
      H34 x1 (x2 + 1) P
    else
    if ab_gi x3 20000 then
    if (P.1 546 x3.toNatClampNeg) = (0 : Int32) then
      Option.bind (f_135_366 477 P x2 (2 : Int32)) fun v11 =>
      if ab_gi (x3 - v11) 20000 then
      if (P.1 546 ((x3 - v11)).toNatClampNeg) = (0 : Int32) then
        if ab_gi x3 20000 then
        ab_lt (ab_pI P 546 x3.toNatClampNeg (0 : Int32)) fun P14 =>
        f_154_81 H34 n x1 x2 (x3 + (-1)) P14
        else none
      else
      if ab_gi x3 20000 then
      ab_lt (ab_pI P 546 x3.toNatClampNeg (1 : Int32)) fun P16 =>
      f_154_81 H34 n x1 x2 (x3 + (-1)) P16
      else none
      else none
    else
    if ab_gi x3 20000 then
    ab_lt (ab_pI P 546 x3.toNatClampNeg (1 : Int32)) fun P10 =>
    f_154_81 H34 n x1 x2 (x3 + (-1)) P10
    else none
    else none
theorem t_154_81 {xs : Nat × (Nat → Int32)} {d : Nat} (H34 : Int32 → Int32 → ab_P → Option ab_P) (hH34 : ∀ (x1 : Int32) (x2 : Int32) (d3 : ab_V) (P : ab_P), ab_tr xs wV (d + 2) 154 34 [] [.inr (12, 0, 0, 72), .inl (.int x1), .inl (.int x2), d3] [] P (H34 x1 x2 P)) : ∀ n : Nat, ∀ (x1 : Int32) (x2 : Int32) (x3 : Int32) (P : ab_P), ab_tr xs wV (d + 2) 154 81 [] [.inr (12, 0, 0, 72), .inl (.int x1), .inl (.int x2), .inl (.int x3)] [] P (f_154_81 H34 n x1 x2 x3 P) := by
  intro n
  induction n with
  | zero => intro x1 x2 x3 P; exact tr_no
  | succ n ih =>
    intro x1 x2 x3 P
    refine tr_nil (rows2 := kb_154_81) rfl (List.cons_ne_nil _ _) ?_
    refine tr_blk 5 (pc' := 88) (rows' := kb_154_81.drop 5) (loc' := [.inr (12, 0, 0, 72), .inl (.int x1), .inl (.int x2), .inl (.int x3)]) (st' := [.inl (.int (2 : Int32)), .inl (.int x2), .inr (20, 366, 0, 477), .inl (.int x3)]) (P1 := P) rfl ⟨trivial, trivial, trivial, trivial, trivial, trivial⟩ ?_
    refine tr_cRI (z := km_135) (av := [.inr (20, 366, 0, 477), .inl (.int x2), .inl (.int (2 : Int32))]) (st' := [.inl (.int x3)]) rfl rfl rfl (Nat.le_of_ble_eq_true rfl) trivial rfl (Nat.le_of_ble_eq_true rfl) (t_135_366 477 P x2 (2 : Int32)) (fun v7 => ?_)
    refine tr_if (fun h17 => ?_) (fun h17 => ?_)
    · refine tr_icT (cd := .lt) h17 ?_
      refine tr_nil (rows2 := kb_154_139) rfl (List.cons_ne_nil _ _) ?_
      refine tr_blk 1 (pc' := 142) (rows' := kb_154_139.drop 1) (loc' := [.inr (12, 0, 0, 72), .inl (.int x1), .inl (.int (x2 + 1)), .inl (.int x3)]) (st' := []) (P1 := P) rfl ⟨trivial, trivial⟩ ?_
      refine tr_goto ?_
      exact hH34 x1 (x2 + 1) (.inl (.int x3)) P
    · refine tr_icF (cd := .lt) h17 ?_
      refine tr_gd (fun h8 => ?_)
      refine tr_blk 7 (pc' := 105) (rows' := kb_154_81.drop 14) (loc' := [.inr (12, 0, 0, 72), .inl (.int x1), .inl (.int x2), .inl (.int x3)]) (st' := [.inl (.int (P.1 546 x3.toNatClampNeg)), .inl (.int x3), .inr (23, 20000, 0, 546)]) (P1 := P) rfl ⟨trivial, trivial, trivial, trivial, trivial, trivial, h8, trivial⟩ ?_
      refine tr_if (fun h18 => ?_) (fun h18 => ?_)
      · refine tr_ifF (cd := .ne) (fun q => q h18) ?_
        refine tr_blk 7 (pc' := 119) (rows' := kb_154_81.drop 22) (loc' := [.inr (12, 0, 0, 72), .inl (.int x1), .inl (.int x2), .inl (.int x3)]) (st' := [.inl (.int (2 : Int32)), .inl (.int x2), .inr (20, 366, 0, 477), .inl (.int x3), .inr (23, 20000, 0, 546), .inl (.int x3), .inr (23, 20000, 0, 546)]) (P1 := P) rfl ⟨trivial, trivial, trivial, trivial, trivial, trivial, trivial, trivial⟩ ?_
        refine tr_cRI (z := km_135) (av := [.inr (20, 366, 0, 477), .inl (.int x2), .inl (.int (2 : Int32))]) (st' := [.inl (.int x3), .inr (23, 20000, 0, 546), .inl (.int x3), .inr (23, 20000, 0, 546)]) rfl rfl rfl (Nat.le_of_ble_eq_true rfl) trivial rfl (Nat.le_of_ble_eq_true rfl) (t_135_366 477 P x2 (2 : Int32)) (fun v11 => ?_)
        refine tr_gd (fun h12 => ?_)
        refine tr_blk 2 (pc' := 124) (rows' := kb_154_81.drop 25) (loc' := [.inr (12, 0, 0, 72), .inl (.int x1), .inl (.int x2), .inl (.int x3)]) (st' := [.inl (.int (P.1 546 ((x3 - v11)).toNatClampNeg)), .inl (.int x3), .inr (23, 20000, 0, 546)]) (P1 := P) rfl ⟨trivial, h12, trivial⟩ ?_
        refine tr_if (fun h19 => ?_) (fun h19 => ?_)
        · refine tr_ifT (cd := .eq) h19 ?_
          refine tr_nil (rows2 := kb_154_131) rfl (List.cons_ne_nil _ _) ?_
          refine tr_blk 1 (pc' := 132) (rows' := kb_154_131.drop 1) (loc' := [.inr (12, 0, 0, 72), .inl (.int x1), .inl (.int x2), .inl (.int x3)]) (st' := [.inl (.int (0 : Int32)), .inl (.int x3), .inr (23, 20000, 0, 546)]) (P1 := P) rfl ⟨trivial, trivial⟩ ?_
          refine tr_nil (rows2 := kb_154_132) rfl (List.cons_ne_nil _ _) ?_
          refine tr_gd (fun h13 => ?_)
          refine tr_blk 1 (pc' := 133) (rows' := kb_154_132.drop 1) (loc' := [.inr (12, 0, 0, 72), .inl (.int x1), .inl (.int x2), .inl (.int x3)]) (st' := []) (P1 := (ab_pI P 546 x3.toNatClampNeg (0 : Int32))) rfl ⟨h13, trivial⟩ ?_
          refine tr_lt (fun P14 => ?_)
          refine tr_blk 1 (pc' := 136) (rows' := kb_154_132.drop 2) (loc' := [.inr (12, 0, 0, 72), .inl (.int x1), .inl (.int x2), .inl (.int (x3 + (-1)))]) (st' := []) (P1 := P14) rfl ⟨trivial, trivial⟩ ?_
          refine tr_goto ?_
          exact ih x1 x2 (x3 + (-1)) P14
        · refine tr_ifF (cd := .eq) h19 ?_
          refine tr_nil (rows2 := kb_154_127) rfl (List.cons_ne_nil _ _) ?_
          refine tr_blk 1 (pc' := 128) (rows' := kb_154_127.drop 1) (loc' := [.inr (12, 0, 0, 72), .inl (.int x1), .inl (.int x2), .inl (.int x3)]) (st' := [.inl (.int (1 : Int32)), .inl (.int x3), .inr (23, 20000, 0, 546)]) (P1 := P) rfl ⟨trivial, trivial⟩ ?_
          refine tr_goto ?_
          refine tr_nil (rows2 := kb_154_132) rfl (List.cons_ne_nil _ _) ?_
          refine tr_gd (fun h15 => ?_)
          refine tr_blk 1 (pc' := 133) (rows' := kb_154_132.drop 1) (loc' := [.inr (12, 0, 0, 72), .inl (.int x1), .inl (.int x2), .inl (.int x3)]) (st' := []) (P1 := (ab_pI P 546 x3.toNatClampNeg (1 : Int32))) rfl ⟨h15, trivial⟩ ?_
          refine tr_lt (fun P16 => ?_)
          refine tr_blk 1 (pc' := 136) (rows' := kb_154_132.drop 2) (loc' := [.inr (12, 0, 0, 72), .inl (.int x1), .inl (.int x2), .inl (.int (x3 + (-1)))]) (st' := []) (P1 := P16) rfl ⟨trivial, trivial⟩ ?_
          refine tr_goto ?_
          exact ih x1 x2 (x3 + (-1)) P16
      · refine tr_ifT (cd := .ne) h18 ?_
        refine tr_nil (rows2 := kb_154_127) rfl (List.cons_ne_nil _ _) ?_
        refine tr_blk 1 (pc' := 128) (rows' := kb_154_127.drop 1) (loc' := [.inr (12, 0, 0, 72), .inl (.int x1), .inl (.int x2), .inl (.int x3)]) (st' := [.inl (.int (1 : Int32)), .inl (.int x3), .inr (23, 20000, 0, 546)]) (P1 := P) rfl ⟨trivial, trivial⟩ ?_
        refine tr_goto ?_
        refine tr_nil (rows2 := kb_154_132) rfl (List.cons_ne_nil _ _) ?_
        refine tr_gd (fun h9 => ?_)
        refine tr_blk 1 (pc' := 133) (rows' := kb_154_132.drop 1) (loc' := [.inr (12, 0, 0, 72), .inl (.int x1), .inl (.int x2), .inl (.int x3)]) (st' := []) (P1 := (ab_pI P 546 x3.toNatClampNeg (1 : Int32))) rfl ⟨h9, trivial⟩ ?_
        refine tr_lt (fun P10 => ?_)
        refine tr_blk 1 (pc' := 136) (rows' := kb_154_132.drop 2) (loc' := [.inr (12, 0, 0, 72), .inl (.int x1), .inl (.int x2), .inl (.int (x3 + (-1)))]) (st' := []) (P1 := P10) rfl ⟨trivial, trivial⟩ ?_
        refine tr_goto ?_
        exact ih x1 x2 (x3 + (-1)) P10
def f_154_34 (N : Nat) : Nat → Int32 → Int32 → ab_P → Option ab_P
  | 0, _, _, _ => none
  | n + 1, x1, x2, P =>
    if x2 < (P.1 477 360) then
      Option.bind (f_144_366 477 P x2) fun v5 =>
      if v5 = (0 : Int32) then
        f_154_34 N n x1 (x2 + 1) P
      else
      Option.bind (f_135_366 477 P x2 (1 : Int32)) fun v6 =>
      if v6 = x1 then
        f_154_81 (fun y0 y1 y2 => f_154_34 N n y0 y1 y2) N x1 x2 (19999 : Int32) P
      else
      f_154_34 N n x1 (x2 + 1) P
    else
    some P
theorem t_154_34 {xs : Nat × (Nat → Int32)} {d : Nat} (N : Nat) : ∀ n : Nat, ∀ (x1 : Int32) (x2 : Int32) (d3 : ab_V) (P : ab_P), ab_tr xs wV (d + 2) 154 34 [] [.inr (12, 0, 0, 72), .inl (.int x1), .inl (.int x2), d3] [] P (f_154_34 N n x1 x2 P) := by
  intro n
  induction n with
  | zero => intro x1 x2 d3 P; exact tr_no
  | succ n ih =>
    intro x1 x2 d3 P
    refine tr_nil (rows2 := kb_154_34) rfl (List.cons_ne_nil _ _) ?_
    refine tr_blk 5 (pc' := 43) (rows' := kb_154_34.drop 5) (loc' := [.inr (12, 0, 0, 72), .inl (.int x1), .inl (.int x2), d3]) (st' := [.inl (.int (P.1 477 360)), .inl (.int x2)]) (P1 := P) rfl ⟨trivial, trivial, trivial, trivial, (ab_vi (by decide)), trivial⟩ ?_
    refine tr_if (fun h20 => ?_) (fun h20 => ?_)
    · refine tr_icF (cd := .ge) (Int32.not_le.mpr h20) ?_
      refine tr_blk 3 (pc' := 51) (rows' := kb_154_34.drop 9) (loc' := [.inr (12, 0, 0, 72), .inl (.int x1), .inl (.int x2), d3]) (st' := [.inl (.int x2), .inr (20, 366, 0, 477)]) (P1 := P) rfl ⟨trivial, trivial, trivial, trivial⟩ ?_
      refine tr_cRI (z := km_144) (av := [.inr (20, 366, 0, 477), .inl (.int x2)]) (st' := []) rfl rfl rfl (Nat.le_of_ble_eq_true rfl) trivial rfl (Nat.le_of_ble_eq_true rfl) (t_144_366 477 P x2) (fun v5 => ?_)
      refine tr_if (fun h21 => ?_) (fun h21 => ?_)
      · refine tr_ifT (cd := .eq) h21 ?_
        refine tr_nil (rows2 := kb_154_139) rfl (List.cons_ne_nil _ _) ?_
        refine tr_blk 1 (pc' := 142) (rows' := kb_154_139.drop 1) (loc' := [.inr (12, 0, 0, 72), .inl (.int x1), .inl (.int (x2 + 1)), d3]) (st' := []) (P1 := P) rfl ⟨trivial, trivial⟩ ?_
        refine tr_goto ?_
        exact ih x1 (x2 + 1) (d3) P
      · refine tr_ifF (cd := .eq) h21 ?_
        refine tr_blk 4 (pc' := 63) (rows' := kb_154_34.drop 15) (loc' := [.inr (12, 0, 0, 72), .inl (.int x1), .inl (.int x2), d3]) (st' := [.inl (.int (1 : Int32)), .inl (.int x2), .inr (20, 366, 0, 477)]) (P1 := P) rfl ⟨trivial, trivial, trivial, trivial, trivial⟩ ?_
        refine tr_cRI (z := km_135) (av := [.inr (20, 366, 0, 477), .inl (.int x2), .inl (.int (1 : Int32))]) (st' := []) rfl rfl rfl (Nat.le_of_ble_eq_true rfl) trivial rfl (Nat.le_of_ble_eq_true rfl) (t_135_366 477 P x2 (1 : Int32)) (fun v6 => ?_)
        refine tr_blk 1 (pc' := 67) (rows' := kb_154_34.drop 17) (loc' := [.inr (12, 0, 0, 72), .inl (.int x1), .inl (.int x2), d3]) (st' := [.inl (.int x1), .inl (.int v6)]) (P1 := P) rfl ⟨trivial, trivial⟩ ?_
        refine tr_if (fun h22 => ?_) (fun h22 => ?_)
        · refine tr_icT (cd := .eq) h22 ?_
          refine tr_nil (rows2 := kb_154_73) rfl (List.cons_ne_nil _ _) ?_
          refine tr_blk 6 (pc' := 81) (rows' := kb_154_73.drop 6) (loc' := [.inr (12, 0, 0, 72), .inl (.int x1), .inl (.int x2), .inl (.int (19999 : Int32))]) (st' := []) (P1 := P) rfl ⟨trivial, trivial, (Or.inl (by decide)), trivial, trivial, trivial, trivial⟩ ?_
          exact t_154_81 _ ih N x1 x2 (19999 : Int32) P
        · refine tr_icF (cd := .eq) h22 ?_
          refine tr_goto ?_
          refine tr_nil (rows2 := kb_154_139) rfl (List.cons_ne_nil _ _) ?_
          refine tr_blk 1 (pc' := 142) (rows' := kb_154_139.drop 1) (loc' := [.inr (12, 0, 0, 72), .inl (.int x1), .inl (.int (x2 + 1)), d3]) (st' := []) (P1 := P) rfl ⟨trivial, trivial⟩ ?_
          refine tr_goto ?_
          exact ih x1 (x2 + 1) (d3) P
    · refine tr_icT (cd := .ge) (Int32.not_lt.mp h20) ?_
      refine tr_nil (rows2 := kb_154_145) rfl (List.cons_ne_nil _ _) ?_
      exact tr_reV (z := km_154) rfl rfl rfl
def f_154_2 (N : Nat) : Nat → Int32 → Int32 → ab_P → Option ab_P
  | 0, _, _, _ => none
  | n + 1, x1, x2, P =>
    if x2 < (20000 : Int32) then
      if x2 = (0 : Int32) then
        if ab_gi x2 20000 then
        ab_lt (ab_pI P 546 x2.toNatClampNeg (1 : Int32)) fun P4 =>
        f_154_2 N n x1 (x2 + 1) P4
        else none
      else
      if ab_gi x2 20000 then
      ab_lt (ab_pI P 546 x2.toNatClampNeg (0 : Int32)) fun P2 =>
      f_154_2 N n x1 (x2 + 1) P2
      else none
    else
    f_154_34 N N x1 (0 : Int32) P
theorem t_154_2 {xs : Nat × (Nat → Int32)} {d : Nat} (N : Nat) : ∀ n : Nat, ∀ (x1 : Int32) (x2 : Int32) (P : ab_P), ab_tr xs wV (d + 2) 154 2 [] [.inr (12, 0, 0, 72), .inl (.int x1), .inl (.int x2), ab_top] [] P (f_154_2 N n x1 x2 P) := by
  intro n
  induction n with
  | zero => intro x1 x2 P; exact tr_no
  | succ n ih =>
    intro x1 x2 P
    refine tr_nil (rows2 := kb_154_2) rfl (List.cons_ne_nil _ _) ?_
    refine tr_blk 4 (pc' := 8) (rows' := kb_154_2.drop 4) (loc' := [.inr (12, 0, 0, 72), .inl (.int x1), .inl (.int x2), ab_top]) (st' := [.inl (.int (20000 : Int32)), .inl (.int x2)]) (P1 := P) rfl ⟨trivial, trivial, trivial, (Or.inl (by decide)), trivial⟩ ?_
    refine tr_if (fun h23 => ?_) (fun h23 => ?_)
    · refine tr_icF (cd := .ge) (Int32.not_le.mpr h23) ?_
      refine tr_blk 4 (pc' := 17) (rows' := kb_154_2.drop 9) (loc' := [.inr (12, 0, 0, 72), .inl (.int x1), .inl (.int x2), ab_top]) (st' := [.inl (.int x2), .inl (.int x2), .inr (23, 20000, 0, 546)]) (P1 := P) rfl ⟨trivial, trivial, trivial, trivial, trivial⟩ ?_
      refine tr_if (fun h24 => ?_) (fun h24 => ?_)
      · refine tr_ifF (cd := .ne) (fun q => q h24) ?_
        refine tr_blk 1 (pc' := 21) (rows' := kb_154_2.drop 11) (loc' := [.inr (12, 0, 0, 72), .inl (.int x1), .inl (.int x2), ab_top]) (st' := [.inl (.int (1 : Int32)), .inl (.int x2), .inr (23, 20000, 0, 546)]) (P1 := P) rfl ⟨trivial, trivial⟩ ?_
        refine tr_goto ?_
        refine tr_nil (rows2 := kb_154_25) rfl (List.cons_ne_nil _ _) ?_
        refine tr_gd (fun h3 => ?_)
        refine tr_blk 1 (pc' := 26) (rows' := kb_154_25.drop 1) (loc' := [.inr (12, 0, 0, 72), .inl (.int x1), .inl (.int x2), ab_top]) (st' := []) (P1 := (ab_pI P 546 x2.toNatClampNeg (1 : Int32))) rfl ⟨h3, trivial⟩ ?_
        refine tr_lt (fun P4 => ?_)
        refine tr_blk 1 (pc' := 29) (rows' := kb_154_25.drop 2) (loc' := [.inr (12, 0, 0, 72), .inl (.int x1), .inl (.int (x2 + 1)), ab_top]) (st' := []) (P1 := P4) rfl ⟨trivial, trivial⟩ ?_
        refine tr_goto ?_
        exact ih x1 (x2 + 1) P4
      · refine tr_ifT (cd := .ne) h24 ?_
        refine tr_nil (rows2 := kb_154_24) rfl (List.cons_ne_nil _ _) ?_
        refine tr_blk 1 (pc' := 25) (rows' := kb_154_24.drop 1) (loc' := [.inr (12, 0, 0, 72), .inl (.int x1), .inl (.int x2), ab_top]) (st' := [.inl (.int (0 : Int32)), .inl (.int x2), .inr (23, 20000, 0, 546)]) (P1 := P) rfl ⟨trivial, trivial⟩ ?_
        refine tr_nil (rows2 := kb_154_25) rfl (List.cons_ne_nil _ _) ?_
        refine tr_gd (fun h1 => ?_)
        refine tr_blk 1 (pc' := 26) (rows' := kb_154_25.drop 1) (loc' := [.inr (12, 0, 0, 72), .inl (.int x1), .inl (.int x2), ab_top]) (st' := []) (P1 := (ab_pI P 546 x2.toNatClampNeg (0 : Int32))) rfl ⟨h1, trivial⟩ ?_
        refine tr_lt (fun P2 => ?_)
        refine tr_blk 1 (pc' := 29) (rows' := kb_154_25.drop 2) (loc' := [.inr (12, 0, 0, 72), .inl (.int x1), .inl (.int (x2 + 1)), ab_top]) (st' := []) (P1 := P2) rfl ⟨trivial, trivial⟩ ?_
        refine tr_goto ?_
        exact ih x1 (x2 + 1) P2
    · refine tr_icT (cd := .ge) (Int32.not_lt.mp h23) ?_
      refine tr_nil (rows2 := kb_154_32) rfl (List.cons_ne_nil _ _) ?_
      refine tr_blk 2 (pc' := 34) (rows' := kb_154_32.drop 2) (loc' := [.inr (12, 0, 0, 72), .inl (.int x1), .inl (.int (0 : Int32)), ab_top]) (st' := []) (P1 := P) rfl ⟨trivial, trivial, trivial⟩ ?_
      exact t_154_34 N N x1 (0 : Int32) (ab_top) P
def f_154 (N : Nat) (a1 : Int32) (P : ab_P) : Option ab_P :=
    f_154_2 N N a1 (0 : Int32) P
theorem t_154 {xs : Nat × (Nat → Int32)} {d : Nat} (N : Nat) : ∀ (a1 : Int32) (P : ab_P), ab_tr xs wV (d + 2) 154 0 [] [.inr (12, 0, 0, 72), .inl (.int a1), ab_top, ab_top] [] P (f_154 N a1 P) := by
  intro a1 P
  unfold f_154
  refine tr_nil (rows2 := kb_154_0) rfl (List.cons_ne_nil _ _) ?_
  refine tr_blk 2 (pc' := 2) (rows' := kb_154_0.drop 2) (loc' := [.inr (12, 0, 0, 72), .inl (.int a1), .inl (.int (0 : Int32)), ab_top]) (st' := []) (P1 := P) rfl ⟨trivial, trivial, trivial⟩ ?_
  exact t_154_2 N N a1 (0 : Int32) P
def f_39_61 : Nat → Int32 → ab_P → Option (Int32 × ab_P)
  | 0, _, _ => none
  | n + 1, x3, P =>
    if x3 < (20000 : Int32) then
      if ab_gi x3 20000 then
      if (P.1 546 x3.toNatClampNeg) = (0 : Int32) then
        f_39_61 n (x3 + 1) P
      else
      some (x3, P)
      else none
    else
    some ((-1 : Int32), P)
theorem t_39_61 {xs : Nat × (Nat → Int32)} {d : Nat} : ∀ n : Nat, ∀ (x3 : Int32) (d1 : Int32) (d2 : Int32) (P : ab_P), ab_tr xs wI (d + 3) 39 61 [] [.inr (12, 0, 0, 72), .inl (.int d1), .inl (.int d2), .inl (.int x3)] [] P (f_39_61 n x3 P) := by
  intro n
  induction n with
  | zero => intro x3 d1 d2 P; exact tr_no
  | succ n ih =>
    intro x3 d1 d2 P
    refine tr_nil (rows2 := kb_39_61) rfl (List.cons_ne_nil _ _) ?_
    refine tr_blk 4 (pc' := 67) (rows' := kb_39_61.drop 4) (loc' := [.inr (12, 0, 0, 72), .inl (.int d1), .inl (.int d2), .inl (.int x3)]) (st' := [.inl (.int (20000 : Int32)), .inl (.int x3)]) (P1 := P) rfl ⟨trivial, trivial, trivial, (Or.inl (by decide)), trivial⟩ ?_
    refine tr_if (fun h10 => ?_) (fun h10 => ?_)
    · refine tr_icF (cd := .ge) (Int32.not_le.mpr h10) ?_
      refine tr_gd (fun h9 => ?_)
      refine tr_blk 4 (pc' := 76) (rows' := kb_39_61.drop 9) (loc' := [.inr (12, 0, 0, 72), .inl (.int d1), .inl (.int d2), .inl (.int x3)]) (st' := [.inl (.int (P.1 546 x3.toNatClampNeg))]) (P1 := P) rfl ⟨trivial, trivial, trivial, h9, trivial⟩ ?_
      refine tr_if (fun h11 => ?_) (fun h11 => ?_)
      · refine tr_ifT (cd := .eq) h11 ?_
        refine tr_nil (rows2 := kb_39_81) rfl (List.cons_ne_nil _ _) ?_
        refine tr_blk 1 (pc' := 84) (rows' := kb_39_81.drop 1) (loc' := [.inr (12, 0, 0, 72), .inl (.int d1), .inl (.int d2), .inl (.int (x3 + 1))]) (st' := []) (P1 := P) rfl ⟨trivial, trivial⟩ ?_
        refine tr_goto ?_
        exact ih (x3 + 1) (d1) (d2) P
      · refine tr_ifF (cd := .eq) h11 ?_
        refine tr_blk 1 (pc' := 80) (rows' := kb_39_61.drop 11) (loc' := [.inr (12, 0, 0, 72), .inl (.int d1), .inl (.int d2), .inl (.int x3)]) (st' := [.inl (.int x3)]) (P1 := P) rfl ⟨trivial, trivial⟩ ?_
        exact tr_reI (z := km_39) rfl ⟨_, rfl, rfl⟩ rfl
    · refine tr_icT (cd := .ge) (Int32.not_lt.mp h10) ?_
      refine tr_nil (rows2 := kb_39_87) rfl (List.cons_ne_nil _ _) ?_
      refine tr_blk 1 (pc' := 88) (rows' := kb_39_87.drop 1) (loc' := [.inr (12, 0, 0, 72), .inl (.int d1), .inl (.int d2), .inl (.int x3)]) (st' := [.inl (.int (-1 : Int32))]) (P1 := P) rfl ⟨trivial, trivial⟩ ?_
      exact tr_reI (z := km_39) rfl ⟨_, rfl, rfl⟩ rfl
def f_39_44 (N : Nat) (x1 : Int32) (x2 : Int32) (s0 : Int32) (P : ab_P) : Option (Int32 × ab_P) :=
    ab_b2 (f_113 s0 (2 : Int32) (1 : Int32) P) fun v7 P6 =>
    if v7 = (0 : Int32) then
      Option.bind (f_154 N x1 P6) fun P8 =>
      f_39_61 N x2 P8
    else
    some ((0 : Int32), P6)
theorem t_39_44 {xs : Nat × (Nat → Int32)} {d : Nat} (N : Nat) : ∀ (x1 : Int32) (x2 : Int32) (s0 : Int32) (P : ab_P), ab_tr xs wI (d + 3) 39 44 [] [.inr (12, 0, 0, 72), .inl (.int x1), .inl (.int x2), ab_top] [.inl (.int s0), .inr (12, 0, 0, 72)] P (f_39_44 N x1 x2 s0 P) := by
  intro x1 x2 s0 P
  unfold f_39_44
  refine tr_nil (rows2 := kb_39_44) rfl (List.cons_ne_nil _ _) ?_
  refine tr_blk 2 (pc' := 46) (rows' := kb_39_44.drop 2) (loc' := [.inr (12, 0, 0, 72), .inl (.int x1), .inl (.int x2), ab_top]) (st' := [.inl (.int (1 : Int32)), .inl (.int (2 : Int32)), .inl (.int s0), .inr (12, 0, 0, 72)]) (P1 := P) rfl ⟨trivial, trivial, trivial⟩ ?_
  refine tr_cWI (z := km_113) (av := [.inr (12, 0, 0, 72), .inl (.int s0), .inl (.int (2 : Int32)), .inl (.int (1 : Int32))]) (st' := []) rfl rfl rfl (Nat.le_of_ble_eq_true rfl) ⟨rfl, Or.inl (by decide)⟩ rfl (Nat.le_of_ble_eq_true rfl) (t_113 s0 (2 : Int32) (1 : Int32) P) (fun v7 P6 => ?_)
  refine tr_if (fun h12 => ?_) (fun h12 => ?_)
  · refine tr_ifT (cd := .eq) h12 ?_
    refine tr_nil (rows2 := kb_39_54) rfl (List.cons_ne_nil _ _) ?_
    refine tr_blk 2 (pc' := 56) (rows' := kb_39_54.drop 2) (loc' := [.inr (12, 0, 0, 72), .inl (.int x1), .inl (.int x2), ab_top]) (st' := [.inl (.int x1), .inr (12, 0, 0, 72)]) (P1 := P6) rfl ⟨trivial, trivial, trivial⟩ ?_
    refine tr_cWV (z := km_154) (av := [.inr (12, 0, 0, 72), .inl (.int x1)]) (st' := []) rfl rfl rfl (Nat.le_of_ble_eq_true rfl) ⟨rfl, Or.inl (by decide)⟩ rfl (Nat.le_of_ble_eq_true rfl) (t_154 N x1 P6) (fun P8 => ?_)
    refine tr_blk 2 (pc' := 61) (rows' := kb_39_54.drop 5) (loc' := [.inr (12, 0, 0, 72), .inl (.int x1), .inl (.int x2), .inl (.int x2)]) (st' := []) (P1 := P8) rfl ⟨trivial, trivial, trivial⟩ ?_
    exact t_39_61 N x2 (x1) (x2) P8
  · refine tr_ifF (cd := .eq) h12 ?_
    refine tr_nil (rows2 := kb_39_52) rfl (List.cons_ne_nil _ _) ?_
    refine tr_blk 1 (pc' := 53) (rows' := kb_39_52.drop 1) (loc' := [.inr (12, 0, 0, 72), .inl (.int x1), .inl (.int x2), ab_top]) (st' := [.inl (.int (0 : Int32))]) (P1 := P6) rfl ⟨trivial, trivial⟩ ?_
    exact tr_reI (z := km_39) rfl ⟨_, rfl, rfl⟩ rfl
def f_39_19 (N : Nat) (x1 : Int32) (x2 : Int32) (s0 : Int32) (P : ab_P) : Option (Int32 × ab_P) :=
    ab_b2 (f_113 s0 (1 : Int32) (0 : Int32) P) fun v4 P3 =>
    if v4 = (0 : Int32) then
      Option.bind (f_112 P3 x2 (0 : Int32) (9999 : Int32)) fun v5 =>
      if v5 = (0 : Int32) then
        f_39_44 N x1 x2 (1 : Int32) P3
      else
      f_39_44 N x1 x2 (0 : Int32) P3
    else
    some ((0 : Int32), P3)
theorem t_39_19 {xs : Nat × (Nat → Int32)} {d : Nat} (N : Nat) : ∀ (x1 : Int32) (x2 : Int32) (s0 : Int32) (P : ab_P), ab_tr xs wI (d + 3) 39 19 [] [.inr (12, 0, 0, 72), .inl (.int x1), .inl (.int x2), ab_top] [.inl (.int s0), .inr (12, 0, 0, 72)] P (f_39_19 N x1 x2 s0 P) := by
  intro x1 x2 s0 P
  unfold f_39_19
  refine tr_nil (rows2 := kb_39_19) rfl (List.cons_ne_nil _ _) ?_
  refine tr_blk 2 (pc' := 21) (rows' := kb_39_19.drop 2) (loc' := [.inr (12, 0, 0, 72), .inl (.int x1), .inl (.int x2), ab_top]) (st' := [.inl (.int (0 : Int32)), .inl (.int (1 : Int32)), .inl (.int s0), .inr (12, 0, 0, 72)]) (P1 := P) rfl ⟨trivial, trivial, trivial⟩ ?_
  refine tr_cWI (z := km_113) (av := [.inr (12, 0, 0, 72), .inl (.int s0), .inl (.int (1 : Int32)), .inl (.int (0 : Int32))]) (st' := []) rfl rfl rfl (Nat.le_of_ble_eq_true rfl) ⟨rfl, Or.inl (by decide)⟩ rfl (Nat.le_of_ble_eq_true rfl) (t_113 s0 (1 : Int32) (0 : Int32) P) (fun v4 P3 => ?_)
  refine tr_if (fun h13 => ?_) (fun h13 => ?_)
  · refine tr_ifF (cd := .ne) (fun q => q h13) ?_
    refine tr_blk 4 (pc' := 33) (rows' := kb_39_19.drop 8) (loc' := [.inr (12, 0, 0, 72), .inl (.int x1), .inl (.int x2), ab_top]) (st' := [.inl (.int (9999 : Int32)), .inl (.int (0 : Int32)), .inl (.int x2), .inr (12, 0, 0, 72)]) (P1 := P3) rfl ⟨trivial, trivial, trivial, trivial, trivial⟩ ?_
    refine tr_cRI (z := km_112) (av := [.inl (.int x2), .inl (.int (0 : Int32)), .inl (.int (9999 : Int32))]) (st' := [.inr (12, 0, 0, 72)]) rfl rfl rfl (Nat.le_of_ble_eq_true rfl) trivial rfl (Nat.le_of_ble_eq_true rfl) (t_112 P3 x2 (0 : Int32) (9999 : Int32)) (fun v5 => ?_)
    refine tr_if (fun h14 => ?_) (fun h14 => ?_)
    · refine tr_ifF (cd := .ne) (fun q => q h14) ?_
      refine tr_blk 1 (pc' := 40) (rows' := kb_39_19.drop 11) (loc' := [.inr (12, 0, 0, 72), .inl (.int x1), .inl (.int x2), ab_top]) (st' := [.inl (.int (1 : Int32)), .inr (12, 0, 0, 72)]) (P1 := P3) rfl ⟨trivial, trivial⟩ ?_
      refine tr_goto ?_
      exact t_39_44 N x1 x2 (1 : Int32) P3
    · refine tr_ifT (cd := .ne) h14 ?_
      refine tr_nil (rows2 := kb_39_43) rfl (List.cons_ne_nil _ _) ?_
      refine tr_blk 1 (pc' := 44) (rows' := kb_39_43.drop 1) (loc' := [.inr (12, 0, 0, 72), .inl (.int x1), .inl (.int x2), ab_top]) (st' := [.inl (.int (0 : Int32)), .inr (12, 0, 0, 72)]) (P1 := P3) rfl ⟨trivial, trivial⟩ ?_
      exact t_39_44 N x1 x2 (0 : Int32) P3
  · refine tr_ifT (cd := .ne) h13 ?_
    refine tr_nil (rows2 := kb_39_52) rfl (List.cons_ne_nil _ _) ?_
    refine tr_blk 1 (pc' := 53) (rows' := kb_39_52.drop 1) (loc' := [.inr (12, 0, 0, 72), .inl (.int x1), .inl (.int x2), ab_top]) (st' := [.inl (.int (0 : Int32))]) (P1 := P3) rfl ⟨trivial, trivial⟩ ?_
    exact tr_reI (z := km_39) rfl ⟨_, rfl, rfl⟩ rfl
def f_39 (N : Nat) (a1 : Int32) (a2 : Int32) (P : ab_P) : Option (Int32 × ab_P) :=
    ab_lt (ab_pI P 72 0 (0 : Int32)) fun P1 =>
    Option.bind (f_137 P1 a1) fun v2 =>
    if v2 = (0 : Int32) then
      f_39_19 N a1 a2 (1 : Int32) P1
    else
    f_39_19 N a1 a2 (0 : Int32) P1
theorem t_39 {xs : Nat × (Nat → Int32)} {d : Nat} (N : Nat) : ∀ (a1 : Int32) (a2 : Int32) (P : ab_P), ab_tr xs wI (d + 3) 39 0 [] [.inr (12, 0, 0, 72), .inl (.int a1), .inl (.int a2), ab_top] [] P (f_39 N a1 a2 P) := by
  intro a1 a2 P
  unfold f_39
  refine tr_nil (rows2 := kb_39_0) rfl (List.cons_ne_nil _ _) ?_
  refine tr_blk 3 (pc' := 5) (rows' := kb_39_0.drop 3) (loc' := [.inr (12, 0, 0, 72), .inl (.int a1), .inl (.int a2), ab_top]) (st' := []) (P1 := (ab_pI P 72 0 (0 : Int32))) rfl ⟨trivial, trivial, trivial, trivial⟩ ?_
  refine tr_lt (fun P1 => ?_)
  refine tr_blk 3 (pc' := 8) (rows' := kb_39_0.drop 6) (loc' := [.inr (12, 0, 0, 72), .inl (.int a1), .inl (.int a2), ab_top]) (st' := [.inl (.int a1), .inr (12, 0, 0, 72), .inr (12, 0, 0, 72)]) (P1 := P1) rfl ⟨trivial, trivial, trivial, trivial⟩ ?_
  refine tr_cRI (z := km_137) (av := [.inr (12, 0, 0, 72), .inl (.int a1)]) (st' := [.inr (12, 0, 0, 72)]) rfl rfl rfl (Nat.le_of_ble_eq_true rfl) ⟨rfl, Or.inl (by decide)⟩ rfl (Nat.le_of_ble_eq_true rfl) (t_137 P1 a1) (fun v2 => ?_)
  refine tr_if (fun h15 => ?_) (fun h15 => ?_)
  · refine tr_ifF (cd := .ne) (fun q => q h15) ?_
    refine tr_blk 1 (pc' := 15) (rows' := kb_39_0.drop 9) (loc' := [.inr (12, 0, 0, 72), .inl (.int a1), .inl (.int a2), ab_top]) (st' := [.inl (.int (1 : Int32)), .inr (12, 0, 0, 72)]) (P1 := P1) rfl ⟨trivial, trivial⟩ ?_
    refine tr_goto ?_
    exact t_39_19 N a1 a2 (1 : Int32) P1
  · refine tr_ifT (cd := .ne) h15 ?_
    refine tr_nil (rows2 := kb_39_18) rfl (List.cons_ne_nil _ _) ?_
    refine tr_blk 1 (pc' := 19) (rows' := kb_39_18.drop 1) (loc' := [.inr (12, 0, 0, 72), .inl (.int a1), .inl (.int a2), ab_top]) (st' := [.inl (.int (0 : Int32)), .inr (12, 0, 0, 72)]) (P1 := P1) rfl ⟨trivial, trivial⟩ ?_
    exact t_39_19 N a1 a2 (0 : Int32) P1
def f_247_11 : Nat → Int32 → Int32 → Int32 → ab_P → Option (Int32 × ab_P)
  | 0, _, _, _, _ => none
  | n + 1, x2, x3, x4, P =>
    if (9999 : Int32) < x4 then
      some (x3, P)
    else
    if x2 < x4 then
      some (x3, P)
    else
    Option.bind (f_302 P x4) fun v3 =>
    if v3 = (0 : Int32) then
      f_247_11 n x2 (x3 + (0 : Int32)) (x4 + 1) P
    else
    f_247_11 n x2 (x3 + (1 : Int32)) (x4 + 1) P
theorem t_247_11 {xs : Nat × (Nat → Int32)} {d : Nat} : ∀ n : Nat, ∀ (x2 : Int32) (x3 : Int32) (x4 : Int32) (d1 : Int32) (P : ab_P), ab_tr xs wI (d + 3) 247 11 [] [.inr (8, 0, 0, 49), .inl (.int d1), .inl (.int x2), .inl (.int x3), .inl (.int x4)] [] P (f_247_11 n x2 x3 x4 P) := by
  intro n
  induction n with
  | zero => intro x2 x3 x4 d1 P; exact tr_no
  | succ n ih =>
    intro x2 x3 x4 d1 P
    refine tr_nil (rows2 := kb_247_11) rfl (List.cons_ne_nil _ _) ?_
    refine tr_blk 2 (pc' := 16) (rows' := kb_247_11.drop 2) (loc' := [.inr (8, 0, 0, 49), .inl (.int d1), .inl (.int x2), .inl (.int x3), .inl (.int x4)]) (st' := [.inl (.int (9999 : Int32)), .inl (.int x4)]) (P1 := P) rfl ⟨trivial, trivial, trivial⟩ ?_
    refine tr_if (fun h4 => ?_) (fun h4 => ?_)
    · refine tr_icT (cd := .gt) h4 ?_
      refine tr_nil (rows2 := kb_247_48) rfl (List.cons_ne_nil _ _) ?_
      refine tr_blk 1 (pc' := 49) (rows' := kb_247_48.drop 1) (loc' := [.inr (8, 0, 0, 49), .inl (.int d1), .inl (.int x2), .inl (.int x3), .inl (.int x4)]) (st' := [.inl (.int x3)]) (P1 := P) rfl ⟨trivial, trivial⟩ ?_
      exact tr_reI (z := km_247) rfl ⟨_, rfl, rfl⟩ rfl
    · refine tr_icF (cd := .gt) h4 ?_
      refine tr_blk 2 (pc' := 22) (rows' := kb_247_11.drop 5) (loc' := [.inr (8, 0, 0, 49), .inl (.int d1), .inl (.int x2), .inl (.int x3), .inl (.int x4)]) (st' := [.inl (.int x2), .inl (.int x4)]) (P1 := P) rfl ⟨trivial, trivial, trivial⟩ ?_
      refine tr_if (fun h5 => ?_) (fun h5 => ?_)
      · refine tr_icT (cd := .gt) h5 ?_
        refine tr_nil (rows2 := kb_247_48) rfl (List.cons_ne_nil _ _) ?_
        refine tr_blk 1 (pc' := 49) (rows' := kb_247_48.drop 1) (loc' := [.inr (8, 0, 0, 49), .inl (.int d1), .inl (.int x2), .inl (.int x3), .inl (.int x4)]) (st' := [.inl (.int x3)]) (P1 := P) rfl ⟨trivial, trivial⟩ ?_
        exact tr_reI (z := km_247) rfl ⟨_, rfl, rfl⟩ rfl
      · refine tr_icF (cd := .gt) h5 ?_
        refine tr_blk 3 (pc' := 29) (rows' := kb_247_11.drop 9) (loc' := [.inr (8, 0, 0, 49), .inl (.int d1), .inl (.int x2), .inl (.int x3), .inl (.int x4)]) (st' := [.inl (.int x4), .inr (8, 0, 0, 49), .inl (.int x3)]) (P1 := P) rfl ⟨trivial, trivial, trivial, trivial⟩ ?_
        refine tr_cRI (z := km_302) (av := [.inr (8, 0, 0, 49), .inl (.int x4)]) (st' := [.inl (.int x3)]) rfl rfl rfl (Nat.le_of_ble_eq_true rfl) ⟨rfl, Or.inl (by decide)⟩ rfl (Nat.le_of_ble_eq_true rfl) (t_302 P x4) (fun v3 => ?_)
        refine tr_if (fun h6 => ?_) (fun h6 => ?_)
        · refine tr_ifT (cd := .eq) h6 ?_
          refine tr_nil (rows2 := kb_247_39) rfl (List.cons_ne_nil _ _) ?_
          refine tr_blk 1 (pc' := 40) (rows' := kb_247_39.drop 1) (loc' := [.inr (8, 0, 0, 49), .inl (.int d1), .inl (.int x2), .inl (.int x3), .inl (.int x4)]) (st' := [.inl (.int (0 : Int32)), .inl (.int x3)]) (P1 := P) rfl ⟨trivial, trivial⟩ ?_
          refine tr_nil (rows2 := kb_247_40) rfl (List.cons_ne_nil _ _) ?_
          refine tr_blk 3 (pc' := 45) (rows' := kb_247_40.drop 3) (loc' := [.inr (8, 0, 0, 49), .inl (.int d1), .inl (.int x2), .inl (.int (x3 + (0 : Int32))), .inl (.int (x4 + 1))]) (st' := []) (P1 := P) rfl ⟨trivial, trivial, trivial, trivial⟩ ?_
          refine tr_goto ?_
          exact ih x2 (x3 + (0 : Int32)) (x4 + 1) (d1) P
        · refine tr_ifF (cd := .eq) h6 ?_
          refine tr_blk 1 (pc' := 36) (rows' := kb_247_11.drop 12) (loc' := [.inr (8, 0, 0, 49), .inl (.int d1), .inl (.int x2), .inl (.int x3), .inl (.int x4)]) (st' := [.inl (.int (1 : Int32)), .inl (.int x3)]) (P1 := P) rfl ⟨trivial, trivial⟩ ?_
          refine tr_goto ?_
          refine tr_nil (rows2 := kb_247_40) rfl (List.cons_ne_nil _ _) ?_
          refine tr_blk 3 (pc' := 45) (rows' := kb_247_40.drop 3) (loc' := [.inr (8, 0, 0, 49), .inl (.int d1), .inl (.int x2), .inl (.int (x3 + (1 : Int32))), .inl (.int (x4 + 1))]) (st' := []) (P1 := P) rfl ⟨trivial, trivial, trivial, trivial⟩ ?_
          refine tr_goto ?_
          exact ih x2 (x3 + (1 : Int32)) (x4 + 1) (d1) P
def f_247 (N : Nat) (a1 : Int32) (P : ab_P) : Option (Int32 × ab_P) :=
    ab_b2 (f_301 N a1 P) fun v2 P1 =>
    f_247_11 N v2 (0 : Int32) (1 : Int32) P1
theorem t_247 {xs : Nat × (Nat → Int32)} {d : Nat} (N : Nat) : ∀ (a1 : Int32) (P : ab_P), ab_tr xs wI (d + 3) 247 0 [] [.inr (8, 0, 0, 49), .inl (.int a1), ab_top, ab_top, ab_top] [] P (f_247 N a1 P) := by
  intro a1 P
  unfold f_247
  refine tr_nil (rows2 := kb_247_0) rfl (List.cons_ne_nil _ _) ?_
  refine tr_blk 2 (pc' := 2) (rows' := kb_247_0.drop 2) (loc' := [.inr (8, 0, 0, 49), .inl (.int a1), ab_top, ab_top, ab_top]) (st' := [.inl (.int a1), .inr (8, 0, 0, 49)]) (P1 := P) rfl ⟨trivial, trivial, trivial⟩ ?_
  refine tr_cWI (z := km_301) (av := [.inr (8, 0, 0, 49), .inl (.int a1)]) (st' := []) rfl rfl rfl (Nat.le_of_ble_eq_true rfl) ⟨rfl, Or.inl (by decide)⟩ rfl (Nat.le_of_ble_eq_true rfl) (t_301 N a1 P) (fun v2 P1 => ?_)
  refine tr_blk 5 (pc' := 11) (rows' := kb_247_0.drop 8) (loc' := [.inr (8, 0, 0, 49), .inl (.int a1), .inl (.int v2), .inl (.int (0 : Int32)), .inl (.int (1 : Int32))]) (st' := []) (P1 := P1) rfl ⟨trivial, trivial, trivial, trivial, trivial, trivial⟩ ?_
  exact t_247_11 N v2 (0 : Int32) (1 : Int32) (a1) P1
def f_155 (N : Nat) (a1 : Int32) (P : ab_P) : Option ((Int32 ⊕ Fin 3) × ab_P) :=
    ab_x2 (f_232 a1 P) (fun _ P1 =>
    ab_b2 (f_247 N a1 P1) fun v3 P2 =>
    some (.inl v3, P2)) (fun q => q)
theorem t_155 {xs : Nat × (Nat → Int32)} {d : Nat} (N : Nat) : ∀ (a1 : Int32) (P : ab_P), ab_tr xs xI (d + 4) 155 0 [] [.inr (11, 0, 0, 0), .inl (.int a1)] [] P (f_155 N a1 P) := by
  intro a1 P
  unfold f_155
  refine tr_nil (rows2 := kb_155_0) rfl (List.cons_ne_nil _ _) ?_
  refine tr_blk 2 (pc' := 2) (rows' := kb_155_0.drop 2) (loc' := [.inr (11, 0, 0, 0), .inl (.int a1)]) (st' := [.inl (.int a1), .inr (11, 0, 0, 0)]) (P1 := P) rfl ⟨trivial, trivial, trivial⟩ ?_
  refine tr_cax (fun _ => none) (zi := km_155) (fun _ => rfl) (fun _ _ => rfl) rfl rfl (z := km_232) (av := [.inr (11, 0, 0, 0), .inl (.int a1)]) (st' := []) rfl rfl rfl (Nat.le_of_ble_eq_true rfl) ⟨rfl, Or.inl (by decide)⟩ rfl (Nat.le_of_ble_eq_true rfl) (t_232 a1 P) (fun _ P1 => ?_)
  refine tr_blk 3 (pc' := 10) (rows' := kb_155_0.drop 6) (loc' := [.inr (11, 0, 0, 0), .inl (.int a1)]) (st' := [.inl (.int a1), .inr (8, 0, 0, 49)]) (P1 := P1) rfl ⟨trivial, trivial, trivial, trivial⟩ ?_
  refine tr_cWI (z := km_247) (av := [.inr (8, 0, 0, 49), .inl (.int a1)]) (st' := []) rfl rfl rfl (Nat.le_of_ble_eq_true rfl) ⟨rfl, Or.inl (by decide)⟩ rfl (Nat.le_of_ble_eq_true rfl) (t_247 N a1 P1) (fun v3 P2 => ?_)
  exact tr_reI (z := km_155) rfl ⟨_, rfl, rfl⟩ rfl
def f_40_1 (N : Nat) (a1 : Int32) (P : ab_P) : Option (Int32 × ab_P) :=
    ab_h2 (f_155 N a1 P) (fun v2 P1 =>
    ab_lt (ab_pL P1 570 0 (v2).toInt64) fun P3 =>
    some ((0 : Int32), P3))
    (fun P9 => some ((1 : Int32), P9)) (fun _ => none) (fun _ => none)
theorem t_40_1 {xs : Nat × (Nat → Int32)} {d : Nat} (N : Nat) : ∀ (a1 : Int32) (P : ab_P), ab_tr xs wI (d + 5) 40 0 [] [.inr (11, 0, 0, 0), .inl (.int a1), .inr (22, 1, 0, 570), ab_top] [] P (f_40_1 N a1 P) := by
  intro a1 P
  unfold f_40_1
  refine tr_nil (rows2 := kb_40_0) rfl (List.cons_ne_nil _ _) ?_
  refine tr_blk 4 (pc' := 4) (rows' := kb_40_0.drop 4) (loc' := [.inr (11, 0, 0, 0), .inl (.int a1), .inr (22, 1, 0, 570), ab_top]) (st' := [.inl (.int a1), .inr (11, 0, 0, 0), .inl (.int (0 : Int32)), .inr (22, 1, 0, 570)]) (P1 := P) rfl ⟨trivial, trivial, trivial, trivial, trivial⟩ ?_
  refine tr_cah (fun b => some (.inl (.int b))) (zi := km_40) (fun _ => rfl) rfl (z := km_155) (av := [.inr (11, 0, 0, 0), .inl (.int a1)]) (st' := [.inl (.int (0 : Int32)), .inr (22, 1, 0, 570)]) rfl rfl rfl (Nat.le_of_ble_eq_true rfl) ⟨rfl, Or.inl (by decide)⟩ rfl (Nat.le_of_ble_eq_true rfl) (t_155 N a1 P) (fun v2 P1 => ?_) ?_ ?_ ?_
  · refine tr_blk 2 (pc' := 9) (rows' := kb_40_0.drop 7) (loc' := [.inr (11, 0, 0, 0), .inl (.int a1), .inr (22, 1, 0, 570), ab_top]) (st' := []) (P1 := (ab_pL P1 570 0 (v2).toInt64)) rfl ⟨trivial, (ab_vi (by decide)), trivial⟩ ?_
    refine tr_lt (fun P3 => ?_)
    refine tr_goto ?_
    refine tr_nil (rows2 := kb_40_15) rfl (List.cons_ne_nil _ _) ?_
    refine tr_blk 1 (pc' := 16) (rows' := kb_40_15.drop 1) (loc' := [.inr (11, 0, 0, 0), .inl (.int a1), .inr (22, 1, 0, 570), ab_top]) (st' := [.inl (.int (0 : Int32))]) (P1 := P3) rfl ⟨trivial, trivial⟩ ?_
    exact tr_reI (z := km_40) rfl ⟨_, rfl, rfl⟩ rfl
  · exact fun _ => tr_han (rows2 := kb_40_12) (z := km_40) _ (fun q => [.inr (11, 0, 0, 0), .inl (.int a1), .inr (22, 1, 0, 570), .inr (40, 0, 0, q)]) rfl (List.cons_ne_nil _ _) (fun q => rfl) ⟨trivial, trivial, trivial⟩ rfl ⟨_, rfl, rfl⟩ rfl
  · exact fun _ => rfl
  · exact fun _ => rfl
def f_41_38 : Nat → Int32 → Int32 → ab_P → Option (Int32 × ab_P)
  | 0, _, _, _ => none
  | n + 1, x2, x3, P =>
    if (9999 : Int32) < x3 then
      some (x2, P)
    else
    if ab_gi x3 20000 then
    if (P.1 546 x3.toNatClampNeg) = (0 : Int32) then
      f_41_38 n (x2 + (0 : Int32)) (x3 + 1) P
    else
    f_41_38 n (x2 + (1 : Int32)) (x3 + 1) P
    else none
theorem t_41_38 {xs : Nat × (Nat → Int32)} {d : Nat} : ∀ n : Nat, ∀ (x2 : Int32) (x3 : Int32) (d1 : Int32) (P : ab_P), ab_tr xs wI (d + 3) 41 38 [] [.inr (12, 0, 0, 72), .inl (.int d1), .inl (.int x2), .inl (.int x3)] [] P (f_41_38 n x2 x3 P) := by
  intro n
  induction n with
  | zero => intro x2 x3 d1 P; exact tr_no
  | succ n ih =>
    intro x2 x3 d1 P
    refine tr_nil (rows2 := kb_41_38) rfl (List.cons_ne_nil _ _) ?_
    refine tr_blk 2 (pc' := 42) (rows' := kb_41_38.drop 2) (loc' := [.inr (12, 0, 0, 72), .inl (.int d1), .inl (.int x2), .inl (.int x3)]) (st' := [.inl (.int (9999 : Int32)), .inl (.int x3)]) (P1 := P) rfl ⟨trivial, trivial, trivial⟩ ?_
    refine tr_if (fun h7 => ?_) (fun h7 => ?_)
    · refine tr_icT (cd := .gt) h7 ?_
      refine tr_nil (rows2 := kb_41_68) rfl (List.cons_ne_nil _ _) ?_
      refine tr_blk 1 (pc' := 69) (rows' := kb_41_68.drop 1) (loc' := [.inr (12, 0, 0, 72), .inl (.int d1), .inl (.int x2), .inl (.int x3)]) (st' := [.inl (.int x2)]) (P1 := P) rfl ⟨trivial, trivial⟩ ?_
      exact tr_reI (z := km_41) rfl ⟨_, rfl, rfl⟩ rfl
    · refine tr_icF (cd := .gt) h7 ?_
      refine tr_gd (fun h6 => ?_)
      refine tr_blk 5 (pc' := 52) (rows' := kb_41_38.drop 8) (loc' := [.inr (12, 0, 0, 72), .inl (.int d1), .inl (.int x2), .inl (.int x3)]) (st' := [.inl (.int (P.1 546 x3.toNatClampNeg)), .inl (.int x2)]) (P1 := P) rfl ⟨trivial, trivial, trivial, trivial, h6, trivial⟩ ?_
      refine tr_if (fun h8 => ?_) (fun h8 => ?_)
      · refine tr_ifT (cd := .eq) h8 ?_
        refine tr_nil (rows2 := kb_41_59) rfl (List.cons_ne_nil _ _) ?_
        refine tr_blk 1 (pc' := 60) (rows' := kb_41_59.drop 1) (loc' := [.inr (12, 0, 0, 72), .inl (.int d1), .inl (.int x2), .inl (.int x3)]) (st' := [.inl (.int (0 : Int32)), .inl (.int x2)]) (P1 := P) rfl ⟨trivial, trivial⟩ ?_
        refine tr_nil (rows2 := kb_41_60) rfl (List.cons_ne_nil _ _) ?_
        refine tr_blk 3 (pc' := 65) (rows' := kb_41_60.drop 3) (loc' := [.inr (12, 0, 0, 72), .inl (.int d1), .inl (.int (x2 + (0 : Int32))), .inl (.int (x3 + 1))]) (st' := []) (P1 := P) rfl ⟨trivial, trivial, trivial, trivial⟩ ?_
        refine tr_goto ?_
        exact ih (x2 + (0 : Int32)) (x3 + 1) (d1) P
      · refine tr_ifF (cd := .eq) h8 ?_
        refine tr_blk 1 (pc' := 56) (rows' := kb_41_38.drop 10) (loc' := [.inr (12, 0, 0, 72), .inl (.int d1), .inl (.int x2), .inl (.int x3)]) (st' := [.inl (.int (1 : Int32)), .inl (.int x2)]) (P1 := P) rfl ⟨trivial, trivial⟩ ?_
        refine tr_goto ?_
        refine tr_nil (rows2 := kb_41_60) rfl (List.cons_ne_nil _ _) ?_
        refine tr_blk 3 (pc' := 65) (rows' := kb_41_60.drop 3) (loc' := [.inr (12, 0, 0, 72), .inl (.int d1), .inl (.int (x2 + (1 : Int32))), .inl (.int (x3 + 1))]) (st' := []) (P1 := P) rfl ⟨trivial, trivial, trivial, trivial⟩ ?_
        refine tr_goto ?_
        exact ih (x2 + (1 : Int32)) (x3 + 1) (d1) P
def f_41_19 (N : Nat) (x1 : Int32) (s0 : Int32) (P : ab_P) : Option (Int32 × ab_P) :=
    ab_b2 (f_113 s0 (1 : Int32) (0 : Int32) P) fun v4 P3 =>
    if v4 = (0 : Int32) then
      Option.bind (f_154 N x1 P3) fun P5 =>
      f_41_38 N (0 : Int32) (1 : Int32) P5
    else
    some ((0 : Int32), P3)
theorem t_41_19 {xs : Nat × (Nat → Int32)} {d : Nat} (N : Nat) : ∀ (x1 : Int32) (s0 : Int32) (P : ab_P), ab_tr xs wI (d + 3) 41 19 [] [.inr (12, 0, 0, 72), .inl (.int x1), ab_top, ab_top] [.inl (.int s0), .inr (12, 0, 0, 72)] P (f_41_19 N x1 s0 P) := by
  intro x1 s0 P
  unfold f_41_19
  refine tr_nil (rows2 := kb_41_19) rfl (List.cons_ne_nil _ _) ?_
  refine tr_blk 2 (pc' := 21) (rows' := kb_41_19.drop 2) (loc' := [.inr (12, 0, 0, 72), .inl (.int x1), ab_top, ab_top]) (st' := [.inl (.int (0 : Int32)), .inl (.int (1 : Int32)), .inl (.int s0), .inr (12, 0, 0, 72)]) (P1 := P) rfl ⟨trivial, trivial, trivial⟩ ?_
  refine tr_cWI (z := km_113) (av := [.inr (12, 0, 0, 72), .inl (.int s0), .inl (.int (1 : Int32)), .inl (.int (0 : Int32))]) (st' := []) rfl rfl rfl (Nat.le_of_ble_eq_true rfl) ⟨rfl, Or.inl (by decide)⟩ rfl (Nat.le_of_ble_eq_true rfl) (t_113 s0 (1 : Int32) (0 : Int32) P) (fun v4 P3 => ?_)
  refine tr_if (fun h9 => ?_) (fun h9 => ?_)
  · refine tr_ifT (cd := .eq) h9 ?_
    refine tr_nil (rows2 := kb_41_29) rfl (List.cons_ne_nil _ _) ?_
    refine tr_blk 2 (pc' := 31) (rows' := kb_41_29.drop 2) (loc' := [.inr (12, 0, 0, 72), .inl (.int x1), ab_top, ab_top]) (st' := [.inl (.int x1), .inr (12, 0, 0, 72)]) (P1 := P3) rfl ⟨trivial, trivial, trivial⟩ ?_
    refine tr_cWV (z := km_154) (av := [.inr (12, 0, 0, 72), .inl (.int x1)]) (st' := []) rfl rfl rfl (Nat.le_of_ble_eq_true rfl) ⟨rfl, Or.inl (by decide)⟩ rfl (Nat.le_of_ble_eq_true rfl) (t_154 N x1 P3) (fun P5 => ?_)
    refine tr_blk 4 (pc' := 38) (rows' := kb_41_29.drop 7) (loc' := [.inr (12, 0, 0, 72), .inl (.int x1), .inl (.int (0 : Int32)), .inl (.int (1 : Int32))]) (st' := []) (P1 := P5) rfl ⟨trivial, trivial, trivial, trivial, trivial⟩ ?_
    exact t_41_38 N (0 : Int32) (1 : Int32) (x1) P5
  · refine tr_ifF (cd := .eq) h9 ?_
    refine tr_blk 1 (pc' := 28) (rows' := kb_41_19.drop 5) (loc' := [.inr (12, 0, 0, 72), .inl (.int x1), ab_top, ab_top]) (st' := [.inl (.int (0 : Int32))]) (P1 := P3) rfl ⟨trivial, trivial⟩ ?_
    exact tr_reI (z := km_41) rfl ⟨_, rfl, rfl⟩ rfl
def f_41 (N : Nat) (a1 : Int32) (P : ab_P) : Option (Int32 × ab_P) :=
    ab_lt (ab_pI P 72 0 (0 : Int32)) fun P1 =>
    Option.bind (f_137 P1 a1) fun v2 =>
    if v2 = (0 : Int32) then
      f_41_19 N a1 (1 : Int32) P1
    else
    f_41_19 N a1 (0 : Int32) P1
theorem t_41 {xs : Nat × (Nat → Int32)} {d : Nat} (N : Nat) : ∀ (a1 : Int32) (P : ab_P), ab_tr xs wI (d + 3) 41 0 [] [.inr (12, 0, 0, 72), .inl (.int a1), ab_top, ab_top] [] P (f_41 N a1 P) := by
  intro a1 P
  unfold f_41
  refine tr_nil (rows2 := kb_41_0) rfl (List.cons_ne_nil _ _) ?_
  refine tr_blk 3 (pc' := 5) (rows' := kb_41_0.drop 3) (loc' := [.inr (12, 0, 0, 72), .inl (.int a1), ab_top, ab_top]) (st' := []) (P1 := (ab_pI P 72 0 (0 : Int32))) rfl ⟨trivial, trivial, trivial, trivial⟩ ?_
  refine tr_lt (fun P1 => ?_)
  refine tr_blk 3 (pc' := 8) (rows' := kb_41_0.drop 6) (loc' := [.inr (12, 0, 0, 72), .inl (.int a1), ab_top, ab_top]) (st' := [.inl (.int a1), .inr (12, 0, 0, 72), .inr (12, 0, 0, 72)]) (P1 := P1) rfl ⟨trivial, trivial, trivial, trivial⟩ ?_
  refine tr_cRI (z := km_137) (av := [.inr (12, 0, 0, 72), .inl (.int a1)]) (st' := [.inr (12, 0, 0, 72)]) rfl rfl rfl (Nat.le_of_ble_eq_true rfl) ⟨rfl, Or.inl (by decide)⟩ rfl (Nat.le_of_ble_eq_true rfl) (t_137 P1 a1) (fun v2 => ?_)
  refine tr_if (fun h10 => ?_) (fun h10 => ?_)
  · refine tr_ifF (cd := .ne) (fun q => q h10) ?_
    refine tr_blk 1 (pc' := 15) (rows' := kb_41_0.drop 9) (loc' := [.inr (12, 0, 0, 72), .inl (.int a1), ab_top, ab_top]) (st' := [.inl (.int (1 : Int32)), .inr (12, 0, 0, 72)]) (P1 := P1) rfl ⟨trivial, trivial⟩ ?_
    refine tr_goto ?_
    exact t_41_19 N a1 (1 : Int32) P1
  · refine tr_ifT (cd := .ne) h10 ?_
    refine tr_nil (rows2 := kb_41_18) rfl (List.cons_ne_nil _ _) ?_
    refine tr_blk 1 (pc' := 19) (rows' := kb_41_18.drop 1) (loc' := [.inr (12, 0, 0, 72), .inl (.int a1), ab_top, ab_top]) (st' := [.inl (.int (0 : Int32)), .inr (12, 0, 0, 72)]) (P1 := P1) rfl ⟨trivial, trivial⟩ ?_
    exact t_41_19 N a1 (0 : Int32) P1
def f_304 (P : ab_P) (a1 : Int32) (a2 : Int32) : Option Int32 :=
    if ((a1 &&& a2) &&& (-a2)) = (0 : Int32) then
      some (0 : Int32)
    else
    if (a1 &&& (a2 ^^^ (-1 : Int32))) = (0 : Int32) then
      if ab_gi a1 256 then
      if (P.1 55 a1.toNatClampNeg) = (0 : Int32) then
        some (1 : Int32)
      else
      some (0 : Int32)
      else none
    else
    some (0 : Int32)
theorem t_304 {xs : Nat × (Nat → Int32)} {d : Nat} (P : ab_P) : ∀ (a1 : Int32) (a2 : Int32), ab_tr xs (rI P) (d + 0) 304 0 [] [.inr (1, 0, 0, 54), .inl (.int a1), .inl (.int a2)] [] P (f_304 P a1 a2) := by
  intro a1 a2
  unfold f_304
  refine tr_nil (rows2 := kb_304_0) rfl (List.cons_ne_nil _ _) ?_
  refine tr_blk 6 (pc' := 6) (rows' := kb_304_0.drop 6) (loc' := [.inr (1, 0, 0, 54), .inl (.int a1), .inl (.int a2)]) (st' := [.inl (.int ((a1 &&& a2) &&& (-a2)))]) (P1 := P) rfl ⟨trivial, trivial, trivial, trivial, trivial, trivial, trivial⟩ ?_
  refine tr_if (fun h2 => ?_) (fun h2 => ?_)
  · refine tr_ifT (cd := .eq) h2 ?_
    refine tr_nil (rows2 := kb_304_30) rfl (List.cons_ne_nil _ _) ?_
    refine tr_blk 1 (pc' := 31) (rows' := kb_304_30.drop 1) (loc' := [.inr (1, 0, 0, 54), .inl (.int a1), .inl (.int a2)]) (st' := [.inl (.int (0 : Int32))]) (P1 := P) rfl ⟨trivial, trivial⟩ ?_
    refine tr_nil (rows2 := kb_304_31) rfl (List.cons_ne_nil _ _) ?_
    exact tr_reI (z := km_304) rfl ⟨_, rfl, rfl⟩ rfl
  · refine tr_ifF (cd := .eq) h2 ?_
    refine tr_blk 5 (pc' := 14) (rows' := kb_304_0.drop 12) (loc' := [.inr (1, 0, 0, 54), .inl (.int a1), .inl (.int a2)]) (st' := [.inl (.int (a1 &&& (a2 ^^^ (-1 : Int32))))]) (P1 := P) rfl ⟨trivial, trivial, trivial, trivial, trivial, trivial⟩ ?_
    refine tr_if (fun h3 => ?_) (fun h3 => ?_)
    · refine tr_ifF (cd := .ne) (fun q => q h3) ?_
      refine tr_gd (fun h1 => ?_)
      refine tr_blk 4 (pc' := 23) (rows' := kb_304_0.drop 17) (loc' := [.inr (1, 0, 0, 54), .inl (.int a1), .inl (.int a2)]) (st' := [.inl (.int (P.1 55 a1.toNatClampNeg))]) (P1 := P) rfl ⟨trivial, trivial, trivial, h1, trivial⟩ ?_
      refine tr_if (fun h4 => ?_) (fun h4 => ?_)
      · refine tr_ifF (cd := .ne) (fun q => q h4) ?_
        refine tr_blk 1 (pc' := 27) (rows' := kb_304_0.drop 19) (loc' := [.inr (1, 0, 0, 54), .inl (.int a1), .inl (.int a2)]) (st' := [.inl (.int (1 : Int32))]) (P1 := P) rfl ⟨trivial, trivial⟩ ?_
        refine tr_goto ?_
        refine tr_nil (rows2 := kb_304_31) rfl (List.cons_ne_nil _ _) ?_
        exact tr_reI (z := km_304) rfl ⟨_, rfl, rfl⟩ rfl
      · refine tr_ifT (cd := .ne) h4 ?_
        refine tr_nil (rows2 := kb_304_30) rfl (List.cons_ne_nil _ _) ?_
        refine tr_blk 1 (pc' := 31) (rows' := kb_304_30.drop 1) (loc' := [.inr (1, 0, 0, 54), .inl (.int a1), .inl (.int a2)]) (st' := [.inl (.int (0 : Int32))]) (P1 := P) rfl ⟨trivial, trivial⟩ ?_
        refine tr_nil (rows2 := kb_304_31) rfl (List.cons_ne_nil _ _) ?_
        exact tr_reI (z := km_304) rfl ⟨_, rfl, rfl⟩ rfl
    · refine tr_ifT (cd := .ne) h3 ?_
      refine tr_nil (rows2 := kb_304_30) rfl (List.cons_ne_nil _ _) ?_
      refine tr_blk 1 (pc' := 31) (rows' := kb_304_30.drop 1) (loc' := [.inr (1, 0, 0, 54), .inl (.int a1), .inl (.int a2)]) (st' := [.inl (.int (0 : Int32))]) (P1 := P) rfl ⟨trivial, trivial⟩ ?_
      refine tr_nil (rows2 := kb_304_31) rfl (List.cons_ne_nil _ _) ?_
      exact tr_reI (z := km_304) rfl ⟨_, rfl, rfl⟩ rfl
def f_305_2 (P : ab_P) : Nat → Int32 → Int32 → Option Int32
  | 0, _, _ => none
  | n + 1, x1, x2 =>
    if x2 < x1 then
      Option.bind (f_304 P x2 x1) fun v1 =>
      if v1 = (0 : Int32) then
        f_305_2 P n x1 (x2 + 1)
      else
      if ab_gi (x1 ^^^ x2) 256 then
      if ab_gi x1 256 then
      if ((1 : Int32) + (P.1 56 ((x1 ^^^ x2)).toNatClampNeg)) = (P.1 56 x1.toNatClampNeg) then
        some x2
      else
      f_305_2 P n x1 (x2 + 1)
      else none
      else none
    else
    some x1
theorem t_305_2 {xs : Nat × (Nat → Int32)} {d : Nat} (P : ab_P) : ∀ n : Nat, ∀ (x1 : Int32) (x2 : Int32), ab_tr xs (rI P) (d + 1) 305 2 [] [.inr (1, 0, 0, 54), .inl (.int x1), .inl (.int x2)] [] P (f_305_2 P n x1 x2) := by
  intro n
  induction n with
  | zero => intro x1 x2; exact tr_no
  | succ n ih =>
    intro x1 x2
    refine tr_nil (rows2 := kb_305_2) rfl (List.cons_ne_nil _ _) ?_
    refine tr_blk 2 (pc' := 4) (rows' := kb_305_2.drop 2) (loc' := [.inr (1, 0, 0, 54), .inl (.int x1), .inl (.int x2)]) (st' := [.inl (.int x1), .inl (.int x2)]) (P1 := P) rfl ⟨trivial, trivial, trivial⟩ ?_
    refine tr_if (fun h4 => ?_) (fun h4 => ?_)
    · refine tr_icF (cd := .ge) (Int32.not_le.mpr h4) ?_
      refine tr_blk 3 (pc' := 10) (rows' := kb_305_2.drop 6) (loc' := [.inr (1, 0, 0, 54), .inl (.int x1), .inl (.int x2)]) (st' := [.inl (.int x1), .inl (.int x2), .inr (1, 0, 0, 54)]) (P1 := P) rfl ⟨trivial, trivial, trivial, trivial⟩ ?_
      refine tr_cRI (z := km_304) (av := [.inr (1, 0, 0, 54), .inl (.int x2), .inl (.int x1)]) (st' := []) rfl rfl rfl (Nat.le_of_ble_eq_true rfl) ⟨rfl, Or.inl (by decide)⟩ rfl (Nat.le_of_ble_eq_true rfl) (t_304 P x2 x1) (fun v1 => ?_)
      refine tr_if (fun h5 => ?_) (fun h5 => ?_)
      · refine tr_ifT (cd := .eq) h5 ?_
        refine tr_nil (rows2 := kb_305_37) rfl (List.cons_ne_nil _ _) ?_
        refine tr_blk 1 (pc' := 40) (rows' := kb_305_37.drop 1) (loc' := [.inr (1, 0, 0, 54), .inl (.int x1), .inl (.int (x2 + 1))]) (st' := []) (P1 := P) rfl ⟨trivial, trivial⟩ ?_
        refine tr_goto ?_
        exact ih x1 (x2 + 1)
      · refine tr_ifF (cd := .eq) h5 ?_
        refine tr_gd (fun h2 => ?_)
        refine tr_gd (fun h3 => ?_)
        refine tr_blk 12 (pc' := 32) (rows' := kb_305_2.drop 20) (loc' := [.inr (1, 0, 0, 54), .inl (.int x1), .inl (.int x2)]) (st' := [.inl (.int (P.1 56 x1.toNatClampNeg)), .inl (.int ((1 : Int32) + (P.1 56 ((x1 ^^^ x2)).toNatClampNeg)))]) (P1 := P) rfl ⟨trivial, trivial, trivial, trivial, trivial, trivial, h2, trivial, trivial, trivial, trivial, h3, trivial⟩ ?_
        refine tr_if (fun h6 => ?_) (fun h6 => ?_)
        · refine tr_icF (cd := .ne) (fun q => q h6) ?_
          refine tr_blk 1 (pc' := 36) (rows' := kb_305_2.drop 22) (loc' := [.inr (1, 0, 0, 54), .inl (.int x1), .inl (.int x2)]) (st' := [.inl (.int x2)]) (P1 := P) rfl ⟨trivial, trivial⟩ ?_
          exact tr_reI (z := km_305) rfl ⟨_, rfl, rfl⟩ rfl
        · refine tr_icT (cd := .ne) h6 ?_
          refine tr_nil (rows2 := kb_305_37) rfl (List.cons_ne_nil _ _) ?_
          refine tr_blk 1 (pc' := 40) (rows' := kb_305_37.drop 1) (loc' := [.inr (1, 0, 0, 54), .inl (.int x1), .inl (.int (x2 + 1))]) (st' := []) (P1 := P) rfl ⟨trivial, trivial⟩ ?_
          refine tr_goto ?_
          exact ih x1 (x2 + 1)
    · refine tr_icT (cd := .ge) (Int32.not_lt.mp h4) ?_
      refine tr_nil (rows2 := kb_305_43) rfl (List.cons_ne_nil _ _) ?_
      refine tr_blk 1 (pc' := 44) (rows' := kb_305_43.drop 1) (loc' := [.inr (1, 0, 0, 54), .inl (.int x1), .inl (.int x2)]) (st' := [.inl (.int x1)]) (P1 := P) rfl ⟨trivial, trivial⟩ ?_
      exact tr_reI (z := km_305) rfl ⟨_, rfl, rfl⟩ rfl
def f_305 (N : Nat) (P : ab_P) (a1 : Int32) : Option Int32 :=
    f_305_2 P N a1 (1 : Int32)
theorem t_305 {xs : Nat × (Nat → Int32)} {d : Nat} (N : Nat) (P : ab_P) : ∀ (a1 : Int32), ab_tr xs (rI P) (d + 1) 305 0 [] [.inr (1, 0, 0, 54), .inl (.int a1), ab_top] [] P (f_305 N P a1) := by
  intro a1
  unfold f_305
  refine tr_nil (rows2 := kb_305_0) rfl (List.cons_ne_nil _ _) ?_
  refine tr_blk 2 (pc' := 2) (rows' := kb_305_0.drop 2) (loc' := [.inr (1, 0, 0, 54), .inl (.int a1), .inl (.int (1 : Int32))]) (st' := []) (P1 := P) rfl ⟨trivial, trivial, trivial⟩ ?_
  exact t_305_2 P N a1 (1 : Int32)
def f_250_12 (N : Nat) : Nat → Int32 → Int32 → ab_P → Option ab_P
  | 0, _, _, _ => none
  | n + 1, x1, x2, P =>
    if x2 < (8 : Int32) then
      if x1 = (0 : Int32) then
        some P
      else
      Option.bind (f_305 N P x1) fun v2 =>
      if ab_gi x2 8 then
      ab_lt (ab_pI P 57 x2.toNatClampNeg v2) fun P4 =>
      ab_lt (ab_pI P4 54 7 ((P4.1 54 7) + (1 : Int32))) fun P5 =>
      f_250_12 N n (x1 ^^^ v2) (x2 + 1) P5
      else none
    else
    some P
theorem t_250_12 {xs : Nat × (Nat → Int32)} {d : Nat} (N : Nat) : ∀ n : Nat, ∀ (x1 : Int32) (x2 : Int32) (d3 : ab_V) (P : ab_P), ab_tr xs wV (d + 2) 250 12 [] [.inr (1, 0, 0, 54), .inl (.int x1), .inl (.int x2), d3] [] P (f_250_12 N n x1 x2 P) := by
  intro n
  induction n with
  | zero => intro x1 x2 d3 P; exact tr_no
  | succ n ih =>
    intro x1 x2 d3 P
    refine tr_nil (rows2 := kb_250_12) rfl (List.cons_ne_nil _ _) ?_
    refine tr_blk 2 (pc' := 15) (rows' := kb_250_12.drop 2) (loc' := [.inr (1, 0, 0, 54), .inl (.int x1), .inl (.int x2), d3]) (st' := [.inl (.int (8 : Int32)), .inl (.int x2)]) (P1 := P) rfl ⟨trivial, trivial, trivial⟩ ?_
    refine tr_if (fun h6 => ?_) (fun h6 => ?_)
    · refine tr_icF (cd := .ge) (Int32.not_le.mpr h6) ?_
      refine tr_blk 1 (pc' := 19) (rows' := kb_250_12.drop 4) (loc' := [.inr (1, 0, 0, 54), .inl (.int x1), .inl (.int x2), d3]) (st' := [.inl (.int x1)]) (P1 := P) rfl ⟨trivial, trivial⟩ ?_
      refine tr_if (fun h7 => ?_) (fun h7 => ?_)
      · refine tr_ifT (cd := .eq) h7 ?_
        refine tr_nil (rows2 := kb_250_55) rfl (List.cons_ne_nil _ _) ?_
        exact tr_reV (z := km_250) rfl rfl rfl
      · refine tr_ifF (cd := .eq) h7 ?_
        refine tr_blk 2 (pc' := 24) (rows' := kb_250_12.drop 7) (loc' := [.inr (1, 0, 0, 54), .inl (.int x1), .inl (.int x2), d3]) (st' := [.inl (.int x1), .inr (1, 0, 0, 54)]) (P1 := P) rfl ⟨trivial, trivial, trivial⟩ ?_
        refine tr_cRI (z := km_305) (av := [.inr (1, 0, 0, 54), .inl (.int x1)]) (st' := []) rfl rfl rfl (Nat.le_of_ble_eq_true rfl) ⟨rfl, Or.inl (by decide)⟩ rfl (Nat.le_of_ble_eq_true rfl) (t_305 N P x1) (fun v2 => ?_)
        refine tr_gd (fun h3 => ?_)
        refine tr_blk 6 (pc' := 35) (rows' := kb_250_12.drop 14) (loc' := [.inr (1, 0, 0, 54), .inl (.int x1), .inl (.int x2), .inl (.int v2)]) (st' := []) (P1 := (ab_pI P 57 x2.toNatClampNeg v2)) rfl ⟨trivial, trivial, trivial, trivial, trivial, h3, trivial⟩ ?_
        refine tr_lt (fun P4 => ?_)
        refine tr_blk 6 (pc' := 45) (rows' := kb_250_12.drop 20) (loc' := [.inr (1, 0, 0, 54), .inl (.int x1), .inl (.int x2), .inl (.int v2)]) (st' := []) (P1 := (ab_pI P4 54 7 ((P4.1 54 7) + (1 : Int32)))) rfl ⟨trivial, trivial, trivial, trivial, trivial, trivial, trivial⟩ ?_
        refine tr_lt (fun P5 => ?_)
        refine tr_blk 5 (pc' := 52) (rows' := kb_250_12.drop 25) (loc' := [.inr (1, 0, 0, 54), .inl (.int (x1 ^^^ v2)), .inl (.int (x2 + 1)), .inl (.int v2)]) (st' := []) (P1 := P5) rfl ⟨trivial, trivial, trivial, trivial, trivial, trivial⟩ ?_
        refine tr_goto ?_
        exact ih (x1 ^^^ v2) (x2 + 1) (.inl (.int v2)) P5
    · refine tr_icT (cd := .ge) (Int32.not_lt.mp h6) ?_
      refine tr_nil (rows2 := kb_250_55) rfl (List.cons_ne_nil _ _) ?_
      exact tr_reV (z := km_250) rfl rfl rfl
def f_250 (N : Nat) (P : ab_P) : Option ab_P :=
    ab_lt (ab_pI P 54 7 (0 : Int32)) fun P1 =>
    f_250_12 N N (P1.1 54 6) (0 : Int32) P1
theorem t_250 {xs : Nat × (Nat → Int32)} {d : Nat} (N : Nat) : ∀ (P : ab_P), ab_tr xs wV (d + 2) 250 0 [] [.inr (1, 0, 0, 54), ab_top, ab_top, ab_top] [] P (f_250 N P) := by
  intro P
  unfold f_250
  refine tr_nil (rows2 := kb_250_0) rfl (List.cons_ne_nil _ _) ?_
  refine tr_blk 3 (pc' := 5) (rows' := kb_250_0.drop 3) (loc' := [.inr (1, 0, 0, 54), ab_top, ab_top, ab_top]) (st' := []) (P1 := (ab_pI P 54 7 (0 : Int32))) rfl ⟨trivial, trivial, trivial, trivial⟩ ?_
  refine tr_lt (fun P1 => ?_)
  refine tr_blk 5 (pc' := 12) (rows' := kb_250_0.drop 8) (loc' := [.inr (1, 0, 0, 54), .inl (.int (P1.1 54 6)), .inl (.int (0 : Int32)), ab_top]) (st' := []) (P1 := P1) rfl ⟨trivial, trivial, trivial, trivial, trivial, trivial⟩ ?_
  exact t_250_12 N N (P1.1 54 6) (0 : Int32) (ab_top) P1
def f_249_48 : Nat → Int32 → Int32 → ab_P → Option ab_P
  | 0, _, _, _ => none
  | n + 1, x1, x4, P =>
    if x1 < x4 then
      some P
    else
    Option.bind (f_304 P x4 x1) fun v8 =>
    if v8 = (0 : Int32) then
      f_249_48 n x1 (x4 + 1) P
    else
    if ab_gi x1 256 then
    if ab_gi (x1 ^^^ x4) 256 then
    if ab_gi x1 256 then
    ab_lt (ab_pI P 56 x1.toNatClampNeg (ab_mx (P.1 56 x1.toNatClampNeg) ((1 : Int32) + (P.1 56 ((x1 ^^^ x4)).toNatClampNeg)))) fun P12 =>
    f_249_48 n x1 (x4 + 1) P12
    else none
    else none
    else none
theorem t_249_48 {xs : Nat × (Nat → Int32)} {d : Nat} : ∀ n : Nat, ∀ (x1 : Int32) (x4 : Int32) (d2 : Int32) (d3 : Int32) (P : ab_P), ab_tr xs wV (d + 1) 249 48 [] [.inr (1, 0, 0, 54), .inl (.int x1), .inl (.int d2), .inl (.int d3), .inl (.int x4)] [] P (f_249_48 n x1 x4 P) := by
  intro n
  induction n with
  | zero => intro x1 x4 d2 d3 P; exact tr_no
  | succ n ih =>
    intro x1 x4 d2 d3 P
    refine tr_nil (rows2 := kb_249_48) rfl (List.cons_ne_nil _ _) ?_
    refine tr_blk 2 (pc' := 51) (rows' := kb_249_48.drop 2) (loc' := [.inr (1, 0, 0, 54), .inl (.int x1), .inl (.int d2), .inl (.int d3), .inl (.int x4)]) (st' := [.inl (.int x1), .inl (.int x4)]) (P1 := P) rfl ⟨trivial, trivial, trivial⟩ ?_
    refine tr_if (fun h13 => ?_) (fun h13 => ?_)
    · refine tr_icT (cd := .gt) h13 ?_
      refine tr_nil (rows2 := kb_249_96) rfl (List.cons_ne_nil _ _) ?_
      exact tr_reV (z := km_249) rfl rfl rfl
    · refine tr_icF (cd := .gt) h13 ?_
      refine tr_blk 3 (pc' := 58) (rows' := kb_249_48.drop 6) (loc' := [.inr (1, 0, 0, 54), .inl (.int x1), .inl (.int d2), .inl (.int d3), .inl (.int x4)]) (st' := [.inl (.int x1), .inl (.int x4), .inr (1, 0, 0, 54)]) (P1 := P) rfl ⟨trivial, trivial, trivial, trivial⟩ ?_
      refine tr_cRI (z := km_304) (av := [.inr (1, 0, 0, 54), .inl (.int x4), .inl (.int x1)]) (st' := []) rfl rfl rfl (Nat.le_of_ble_eq_true rfl) ⟨rfl, Or.inl (by decide)⟩ rfl (Nat.le_of_ble_eq_true rfl) (t_304 P x4 x1) (fun v8 => ?_)
      refine tr_if (fun h14 => ?_) (fun h14 => ?_)
      · refine tr_ifT (cd := .eq) h14 ?_
        refine tr_nil (rows2 := kb_249_90) rfl (List.cons_ne_nil _ _) ?_
        refine tr_blk 1 (pc' := 93) (rows' := kb_249_90.drop 1) (loc' := [.inr (1, 0, 0, 54), .inl (.int x1), .inl (.int d2), .inl (.int d3), .inl (.int (x4 + 1))]) (st' := []) (P1 := P) rfl ⟨trivial, trivial⟩ ?_
        refine tr_goto ?_
        exact ih x1 (x4 + 1) (d2) (d3) P
      · refine tr_ifF (cd := .eq) h14 ?_
        refine tr_gd (fun h9 => ?_)
        refine tr_gd (fun h10 => ?_)
        refine tr_gd (fun h11 => ?_)
        refine tr_blk 17 (pc' := 90) (rows' := kb_249_48.drop 25) (loc' := [.inr (1, 0, 0, 54), .inl (.int x1), .inl (.int d2), .inl (.int d3), .inl (.int x4)]) (st' := []) (P1 := (ab_pI P 56 x1.toNatClampNeg (ab_mx (P.1 56 x1.toNatClampNeg) ((1 : Int32) + (P.1 56 ((x1 ^^^ x4)).toNatClampNeg))))) rfl ⟨trivial, trivial, trivial, trivial, trivial, trivial, h9, trivial, trivial, trivial, trivial, trivial, trivial, h10, trivial, (Nat.le_of_ble_eq_true rfl), h11, trivial⟩ ?_
        refine tr_lt (fun P12 => ?_)
        refine tr_nil (rows2 := kb_249_90) rfl (List.cons_ne_nil _ _) ?_
        refine tr_blk 1 (pc' := 93) (rows' := kb_249_90.drop 1) (loc' := [.inr (1, 0, 0, 54), .inl (.int x1), .inl (.int d2), .inl (.int d3), .inl (.int (x4 + 1))]) (st' := []) (P1 := P12) rfl ⟨trivial, trivial⟩ ?_
        refine tr_goto ?_
        exact ih x1 (x4 + 1) (d2) (d3) P12
def f_249 (N : Nat) (a1 : Int32) (P : ab_P) : Option ab_P :=
    if ab_gi (a1 &&& (-a1)) 256 then
    if ab_gi (a1 ^^^ (a1 &&& (-a1))) 256 then
    if ab_gi a1 256 then
    ab_lt (ab_pI P 55 a1.toNatClampNeg ((P.1 55 ((a1 &&& (-a1))).toNatClampNeg) + (P.1 55 ((a1 ^^^ (a1 &&& (-a1)))).toNatClampNeg))) fun P4 =>
    if ab_gi a1 256 then
    ab_lt (ab_pI P4 56 a1.toNatClampNeg (0 : Int32)) fun P6 =>
    if ab_gi a1 256 then
    if (P6.1 55 a1.toNatClampNeg) = (0 : Int32) then
      f_249_48 N a1 (a1 &&& (-a1)) P6
    else
    some P6
    else none
    else none
    else none
    else none
    else none
theorem t_249 {xs : Nat × (Nat → Int32)} {d : Nat} (N : Nat) : ∀ (a1 : Int32) (P : ab_P), ab_tr xs wV (d + 1) 249 0 [] [.inr (1, 0, 0, 54), .inl (.int a1), ab_top, ab_top, ab_top] [] P (f_249 N a1 P) := by
  intro a1 P
  unfold f_249
  refine tr_nil (rows2 := kb_249_0) rfl (List.cons_ne_nil _ _) ?_
  refine tr_gd (fun h1 => ?_)
  refine tr_gd (fun h2 => ?_)
  refine tr_gd (fun h3 => ?_)
  refine tr_blk 22 (pc' := 28) (rows' := kb_249_0.drop 22) (loc' := [.inr (1, 0, 0, 54), .inl (.int a1), .inl (.int (a1 &&& (-a1))), .inl (.int (a1 ^^^ (a1 &&& (-a1)))), ab_top]) (st' := []) (P1 := (ab_pI P 55 a1.toNatClampNeg ((P.1 55 ((a1 &&& (-a1))).toNatClampNeg) + (P.1 55 ((a1 ^^^ (a1 &&& (-a1)))).toNatClampNeg)))) rfl ⟨trivial, trivial, trivial, trivial, trivial, trivial, trivial, trivial, trivial, trivial, trivial, trivial, trivial, trivial, trivial, h1, trivial, trivial, trivial, h2, trivial, h3, trivial⟩ ?_
  refine tr_lt (fun P4 => ?_)
  refine tr_gd (fun h5 => ?_)
  refine tr_blk 5 (pc' := 35) (rows' := kb_249_0.drop 27) (loc' := [.inr (1, 0, 0, 54), .inl (.int a1), .inl (.int (a1 &&& (-a1))), .inl (.int (a1 ^^^ (a1 &&& (-a1)))), ab_top]) (st' := []) (P1 := (ab_pI P4 56 a1.toNatClampNeg (0 : Int32))) rfl ⟨trivial, trivial, trivial, trivial, h5, trivial⟩ ?_
  refine tr_lt (fun P6 => ?_)
  refine tr_gd (fun h7 => ?_)
  refine tr_blk 4 (pc' := 41) (rows' := kb_249_0.drop 31) (loc' := [.inr (1, 0, 0, 54), .inl (.int a1), .inl (.int (a1 &&& (-a1))), .inl (.int (a1 ^^^ (a1 &&& (-a1)))), ab_top]) (st' := [.inl (.int (P6.1 55 a1.toNatClampNeg))]) (P1 := P6) rfl ⟨trivial, trivial, trivial, h7, trivial⟩ ?_
  refine tr_if (fun h15 => ?_) (fun h15 => ?_)
  · refine tr_ifT (cd := .eq) h15 ?_
    refine tr_nil (rows2 := kb_249_45) rfl (List.cons_ne_nil _ _) ?_
    refine tr_blk 2 (pc' := 48) (rows' := kb_249_45.drop 2) (loc' := [.inr (1, 0, 0, 54), .inl (.int a1), .inl (.int (a1 &&& (-a1))), .inl (.int (a1 ^^^ (a1 &&& (-a1)))), .inl (.int (a1 &&& (-a1)))]) (st' := []) (P1 := P6) rfl ⟨trivial, trivial, trivial⟩ ?_
    exact t_249_48 N a1 (a1 &&& (-a1)) ((a1 &&& (-a1))) ((a1 ^^^ (a1 &&& (-a1)))) P6
  · refine tr_ifF (cd := .eq) h15 ?_
    exact tr_reV (z := km_249) rfl rfl rfl
def f_159_85 (N : Nat) : Nat → Int32 → ab_P → Option ab_P
  | 0, _, _ => none
  | n + 1, x1, P =>
    if x1 < (256 : Int32) then
      if (x1 &&& ((P.1 54 6) ^^^ (-1 : Int32))) = (0 : Int32) then
        Option.bind (f_249 N x1 P) fun P10 =>
        f_159_85 N n (x1 + 1) P10
      else
      f_159_85 N n (x1 + 1) P
    else
    Option.bind (f_250 N P) fun P9 =>
    some P9
theorem t_159_85 {xs : Nat × (Nat → Int32)} {d : Nat} (N : Nat) : ∀ n : Nat, ∀ (x1 : Int32) (d2 : ab_V) (P : ab_P), ab_tr xs wV (d + 3) 159 85 [] [.inr (1, 0, 0, 54), .inl (.int x1), d2] [] P (f_159_85 N n x1 P) := by
  intro n
  induction n with
  | zero => intro x1 d2 P; exact tr_no
  | succ n ih =>
    intro x1 d2 P
    refine tr_nil (rows2 := kb_159_85) rfl (List.cons_ne_nil _ _) ?_
    refine tr_blk 2 (pc' := 89) (rows' := kb_159_85.drop 2) (loc' := [.inr (1, 0, 0, 54), .inl (.int x1), d2]) (st' := [.inl (.int (256 : Int32)), .inl (.int x1)]) (P1 := P) rfl ⟨trivial, trivial, trivial⟩ ?_
    refine tr_if (fun h11 => ?_) (fun h11 => ?_)
    · refine tr_icF (cd := .ge) (Int32.not_le.mpr h11) ?_
      refine tr_blk 6 (pc' := 100) (rows' := kb_159_85.drop 9) (loc' := [.inr (1, 0, 0, 54), .inl (.int x1), d2]) (st' := [.inl (.int (x1 &&& ((P.1 54 6) ^^^ (-1 : Int32))))]) (P1 := P) rfl ⟨trivial, trivial, trivial, trivial, trivial, trivial, trivial⟩ ?_
      refine tr_if (fun h12 => ?_) (fun h12 => ?_)
      · refine tr_ifF (cd := .ne) (fun q => q h12) ?_
        refine tr_blk 2 (pc' := 105) (rows' := kb_159_85.drop 12) (loc' := [.inr (1, 0, 0, 54), .inl (.int x1), d2]) (st' := [.inl (.int x1), .inr (1, 0, 0, 54)]) (P1 := P) rfl ⟨trivial, trivial, trivial⟩ ?_
        refine tr_cWV (z := km_249) (av := [.inr (1, 0, 0, 54), .inl (.int x1)]) (st' := []) rfl rfl rfl (Nat.le_of_ble_eq_true rfl) ⟨rfl, Or.inl (by decide)⟩ rfl (Nat.le_of_ble_eq_true rfl) (t_249 N x1 P) (fun P10 => ?_)
        refine tr_nil (rows2 := kb_159_108) rfl (List.cons_ne_nil _ _) ?_
        refine tr_blk 1 (pc' := 111) (rows' := kb_159_108.drop 1) (loc' := [.inr (1, 0, 0, 54), .inl (.int (x1 + 1)), d2]) (st' := []) (P1 := P10) rfl ⟨trivial, trivial⟩ ?_
        refine tr_goto ?_
        exact ih (x1 + 1) (d2) P10
      · refine tr_ifT (cd := .ne) h12 ?_
        refine tr_nil (rows2 := kb_159_108) rfl (List.cons_ne_nil _ _) ?_
        refine tr_blk 1 (pc' := 111) (rows' := kb_159_108.drop 1) (loc' := [.inr (1, 0, 0, 54), .inl (.int (x1 + 1)), d2]) (st' := []) (P1 := P) rfl ⟨trivial, trivial⟩ ?_
        refine tr_goto ?_
        exact ih (x1 + 1) (d2) P
    · refine tr_icT (cd := .ge) (Int32.not_lt.mp h11) ?_
      refine tr_nil (rows2 := kb_159_114) rfl (List.cons_ne_nil _ _) ?_
      refine tr_blk 1 (pc' := 115) (rows' := kb_159_114.drop 1) (loc' := [.inr (1, 0, 0, 54), .inl (.int x1), d2]) (st' := [.inr (1, 0, 0, 54)]) (P1 := P) rfl ⟨trivial, trivial⟩ ?_
      refine tr_cWV (z := km_250) (av := [.inr (1, 0, 0, 54)]) (st' := []) rfl rfl rfl (Nat.le_of_ble_eq_true rfl) ⟨rfl, Or.inl (by decide)⟩ rfl (Nat.le_of_ble_eq_true rfl) (t_250 N P) (fun P9 => ?_)
      exact tr_reV (z := km_159) rfl rfl rfl
def f_159_21 (N : Nat) : Nat → Int32 → ab_P → Option ab_P
  | 0, _, _ => none
  | n + 1, x1, P =>
    if x1 < (P.1 3 5) then
      if x1 < (8 : Int32) then
        Option.bind (f_186 43 N P x1 (0 : Int32)) fun v4 =>
        if ab_gi ((1 : Int32) <<< (x1 &&& 31)) 256 then
        ab_lt (ab_pI P 55 (((1 : Int32) <<< (x1 &&& 31))).toNatClampNeg v4) fun P6 =>
        if v4 = (0 : Int32) then
          ab_lt (ab_pI P6 54 6 ((P6.1 54 6) ||| (0 : Int32))) fun P7 =>
          f_159_21 N n (x1 + 1) P7
        else
        ab_lt (ab_pI P6 54 6 ((P6.1 54 6) ||| ((1 : Int32) <<< (x1 &&& 31)))) fun P8 =>
        f_159_21 N n (x1 + 1) P8
        else none
      else
      f_159_85 N N (1 : Int32) P
    else
    f_159_85 N N (1 : Int32) P
theorem t_159_21 {xs : Nat × (Nat → Int32)} {d : Nat} (N : Nat) : ∀ n : Nat, ∀ (x1 : Int32) (d2 : ab_V) (P : ab_P), ab_tr xs wV (d + 3) 159 21 [] [.inr (1, 0, 0, 54), .inl (.int x1), d2] [] P (f_159_21 N n x1 P) := by
  intro n
  induction n with
  | zero => intro x1 d2 P; exact tr_no
  | succ n ih =>
    intro x1 d2 P
    refine tr_nil (rows2 := kb_159_21) rfl (List.cons_ne_nil _ _) ?_
    refine tr_blk 4 (pc' := 29) (rows' := kb_159_21.drop 4) (loc' := [.inr (1, 0, 0, 54), .inl (.int x1), d2]) (st' := [.inl (.int (P.1 3 5)), .inl (.int x1)]) (P1 := P) rfl ⟨trivial, trivial, trivial, trivial, trivial⟩ ?_
    refine tr_if (fun h13 => ?_) (fun h13 => ?_)
    · refine tr_icF (cd := .ge) (Int32.not_le.mpr h13) ?_
      refine tr_blk 2 (pc' := 35) (rows' := kb_159_21.drop 7) (loc' := [.inr (1, 0, 0, 54), .inl (.int x1), d2]) (st' := [.inl (.int (8 : Int32)), .inl (.int x1)]) (P1 := P) rfl ⟨trivial, trivial, trivial⟩ ?_
      refine tr_if (fun h14 => ?_) (fun h14 => ?_)
      · refine tr_icF (cd := .ge) (Int32.not_le.mpr h14) ?_
        refine tr_blk 4 (pc' := 44) (rows' := kb_159_21.drop 12) (loc' := [.inr (1, 0, 0, 54), .inl (.int x1), d2]) (st' := [.inl (.int (0 : Int32)), .inl (.int x1), .inr (6, 0, 0, 43)]) (P1 := P) rfl ⟨trivial, trivial, trivial, trivial, trivial⟩ ?_
        refine tr_cRI (z := km_186) (av := [.inr (6, 0, 0, 43), .inl (.int x1), .inl (.int (0 : Int32))]) (st' := []) rfl rfl rfl (Nat.le_of_ble_eq_true rfl) ⟨rfl, Or.inl (by decide)⟩ rfl (Nat.le_of_ble_eq_true rfl) (t_186 43 N P x1 (0 : Int32)) (fun v4 => ?_)
        refine tr_gd (fun h5 => ?_)
        refine tr_blk 8 (pc' := 57) (rows' := kb_159_21.drop 21) (loc' := [.inr (1, 0, 0, 54), .inl (.int x1), .inl (.int v4)]) (st' := []) (P1 := (ab_pI P 55 (((1 : Int32) <<< (x1 &&& 31))).toNatClampNeg v4)) rfl ⟨trivial, trivial, trivial, trivial, trivial, trivial, trivial, h5, trivial⟩ ?_
        refine tr_lt (fun P6 => ?_)
        refine tr_blk 4 (pc' := 63) (rows' := kb_159_21.drop 25) (loc' := [.inr (1, 0, 0, 54), .inl (.int x1), .inl (.int v4)]) (st' := [.inl (.int v4), .inl (.int (P6.1 54 6)), .inr (1, 0, 0, 54)]) (P1 := P6) rfl ⟨trivial, trivial, trivial, trivial, trivial⟩ ?_
        refine tr_if (fun h15 => ?_) (fun h15 => ?_)
        · refine tr_ifT (cd := .eq) h15 ?_
          refine tr_nil (rows2 := kb_159_72) rfl (List.cons_ne_nil _ _) ?_
          refine tr_blk 1 (pc' := 73) (rows' := kb_159_72.drop 1) (loc' := [.inr (1, 0, 0, 54), .inl (.int x1), .inl (.int v4)]) (st' := [.inl (.int (0 : Int32)), .inl (.int (P6.1 54 6)), .inr (1, 0, 0, 54)]) (P1 := P6) rfl ⟨trivial, trivial⟩ ?_
          refine tr_nil (rows2 := kb_159_73) rfl (List.cons_ne_nil _ _) ?_
          refine tr_blk 2 (pc' := 77) (rows' := kb_159_73.drop 2) (loc' := [.inr (1, 0, 0, 54), .inl (.int x1), .inl (.int v4)]) (st' := []) (P1 := (ab_pI P6 54 6 ((P6.1 54 6) ||| (0 : Int32)))) rfl ⟨trivial, trivial, trivial⟩ ?_
          refine tr_lt (fun P7 => ?_)
          refine tr_blk 1 (pc' := 80) (rows' := kb_159_73.drop 3) (loc' := [.inr (1, 0, 0, 54), .inl (.int (x1 + 1)), .inl (.int v4)]) (st' := []) (P1 := P7) rfl ⟨trivial, trivial⟩ ?_
          refine tr_goto ?_
          exact ih (x1 + 1) (.inl (.int v4)) P7
        · refine tr_ifF (cd := .eq) h15 ?_
          refine tr_blk 3 (pc' := 69) (rows' := kb_159_21.drop 29) (loc' := [.inr (1, 0, 0, 54), .inl (.int x1), .inl (.int v4)]) (st' := [.inl (.int ((1 : Int32) <<< (x1 &&& 31))), .inl (.int (P6.1 54 6)), .inr (1, 0, 0, 54)]) (P1 := P6) rfl ⟨trivial, trivial, trivial, trivial⟩ ?_
          refine tr_goto ?_
          refine tr_nil (rows2 := kb_159_73) rfl (List.cons_ne_nil _ _) ?_
          refine tr_blk 2 (pc' := 77) (rows' := kb_159_73.drop 2) (loc' := [.inr (1, 0, 0, 54), .inl (.int x1), .inl (.int v4)]) (st' := []) (P1 := (ab_pI P6 54 6 ((P6.1 54 6) ||| ((1 : Int32) <<< (x1 &&& 31))))) rfl ⟨trivial, trivial, trivial⟩ ?_
          refine tr_lt (fun P8 => ?_)
          refine tr_blk 1 (pc' := 80) (rows' := kb_159_73.drop 3) (loc' := [.inr (1, 0, 0, 54), .inl (.int (x1 + 1)), .inl (.int v4)]) (st' := []) (P1 := P8) rfl ⟨trivial, trivial⟩ ?_
          refine tr_goto ?_
          exact ih (x1 + 1) (.inl (.int v4)) P8
      · refine tr_icT (cd := .ge) (Int32.not_lt.mp h14) ?_
        refine tr_nil (rows2 := kb_159_83) rfl (List.cons_ne_nil _ _) ?_
        refine tr_blk 2 (pc' := 85) (rows' := kb_159_83.drop 2) (loc' := [.inr (1, 0, 0, 54), .inl (.int (1 : Int32)), d2]) (st' := []) (P1 := P) rfl ⟨trivial, trivial, trivial⟩ ?_
        exact t_159_85 N N (1 : Int32) (d2) P
    · refine tr_icT (cd := .ge) (Int32.not_lt.mp h13) ?_
      refine tr_nil (rows2 := kb_159_83) rfl (List.cons_ne_nil _ _) ?_
      refine tr_blk 2 (pc' := 85) (rows' := kb_159_83.drop 2) (loc' := [.inr (1, 0, 0, 54), .inl (.int (1 : Int32)), d2]) (st' := []) (P1 := P) rfl ⟨trivial, trivial, trivial⟩ ?_
      exact t_159_85 N N (1 : Int32) (d2) P
def f_159 (N : Nat) (P : ab_P) : Option ab_P :=
    ab_lt (ab_pI P 54 6 (0 : Int32)) fun P1 =>
    ab_lt (ab_pI P1 55 0 (0 : Int32)) fun P2 =>
    ab_lt (ab_pI P2 56 0 (0 : Int32)) fun P3 =>
    f_159_21 N N (0 : Int32) P3
theorem t_159 {xs : Nat × (Nat → Int32)} {d : Nat} (N : Nat) : ∀ (P : ab_P), ab_tr xs wV (d + 3) 159 0 [] [.inr (1, 0, 0, 54), ab_top, ab_top] [] P (f_159 N P) := by
  intro P
  unfold f_159
  refine tr_nil (rows2 := kb_159_0) rfl (List.cons_ne_nil _ _) ?_
  refine tr_blk 3 (pc' := 5) (rows' := kb_159_0.drop 3) (loc' := [.inr (1, 0, 0, 54), ab_top, ab_top]) (st' := []) (P1 := (ab_pI P 54 6 (0 : Int32))) rfl ⟨trivial, trivial, trivial, trivial⟩ ?_
  refine tr_lt (fun P1 => ?_)
  refine tr_blk 5 (pc' := 12) (rows' := kb_159_0.drop 8) (loc' := [.inr (1, 0, 0, 54), ab_top, ab_top]) (st' := []) (P1 := (ab_pI P1 55 0 (0 : Int32))) rfl ⟨trivial, trivial, trivial, trivial, (ab_vi (by decide)), trivial⟩ ?_
  refine tr_lt (fun P2 => ?_)
  refine tr_blk 5 (pc' := 19) (rows' := kb_159_0.drop 13) (loc' := [.inr (1, 0, 0, 54), ab_top, ab_top]) (st' := []) (P1 := (ab_pI P2 56 0 (0 : Int32))) rfl ⟨trivial, trivial, trivial, trivial, (ab_vi (by decide)), trivial⟩ ?_
  refine tr_lt (fun P3 => ?_)
  refine tr_blk 2 (pc' := 21) (rows' := kb_159_0.drop 15) (loc' := [.inr (1, 0, 0, 54), .inl (.int (0 : Int32)), ab_top]) (st' := []) (P1 := P3) rfl ⟨trivial, trivial, trivial⟩ ?_
  exact t_159_21 N N (0 : Int32) (ab_top) P3
def f_303 (P : ab_P) (a0 : Int32) : Option Int32 :=
    some ((((((((a0 - (((a0).toUInt32 >>> (((1 : Int32)).toUInt32 &&& Int32.toUInt32 31)).toInt32 &&& (1431655765 : Int32))) &&& (858993459 : Int32)) + ((((a0 - (((a0).toUInt32 >>> (((1 : Int32)).toUInt32 &&& Int32.toUInt32 31)).toInt32 &&& (1431655765 : Int32)))).toUInt32 >>> (((2 : Int32)).toUInt32 &&& Int32.toUInt32 31)).toInt32 &&& (858993459 : Int32))) + (((((a0 - (((a0).toUInt32 >>> (((1 : Int32)).toUInt32 &&& Int32.toUInt32 31)).toInt32 &&& (1431655765 : Int32))) &&& (858993459 : Int32)) + ((((a0 - (((a0).toUInt32 >>> (((1 : Int32)).toUInt32 &&& Int32.toUInt32 31)).toInt32 &&& (1431655765 : Int32)))).toUInt32 >>> (((2 : Int32)).toUInt32 &&& Int32.toUInt32 31)).toInt32 &&& (858993459 : Int32)))).toUInt32 >>> (((4 : Int32)).toUInt32 &&& Int32.toUInt32 31)).toInt32) &&& (252645135 : Int32)) + (((((((a0 - (((a0).toUInt32 >>> (((1 : Int32)).toUInt32 &&& Int32.toUInt32 31)).toInt32 &&& (1431655765 : Int32))) &&& (858993459 : Int32)) + ((((a0 - (((a0).toUInt32 >>> (((1 : Int32)).toUInt32 &&& Int32.toUInt32 31)).toInt32 &&& (1431655765 : Int32)))).toUInt32 >>> (((2 : Int32)).toUInt32 &&& Int32.toUInt32 31)).toInt32 &&& (858993459 : Int32))) + (((((a0 - (((a0).toUInt32 >>> (((1 : Int32)).toUInt32 &&& Int32.toUInt32 31)).toInt32 &&& (1431655765 : Int32))) &&& (858993459 : Int32)) + ((((a0 - (((a0).toUInt32 >>> (((1 : Int32)).toUInt32 &&& Int32.toUInt32 31)).toInt32 &&& (1431655765 : Int32)))).toUInt32 >>> (((2 : Int32)).toUInt32 &&& Int32.toUInt32 31)).toInt32 &&& (858993459 : Int32)))).toUInt32 >>> (((4 : Int32)).toUInt32 &&& Int32.toUInt32 31)).toInt32) &&& (252645135 : Int32))).toUInt32 >>> (((8 : Int32)).toUInt32 &&& Int32.toUInt32 31)).toInt32) + ((((((((a0 - (((a0).toUInt32 >>> (((1 : Int32)).toUInt32 &&& Int32.toUInt32 31)).toInt32 &&& (1431655765 : Int32))) &&& (858993459 : Int32)) + ((((a0 - (((a0).toUInt32 >>> (((1 : Int32)).toUInt32 &&& Int32.toUInt32 31)).toInt32 &&& (1431655765 : Int32)))).toUInt32 >>> (((2 : Int32)).toUInt32 &&& Int32.toUInt32 31)).toInt32 &&& (858993459 : Int32))) + (((((a0 - (((a0).toUInt32 >>> (((1 : Int32)).toUInt32 &&& Int32.toUInt32 31)).toInt32 &&& (1431655765 : Int32))) &&& (858993459 : Int32)) + ((((a0 - (((a0).toUInt32 >>> (((1 : Int32)).toUInt32 &&& Int32.toUInt32 31)).toInt32 &&& (1431655765 : Int32)))).toUInt32 >>> (((2 : Int32)).toUInt32 &&& Int32.toUInt32 31)).toInt32 &&& (858993459 : Int32)))).toUInt32 >>> (((4 : Int32)).toUInt32 &&& Int32.toUInt32 31)).toInt32) &&& (252645135 : Int32)) + (((((((a0 - (((a0).toUInt32 >>> (((1 : Int32)).toUInt32 &&& Int32.toUInt32 31)).toInt32 &&& (1431655765 : Int32))) &&& (858993459 : Int32)) + ((((a0 - (((a0).toUInt32 >>> (((1 : Int32)).toUInt32 &&& Int32.toUInt32 31)).toInt32 &&& (1431655765 : Int32)))).toUInt32 >>> (((2 : Int32)).toUInt32 &&& Int32.toUInt32 31)).toInt32 &&& (858993459 : Int32))) + (((((a0 - (((a0).toUInt32 >>> (((1 : Int32)).toUInt32 &&& Int32.toUInt32 31)).toInt32 &&& (1431655765 : Int32))) &&& (858993459 : Int32)) + ((((a0 - (((a0).toUInt32 >>> (((1 : Int32)).toUInt32 &&& Int32.toUInt32 31)).toInt32 &&& (1431655765 : Int32)))).toUInt32 >>> (((2 : Int32)).toUInt32 &&& Int32.toUInt32 31)).toInt32 &&& (858993459 : Int32)))).toUInt32 >>> (((4 : Int32)).toUInt32 &&& Int32.toUInt32 31)).toInt32) &&& (252645135 : Int32))).toUInt32 >>> (((8 : Int32)).toUInt32 &&& Int32.toUInt32 31)).toInt32)).toUInt32 >>> (((16 : Int32)).toUInt32 &&& Int32.toUInt32 31)).toInt32) &&& (63 : Int32))
theorem t_303 {xs : Nat × (Nat → Int32)} {d : Nat} (P : ab_P) : ∀ (a0 : Int32), ab_tr xs (rI P) (d + 0) 303 0 [] [.inl (.int a0)] [] P (f_303 P a0) := by
  intro a0
  unfold f_303
  refine tr_nil (rows2 := kb_303_0) rfl (List.cons_ne_nil _ _) ?_
  refine tr_blk 41 (pc' := 52) (rows' := kb_303_0.drop 41) (loc' := [.inl (.int (((((((a0 - (((a0).toUInt32 >>> (((1 : Int32)).toUInt32 &&& Int32.toUInt32 31)).toInt32 &&& (1431655765 : Int32))) &&& (858993459 : Int32)) + ((((a0 - (((a0).toUInt32 >>> (((1 : Int32)).toUInt32 &&& Int32.toUInt32 31)).toInt32 &&& (1431655765 : Int32)))).toUInt32 >>> (((2 : Int32)).toUInt32 &&& Int32.toUInt32 31)).toInt32 &&& (858993459 : Int32))) + (((((a0 - (((a0).toUInt32 >>> (((1 : Int32)).toUInt32 &&& Int32.toUInt32 31)).toInt32 &&& (1431655765 : Int32))) &&& (858993459 : Int32)) + ((((a0 - (((a0).toUInt32 >>> (((1 : Int32)).toUInt32 &&& Int32.toUInt32 31)).toInt32 &&& (1431655765 : Int32)))).toUInt32 >>> (((2 : Int32)).toUInt32 &&& Int32.toUInt32 31)).toInt32 &&& (858993459 : Int32)))).toUInt32 >>> (((4 : Int32)).toUInt32 &&& Int32.toUInt32 31)).toInt32) &&& (252645135 : Int32)) + (((((((a0 - (((a0).toUInt32 >>> (((1 : Int32)).toUInt32 &&& Int32.toUInt32 31)).toInt32 &&& (1431655765 : Int32))) &&& (858993459 : Int32)) + ((((a0 - (((a0).toUInt32 >>> (((1 : Int32)).toUInt32 &&& Int32.toUInt32 31)).toInt32 &&& (1431655765 : Int32)))).toUInt32 >>> (((2 : Int32)).toUInt32 &&& Int32.toUInt32 31)).toInt32 &&& (858993459 : Int32))) + (((((a0 - (((a0).toUInt32 >>> (((1 : Int32)).toUInt32 &&& Int32.toUInt32 31)).toInt32 &&& (1431655765 : Int32))) &&& (858993459 : Int32)) + ((((a0 - (((a0).toUInt32 >>> (((1 : Int32)).toUInt32 &&& Int32.toUInt32 31)).toInt32 &&& (1431655765 : Int32)))).toUInt32 >>> (((2 : Int32)).toUInt32 &&& Int32.toUInt32 31)).toInt32 &&& (858993459 : Int32)))).toUInt32 >>> (((4 : Int32)).toUInt32 &&& Int32.toUInt32 31)).toInt32) &&& (252645135 : Int32))).toUInt32 >>> (((8 : Int32)).toUInt32 &&& Int32.toUInt32 31)).toInt32) + ((((((((a0 - (((a0).toUInt32 >>> (((1 : Int32)).toUInt32 &&& Int32.toUInt32 31)).toInt32 &&& (1431655765 : Int32))) &&& (858993459 : Int32)) + ((((a0 - (((a0).toUInt32 >>> (((1 : Int32)).toUInt32 &&& Int32.toUInt32 31)).toInt32 &&& (1431655765 : Int32)))).toUInt32 >>> (((2 : Int32)).toUInt32 &&& Int32.toUInt32 31)).toInt32 &&& (858993459 : Int32))) + (((((a0 - (((a0).toUInt32 >>> (((1 : Int32)).toUInt32 &&& Int32.toUInt32 31)).toInt32 &&& (1431655765 : Int32))) &&& (858993459 : Int32)) + ((((a0 - (((a0).toUInt32 >>> (((1 : Int32)).toUInt32 &&& Int32.toUInt32 31)).toInt32 &&& (1431655765 : Int32)))).toUInt32 >>> (((2 : Int32)).toUInt32 &&& Int32.toUInt32 31)).toInt32 &&& (858993459 : Int32)))).toUInt32 >>> (((4 : Int32)).toUInt32 &&& Int32.toUInt32 31)).toInt32) &&& (252645135 : Int32)) + (((((((a0 - (((a0).toUInt32 >>> (((1 : Int32)).toUInt32 &&& Int32.toUInt32 31)).toInt32 &&& (1431655765 : Int32))) &&& (858993459 : Int32)) + ((((a0 - (((a0).toUInt32 >>> (((1 : Int32)).toUInt32 &&& Int32.toUInt32 31)).toInt32 &&& (1431655765 : Int32)))).toUInt32 >>> (((2 : Int32)).toUInt32 &&& Int32.toUInt32 31)).toInt32 &&& (858993459 : Int32))) + (((((a0 - (((a0).toUInt32 >>> (((1 : Int32)).toUInt32 &&& Int32.toUInt32 31)).toInt32 &&& (1431655765 : Int32))) &&& (858993459 : Int32)) + ((((a0 - (((a0).toUInt32 >>> (((1 : Int32)).toUInt32 &&& Int32.toUInt32 31)).toInt32 &&& (1431655765 : Int32)))).toUInt32 >>> (((2 : Int32)).toUInt32 &&& Int32.toUInt32 31)).toInt32 &&& (858993459 : Int32)))).toUInt32 >>> (((4 : Int32)).toUInt32 &&& Int32.toUInt32 31)).toInt32) &&& (252645135 : Int32))).toUInt32 >>> (((8 : Int32)).toUInt32 &&& Int32.toUInt32 31)).toInt32)).toUInt32 >>> (((16 : Int32)).toUInt32 &&& Int32.toUInt32 31)).toInt32))]) (st' := [.inl (.int ((((((((a0 - (((a0).toUInt32 >>> (((1 : Int32)).toUInt32 &&& Int32.toUInt32 31)).toInt32 &&& (1431655765 : Int32))) &&& (858993459 : Int32)) + ((((a0 - (((a0).toUInt32 >>> (((1 : Int32)).toUInt32 &&& Int32.toUInt32 31)).toInt32 &&& (1431655765 : Int32)))).toUInt32 >>> (((2 : Int32)).toUInt32 &&& Int32.toUInt32 31)).toInt32 &&& (858993459 : Int32))) + (((((a0 - (((a0).toUInt32 >>> (((1 : Int32)).toUInt32 &&& Int32.toUInt32 31)).toInt32 &&& (1431655765 : Int32))) &&& (858993459 : Int32)) + ((((a0 - (((a0).toUInt32 >>> (((1 : Int32)).toUInt32 &&& Int32.toUInt32 31)).toInt32 &&& (1431655765 : Int32)))).toUInt32 >>> (((2 : Int32)).toUInt32 &&& Int32.toUInt32 31)).toInt32 &&& (858993459 : Int32)))).toUInt32 >>> (((4 : Int32)).toUInt32 &&& Int32.toUInt32 31)).toInt32) &&& (252645135 : Int32)) + (((((((a0 - (((a0).toUInt32 >>> (((1 : Int32)).toUInt32 &&& Int32.toUInt32 31)).toInt32 &&& (1431655765 : Int32))) &&& (858993459 : Int32)) + ((((a0 - (((a0).toUInt32 >>> (((1 : Int32)).toUInt32 &&& Int32.toUInt32 31)).toInt32 &&& (1431655765 : Int32)))).toUInt32 >>> (((2 : Int32)).toUInt32 &&& Int32.toUInt32 31)).toInt32 &&& (858993459 : Int32))) + (((((a0 - (((a0).toUInt32 >>> (((1 : Int32)).toUInt32 &&& Int32.toUInt32 31)).toInt32 &&& (1431655765 : Int32))) &&& (858993459 : Int32)) + ((((a0 - (((a0).toUInt32 >>> (((1 : Int32)).toUInt32 &&& Int32.toUInt32 31)).toInt32 &&& (1431655765 : Int32)))).toUInt32 >>> (((2 : Int32)).toUInt32 &&& Int32.toUInt32 31)).toInt32 &&& (858993459 : Int32)))).toUInt32 >>> (((4 : Int32)).toUInt32 &&& Int32.toUInt32 31)).toInt32) &&& (252645135 : Int32))).toUInt32 >>> (((8 : Int32)).toUInt32 &&& Int32.toUInt32 31)).toInt32) + ((((((((a0 - (((a0).toUInt32 >>> (((1 : Int32)).toUInt32 &&& Int32.toUInt32 31)).toInt32 &&& (1431655765 : Int32))) &&& (858993459 : Int32)) + ((((a0 - (((a0).toUInt32 >>> (((1 : Int32)).toUInt32 &&& Int32.toUInt32 31)).toInt32 &&& (1431655765 : Int32)))).toUInt32 >>> (((2 : Int32)).toUInt32 &&& Int32.toUInt32 31)).toInt32 &&& (858993459 : Int32))) + (((((a0 - (((a0).toUInt32 >>> (((1 : Int32)).toUInt32 &&& Int32.toUInt32 31)).toInt32 &&& (1431655765 : Int32))) &&& (858993459 : Int32)) + ((((a0 - (((a0).toUInt32 >>> (((1 : Int32)).toUInt32 &&& Int32.toUInt32 31)).toInt32 &&& (1431655765 : Int32)))).toUInt32 >>> (((2 : Int32)).toUInt32 &&& Int32.toUInt32 31)).toInt32 &&& (858993459 : Int32)))).toUInt32 >>> (((4 : Int32)).toUInt32 &&& Int32.toUInt32 31)).toInt32) &&& (252645135 : Int32)) + (((((((a0 - (((a0).toUInt32 >>> (((1 : Int32)).toUInt32 &&& Int32.toUInt32 31)).toInt32 &&& (1431655765 : Int32))) &&& (858993459 : Int32)) + ((((a0 - (((a0).toUInt32 >>> (((1 : Int32)).toUInt32 &&& Int32.toUInt32 31)).toInt32 &&& (1431655765 : Int32)))).toUInt32 >>> (((2 : Int32)).toUInt32 &&& Int32.toUInt32 31)).toInt32 &&& (858993459 : Int32))) + (((((a0 - (((a0).toUInt32 >>> (((1 : Int32)).toUInt32 &&& Int32.toUInt32 31)).toInt32 &&& (1431655765 : Int32))) &&& (858993459 : Int32)) + ((((a0 - (((a0).toUInt32 >>> (((1 : Int32)).toUInt32 &&& Int32.toUInt32 31)).toInt32 &&& (1431655765 : Int32)))).toUInt32 >>> (((2 : Int32)).toUInt32 &&& Int32.toUInt32 31)).toInt32 &&& (858993459 : Int32)))).toUInt32 >>> (((4 : Int32)).toUInt32 &&& Int32.toUInt32 31)).toInt32) &&& (252645135 : Int32))).toUInt32 >>> (((8 : Int32)).toUInt32 &&& Int32.toUInt32 31)).toInt32)).toUInt32 >>> (((16 : Int32)).toUInt32 &&& Int32.toUInt32 31)).toInt32) &&& (63 : Int32)))]) (P1 := P) rfl ⟨trivial, trivial, trivial, trivial, trivial, trivial, trivial, trivial, trivial, trivial, trivial, trivial, trivial, trivial, trivial, trivial, trivial, trivial, trivial, trivial, trivial, trivial, trivial, trivial, trivial, trivial, trivial, trivial, trivial, trivial, trivial, trivial, trivial, trivial, trivial, trivial, trivial, trivial, trivial, trivial, trivial, trivial⟩ ?_
  exact tr_reI (z := km_303) rfl ⟨_, rfl, rfl⟩ rfl
def f_248 (P : ab_P) : Option Int32 :=
    Option.bind (f_303 P (P.1 54 6)) fun v1 =>
    some v1
theorem t_248 {xs : Nat × (Nat → Int32)} {d : Nat} (P : ab_P) : ab_tr xs (rI P) (d + 1) 248 0 [] [.inr (1, 0, 0, 54)] [] P (f_248 P) := by
  unfold f_248
  refine tr_nil (rows2 := kb_248_0) rfl (List.cons_ne_nil _ _) ?_
  refine tr_blk 2 (pc' := 4) (rows' := kb_248_0.drop 2) (loc' := [.inr (1, 0, 0, 54)]) (st' := [.inl (.int (P.1 54 6))]) (P1 := P) rfl ⟨trivial, trivial, trivial⟩ ?_
  refine tr_cRI (z := km_303) (av := [.inl (.int (P.1 54 6))]) (st' := []) rfl rfl rfl (Nat.le_of_ble_eq_true rfl) trivial rfl (Nat.le_of_ble_eq_true rfl) (t_303 P (P.1 54 6)) (fun v1 => ?_)
  exact tr_reI (z := km_248) rfl ⟨_, rfl, rfl⟩ rfl
def f_156_15 (N : Nat) (x1 : Int32) (s0 : Int32) (P : ab_P) : Option ((Int32 ⊕ Fin 3) × ab_P) :=
    ab_x2 (f_228 s0 P) (fun _ P1 =>
    Option.bind (f_159 N P1) fun P2 =>
    if x1 = (1 : Int32) then
      some (.inl (P2.1 54 7), P2)
    else
    Option.bind (f_248 P2) fun v3 =>
    some (.inl (v3 - (P2.1 54 7)), P2)) (fun q => q)
theorem t_156_15 {xs : Nat × (Nat → Int32)} {d : Nat} (N : Nat) : ∀ (x1 : Int32) (s0 : Int32) (P : ab_P), ab_tr xs xI (d + 4) 156 15 [] [.inr (11, 0, 0, 0), .inl (.int x1)] [.inl (.int s0), .inr (11, 0, 0, 0)] P (f_156_15 N x1 s0 P) := by
  intro x1 s0 P
  unfold f_156_15
  refine tr_nil (rows2 := kb_156_15) rfl (List.cons_ne_nil _ _) ?_
  refine tr_cax (fun _ => none) (zi := km_156) (fun _ => rfl) (fun _ _ => rfl) rfl rfl (z := km_228) (av := [.inr (11, 0, 0, 0), .inl (.int s0)]) (st' := []) rfl rfl rfl (Nat.le_of_ble_eq_true rfl) ⟨rfl, Or.inl (by decide)⟩ rfl (Nat.le_of_ble_eq_true rfl) (t_228 s0 P) (fun _ P1 => ?_)
  refine tr_blk 2 (pc' := 22) (rows' := kb_156_15.drop 3) (loc' := [.inr (11, 0, 0, 0), .inl (.int x1)]) (st' := [.inr (1, 0, 0, 54)]) (P1 := P1) rfl ⟨trivial, trivial, trivial⟩ ?_
  refine tr_cWV (z := km_159) (av := [.inr (1, 0, 0, 54)]) (st' := []) rfl rfl rfl (Nat.le_of_ble_eq_true rfl) ⟨rfl, Or.inl (by decide)⟩ rfl (Nat.le_of_ble_eq_true rfl) (t_159 N P1) (fun P2 => ?_)
  refine tr_blk 2 (pc' := 27) (rows' := kb_156_15.drop 6) (loc' := [.inr (11, 0, 0, 0), .inl (.int x1)]) (st' := [.inl (.int (1 : Int32)), .inl (.int x1)]) (P1 := P2) rfl ⟨trivial, trivial, trivial⟩ ?_
  refine tr_if (fun h4 => ?_) (fun h4 => ?_)
  · refine tr_icF (cd := .ne) (fun q => q h4) ?_
    refine tr_blk 3 (pc' := 37) (rows' := kb_156_15.drop 10) (loc' := [.inr (11, 0, 0, 0), .inl (.int x1)]) (st' := [.inl (.int (P2.1 54 7))]) (P1 := P2) rfl ⟨trivial, trivial, trivial, trivial⟩ ?_
    refine tr_goto ?_
    refine tr_nil (rows2 := kb_156_55) rfl (List.cons_ne_nil _ _) ?_
    exact tr_reI (z := km_156) rfl ⟨_, rfl, rfl⟩ rfl
  · refine tr_icT (cd := .ne) h4 ?_
    refine tr_nil (rows2 := kb_156_40) rfl (List.cons_ne_nil _ _) ?_
    refine tr_blk 2 (pc' := 44) (rows' := kb_156_40.drop 2) (loc' := [.inr (11, 0, 0, 0), .inl (.int x1)]) (st' := [.inr (1, 0, 0, 54)]) (P1 := P2) rfl ⟨trivial, trivial, trivial⟩ ?_
    refine tr_cRI (z := km_248) (av := [.inr (1, 0, 0, 54)]) (st' := []) rfl rfl rfl (Nat.le_of_ble_eq_true rfl) ⟨rfl, Or.inl (by decide)⟩ rfl (Nat.le_of_ble_eq_true rfl) (t_248 P2) (fun v3 => ?_)
    refine tr_blk 4 (pc' := 55) (rows' := kb_156_40.drop 7) (loc' := [.inr (11, 0, 0, 0), .inl (.int x1)]) (st' := [.inl (.int (v3 - (P2.1 54 7)))]) (P1 := P2) rfl ⟨trivial, trivial, trivial, trivial, trivial⟩ ?_
    refine tr_nil (rows2 := kb_156_55) rfl (List.cons_ne_nil _ _) ?_
    exact tr_reI (z := km_156) rfl ⟨_, rfl, rfl⟩ rfl
def f_156 (N : Nat) (a1 : Int32) (P : ab_P) : Option ((Int32 ⊕ Fin 3) × ab_P) :=
    if a1 = (0 : Int32) then
      f_156_15 N a1 (1 : Int32) P
    else
    if a1 = (1 : Int32) then
      f_156_15 N a1 (1 : Int32) P
    else
    f_156_15 N a1 (0 : Int32) P
theorem t_156 {xs : Nat × (Nat → Int32)} {d : Nat} (N : Nat) : ∀ (a1 : Int32) (P : ab_P), ab_tr xs xI (d + 4) 156 0 [] [.inr (11, 0, 0, 0), .inl (.int a1)] [] P (f_156 N a1 P) := by
  intro a1 P
  unfold f_156
  refine tr_nil (rows2 := kb_156_0) rfl (List.cons_ne_nil _ _) ?_
  refine tr_blk 2 (pc' := 2) (rows' := kb_156_0.drop 2) (loc' := [.inr (11, 0, 0, 0), .inl (.int a1)]) (st' := [.inl (.int a1), .inr (11, 0, 0, 0)]) (P1 := P) rfl ⟨trivial, trivial, trivial⟩ ?_
  refine tr_if (fun h5 => ?_) (fun h5 => ?_)
  · refine tr_ifT (cd := .eq) h5 ?_
    refine tr_nil (rows2 := kb_156_10) rfl (List.cons_ne_nil _ _) ?_
    refine tr_blk 1 (pc' := 11) (rows' := kb_156_10.drop 1) (loc' := [.inr (11, 0, 0, 0), .inl (.int a1)]) (st' := [.inl (.int (1 : Int32)), .inr (11, 0, 0, 0)]) (P1 := P) rfl ⟨trivial, trivial⟩ ?_
    refine tr_goto ?_
    exact t_156_15 N a1 (1 : Int32) P
  · refine tr_ifF (cd := .eq) h5 ?_
    refine tr_blk 2 (pc' := 7) (rows' := kb_156_0.drop 5) (loc' := [.inr (11, 0, 0, 0), .inl (.int a1)]) (st' := [.inl (.int (1 : Int32)), .inl (.int a1), .inr (11, 0, 0, 0)]) (P1 := P) rfl ⟨trivial, trivial, trivial⟩ ?_
    refine tr_if (fun h6 => ?_) (fun h6 => ?_)
    · refine tr_icF (cd := .ne) (fun q => q h6) ?_
      refine tr_nil (rows2 := kb_156_10) rfl (List.cons_ne_nil _ _) ?_
      refine tr_blk 1 (pc' := 11) (rows' := kb_156_10.drop 1) (loc' := [.inr (11, 0, 0, 0), .inl (.int a1)]) (st' := [.inl (.int (1 : Int32)), .inr (11, 0, 0, 0)]) (P1 := P) rfl ⟨trivial, trivial⟩ ?_
      refine tr_goto ?_
      exact t_156_15 N a1 (1 : Int32) P
    · refine tr_icT (cd := .ne) h6 ?_
      refine tr_nil (rows2 := kb_156_14) rfl (List.cons_ne_nil _ _) ?_
      refine tr_blk 1 (pc' := 15) (rows' := kb_156_14.drop 1) (loc' := [.inr (11, 0, 0, 0), .inl (.int a1)]) (st' := [.inl (.int (0 : Int32)), .inr (11, 0, 0, 0)]) (P1 := P) rfl ⟨trivial, trivial⟩ ?_
      exact t_156_15 N a1 (0 : Int32) P
def f_42_1 (N : Nat) (a1 : Int32) (P : ab_P) : Option (Int32 × ab_P) :=
    ab_h2 (f_156 N a1 P) (fun v2 P1 =>
    ab_lt (ab_pL P1 570 0 (v2).toInt64) fun P3 =>
    some ((0 : Int32), P3))
    (fun _ => none) (fun P9 => some ((1 : Int32), P9)) (fun _ => none)
theorem t_42_1 {xs : Nat × (Nat → Int32)} {d : Nat} (N : Nat) : ∀ (a1 : Int32) (P : ab_P), ab_tr xs wI (d + 5) 42 0 [] [.inr (11, 0, 0, 0), .inl (.int a1), .inr (22, 1, 0, 570), ab_top] [] P (f_42_1 N a1 P) := by
  intro a1 P
  unfold f_42_1
  refine tr_nil (rows2 := kb_42_0) rfl (List.cons_ne_nil _ _) ?_
  refine tr_blk 4 (pc' := 4) (rows' := kb_42_0.drop 4) (loc' := [.inr (11, 0, 0, 0), .inl (.int a1), .inr (22, 1, 0, 570), ab_top]) (st' := [.inl (.int a1), .inr (11, 0, 0, 0), .inl (.int (0 : Int32)), .inr (22, 1, 0, 570)]) (P1 := P) rfl ⟨trivial, trivial, trivial, trivial, trivial⟩ ?_
  refine tr_cah (fun b => some (.inl (.int b))) (zi := km_42) (fun _ => rfl) rfl (z := km_156) (av := [.inr (11, 0, 0, 0), .inl (.int a1)]) (st' := [.inl (.int (0 : Int32)), .inr (22, 1, 0, 570)]) rfl rfl rfl (Nat.le_of_ble_eq_true rfl) ⟨rfl, Or.inl (by decide)⟩ rfl (Nat.le_of_ble_eq_true rfl) (t_156 N a1 P) (fun v2 P1 => ?_) ?_ ?_ ?_
  · refine tr_blk 2 (pc' := 9) (rows' := kb_42_0.drop 7) (loc' := [.inr (11, 0, 0, 0), .inl (.int a1), .inr (22, 1, 0, 570), ab_top]) (st' := []) (P1 := (ab_pL P1 570 0 (v2).toInt64)) rfl ⟨trivial, (ab_vi (by decide)), trivial⟩ ?_
    refine tr_lt (fun P3 => ?_)
    refine tr_goto ?_
    refine tr_nil (rows2 := kb_42_15) rfl (List.cons_ne_nil _ _) ?_
    refine tr_blk 1 (pc' := 16) (rows' := kb_42_15.drop 1) (loc' := [.inr (11, 0, 0, 0), .inl (.int a1), .inr (22, 1, 0, 570), ab_top]) (st' := [.inl (.int (0 : Int32))]) (P1 := P3) rfl ⟨trivial, trivial⟩ ?_
    exact tr_reI (z := km_42) rfl ⟨_, rfl, rfl⟩ rfl
  · exact fun _ => rfl
  · exact fun _ => tr_han (rows2 := kb_42_12) (z := km_42) _ (fun q => [.inr (11, 0, 0, 0), .inl (.int a1), .inr (22, 1, 0, 570), .inr (40, 1, 0, q)]) rfl (List.cons_ne_nil _ _) (fun q => rfl) ⟨trivial, trivial, trivial⟩ rfl ⟨_, rfl, rfl⟩ rfl
  · exact fun _ => rfl
def f_157_152 (H53 : Int32 → ab_P → Option ab_P) : Nat → Int32 → Int32 → ab_P → Option ab_P
  | 0, _, _, _ => none
  | n + 1, x1, x2, P =>
    if (0 : Int32) < x2 then
      if ((x2 &&& x1) &&& (-x1)) = (0 : Int32) then
        f_157_152 H53 n x1 ((x2 - (1 : Int32)) &&& x1) P
      else
      if ab_gi x2 256 then
      if (P.1 547 x2.toNatClampNeg) = (0 : Int32) then
        if ab_gi (x1 &&& (x2 ^^^ (-1 : Int32))) 256 then
        if (P.1 548 ((x1 &&& (x2 ^^^ (-1 : Int32)))).toNatClampNeg) = (-1 : Int32) then
          f_157_152 H53 n x1 ((x2 - (1 : Int32)) &&& x1) P
        else
        if ab_gi x1 256 then
        if ab_gi (x1 &&& (x2 ^^^ (-1 : Int32))) 256 then
        Option.bind (f_193 P (P.1 548 x1.toNatClampNeg) ((P.1 548 ((x1 &&& (x2 ^^^ (-1 : Int32)))).toNatClampNeg) + (1 : Int32))) fun v21 =>
        if ab_gi x1 256 then
        ab_lt (ab_pI P 548 x1.toNatClampNeg v21) fun P23 =>
        f_157_152 H53 n x1 ((x2 - (1 : Int32)) &&& x1) P23
        else none
        else none
        else none
        else none
      else
      f_157_152 H53 n x1 ((x2 - (1 : Int32)) &&& x1) P
      else none
    else
    H53 (x1 + 1) P
theorem t_157_152 {xs : Nat × (Nat → Int32)} {d : Nat} (H53 : Int32 → ab_P → Option ab_P) (hH53 : ∀ (x1 : Int32) (d2 : ab_V) (P : ab_P), ab_tr xs wV (d + 3) 157 53 [] [.inr (12, 0, 0, 72), .inl (.int x1), d2] [] P (H53 x1 P)) : ∀ n : Nat, ∀ (x1 : Int32) (x2 : Int32) (P : ab_P), ab_tr xs wV (d + 3) 157 152 [] [.inr (12, 0, 0, 72), .inl (.int x1), .inl (.int x2)] [] P (f_157_152 H53 n x1 x2 P) := by
  intro n
  induction n with
  | zero => intro x1 x2 P; exact tr_no
  | succ n ih =>
    intro x1 x2 P
    refine tr_nil (rows2 := kb_157_152) rfl (List.cons_ne_nil _ _) ?_
    refine tr_blk 1 (pc' := 153) (rows' := kb_157_152.drop 1) (loc' := [.inr (12, 0, 0, 72), .inl (.int x1), .inl (.int x2)]) (st' := [.inl (.int x2)]) (P1 := P) rfl ⟨trivial, trivial⟩ ?_
    refine tr_if (fun h24 => ?_) (fun h24 => ?_)
    · refine tr_ifF (cd := .le) (Int32.not_le.mpr h24) ?_
      refine tr_blk 6 (pc' := 162) (rows' := kb_157_152.drop 8) (loc' := [.inr (12, 0, 0, 72), .inl (.int x1), .inl (.int x2)]) (st' := [.inl (.int ((x2 &&& x1) &&& (-x1)))]) (P1 := P) rfl ⟨trivial, trivial, trivial, trivial, trivial, trivial, trivial⟩ ?_
      refine tr_if (fun h25 => ?_) (fun h25 => ?_)
      · refine tr_ifT (cd := .eq) h25 ?_
        refine tr_nil (rows2 := kb_157_215) rfl (List.cons_ne_nil _ _) ?_
        refine tr_blk 6 (pc' := 221) (rows' := kb_157_215.drop 6) (loc' := [.inr (12, 0, 0, 72), .inl (.int x1), .inl (.int ((x2 - (1 : Int32)) &&& x1))]) (st' := []) (P1 := P) rfl ⟨trivial, trivial, trivial, trivial, trivial, trivial, trivial⟩ ?_
        refine tr_goto ?_
        exact ih x1 ((x2 - (1 : Int32)) &&& x1) P
      · refine tr_ifF (cd := .eq) h25 ?_
        refine tr_gd (fun h17 => ?_)
        refine tr_blk 4 (pc' := 171) (rows' := kb_157_152.drop 13) (loc' := [.inr (12, 0, 0, 72), .inl (.int x1), .inl (.int x2)]) (st' := [.inl (.int (P.1 547 x2.toNatClampNeg))]) (P1 := P) rfl ⟨trivial, trivial, trivial, h17, trivial⟩ ?_
        refine tr_if (fun h26 => ?_) (fun h26 => ?_)
        · refine tr_ifF (cd := .ne) (fun q => q h26) ?_
          refine tr_gd (fun h18 => ?_)
          refine tr_blk 9 (pc' := 185) (rows' := kb_157_152.drop 23) (loc' := [.inr (12, 0, 0, 72), .inl (.int x1), .inl (.int x2)]) (st' := [.inl (.int (-1 : Int32)), .inl (.int (P.1 548 ((x1 &&& (x2 ^^^ (-1 : Int32)))).toNatClampNeg))]) (P1 := P) rfl ⟨trivial, trivial, trivial, trivial, trivial, trivial, trivial, h18, trivial, trivial⟩ ?_
          refine tr_if (fun h27 => ?_) (fun h27 => ?_)
          · refine tr_icT (cd := .eq) h27 ?_
            refine tr_nil (rows2 := kb_157_215) rfl (List.cons_ne_nil _ _) ?_
            refine tr_blk 6 (pc' := 221) (rows' := kb_157_215.drop 6) (loc' := [.inr (12, 0, 0, 72), .inl (.int x1), .inl (.int ((x2 - (1 : Int32)) &&& x1))]) (st' := []) (P1 := P) rfl ⟨trivial, trivial, trivial, trivial, trivial, trivial, trivial⟩ ?_
            refine tr_goto ?_
            exact ih x1 ((x2 - (1 : Int32)) &&& x1) P
          · refine tr_icF (cd := .eq) h27 ?_
            refine tr_gd (fun h19 => ?_)
            refine tr_gd (fun h20 => ?_)
            refine tr_blk 17 (pc' := 211) (rows' := kb_157_152.drop 41) (loc' := [.inr (12, 0, 0, 72), .inl (.int x1), .inl (.int x2)]) (st' := [.inl (.int ((P.1 548 ((x1 &&& (x2 ^^^ (-1 : Int32)))).toNatClampNeg) + (1 : Int32))), .inl (.int (P.1 548 x1.toNatClampNeg)), .inl (.int x1), .inr (20, 256, 0, 548)]) (P1 := P) rfl ⟨trivial, trivial, trivial, trivial, trivial, trivial, h19, trivial, trivial, trivial, trivial, trivial, trivial, trivial, h20, trivial, trivial, trivial⟩ ?_
            refine tr_cRI (z := km_193) (av := [.inl (.int (P.1 548 x1.toNatClampNeg)), .inl (.int ((P.1 548 ((x1 &&& (x2 ^^^ (-1 : Int32)))).toNatClampNeg) + (1 : Int32)))]) (st' := [.inl (.int x1), .inr (20, 256, 0, 548)]) rfl rfl rfl (Nat.le_of_ble_eq_true rfl) trivial rfl (Nat.le_of_ble_eq_true rfl) (t_193 P (P.1 548 x1.toNatClampNeg) ((P.1 548 ((x1 &&& (x2 ^^^ (-1 : Int32)))).toNatClampNeg) + (1 : Int32))) (fun v21 => ?_)
            refine tr_gd (fun h22 => ?_)
            refine tr_blk 1 (pc' := 215) (rows' := kb_157_152.drop 43) (loc' := [.inr (12, 0, 0, 72), .inl (.int x1), .inl (.int x2)]) (st' := []) (P1 := (ab_pI P 548 x1.toNatClampNeg v21)) rfl ⟨h22, trivial⟩ ?_
            refine tr_lt (fun P23 => ?_)
            refine tr_nil (rows2 := kb_157_215) rfl (List.cons_ne_nil _ _) ?_
            refine tr_blk 6 (pc' := 221) (rows' := kb_157_215.drop 6) (loc' := [.inr (12, 0, 0, 72), .inl (.int x1), .inl (.int ((x2 - (1 : Int32)) &&& x1))]) (st' := []) (P1 := P23) rfl ⟨trivial, trivial, trivial, trivial, trivial, trivial, trivial⟩ ?_
            refine tr_goto ?_
            exact ih x1 ((x2 - (1 : Int32)) &&& x1) P23
        · refine tr_ifT (cd := .ne) h26 ?_
          refine tr_nil (rows2 := kb_157_215) rfl (List.cons_ne_nil _ _) ?_
          refine tr_blk 6 (pc' := 221) (rows' := kb_157_215.drop 6) (loc' := [.inr (12, 0, 0, 72), .inl (.int x1), .inl (.int ((x2 - (1 : Int32)) &&& x1))]) (st' := []) (P1 := P) rfl ⟨trivial, trivial, trivial, trivial, trivial, trivial, trivial⟩ ?_
          refine tr_goto ?_
          exact ih x1 ((x2 - (1 : Int32)) &&& x1) P
    · refine tr_ifT (cd := .le) (Int32.not_lt.mp h24) ?_
      refine tr_nil (rows2 := kb_157_224) rfl (List.cons_ne_nil _ _) ?_
      refine tr_blk 1 (pc' := 227) (rows' := kb_157_224.drop 1) (loc' := [.inr (12, 0, 0, 72), .inl (.int (x1 + 1)), .inl (.int x2)]) (st' := []) (P1 := P) rfl ⟨trivial, trivial⟩ ?_
      refine tr_goto ?_
      exact hH53 (x1 + 1) (.inl (.int x2)) P
def f_157_74 (N : Nat) (H53 : Int32 → ab_P → Option ab_P) : Nat → Int32 → Int32 → ab_P → Option ab_P
  | 0, _, _, _ => none
  | n + 1, x1, x2, P =>
    if x2 < (P.1 76 0) then
      if ab_gi x1 256 then
      if ((x1 >>> (x2 &&& 31)) &&& (1 : Int32)) = (1 : Int32) then
        Option.bind (f_140_366 477 N P x2 (0 : Int32)) fun v14 =>
        if ab_gi x1 256 then
        ab_lt (ab_pI P 547 x1.toNatClampNeg ((P.1 547 x1.toNatClampNeg) + v14)) fun P16 =>
        f_157_74 N H53 n x1 (x2 + 1) P16
        else none
      else
      if ab_gi x1 256 then
      ab_lt (ab_pI P 547 x1.toNatClampNeg ((P.1 547 x1.toNatClampNeg) + (0 : Int32))) fun P13 =>
      f_157_74 N H53 n x1 (x2 + 1) P13
      else none
      else none
    else
    if x1 = (0 : Int32) then
      if ab_gi x1 256 then
      ab_lt (ab_pI P 548 x1.toNatClampNeg (0 : Int32)) fun P10 =>
      if (x1 &&& ((P10.1 72 38) ^^^ (-1 : Int32))) = (0 : Int32) then
        f_157_152 H53 N x1 x1 P10
      else
      H53 (x1 + 1) P10
      else none
    else
    if ab_gi x1 256 then
    ab_lt (ab_pI P 548 x1.toNatClampNeg (-1 : Int32)) fun P8 =>
    if (x1 &&& ((P8.1 72 38) ^^^ (-1 : Int32))) = (0 : Int32) then
      f_157_152 H53 N x1 x1 P8
    else
    H53 (x1 + 1) P8
    else none
theorem t_157_74 {xs : Nat × (Nat → Int32)} {d : Nat} (N : Nat) (H53 : Int32 → ab_P → Option ab_P) (hH53 : ∀ (x1 : Int32) (d2 : ab_V) (P : ab_P), ab_tr xs wV (d + 3) 157 53 [] [.inr (12, 0, 0, 72), .inl (.int x1), d2] [] P (H53 x1 P)) : ∀ n : Nat, ∀ (x1 : Int32) (x2 : Int32) (P : ab_P), ab_tr xs wV (d + 3) 157 74 [] [.inr (12, 0, 0, 72), .inl (.int x1), .inl (.int x2)] [] P (f_157_74 N H53 n x1 x2 P) := by
  intro n
  induction n with
  | zero => intro x1 x2 P; exact tr_no
  | succ n ih =>
    intro x1 x2 P
    refine tr_nil (rows2 := kb_157_74) rfl (List.cons_ne_nil _ _) ?_
    refine tr_blk 5 (pc' := 81) (rows' := kb_157_74.drop 5) (loc' := [.inr (12, 0, 0, 72), .inl (.int x1), .inl (.int x2)]) (st' := [.inl (.int (P.1 76 0)), .inl (.int x2)]) (P1 := P) rfl ⟨trivial, trivial, trivial, trivial, (ab_vi (by decide)), trivial⟩ ?_
    refine tr_if (fun h28 => ?_) (fun h28 => ?_)
    · refine tr_icF (cd := .ge) (Int32.not_le.mpr h28) ?_
      refine tr_gd (fun h11 => ?_)
      refine tr_blk 11 (pc' := 97) (rows' := kb_157_74.drop 17) (loc' := [.inr (12, 0, 0, 72), .inl (.int x1), .inl (.int x2)]) (st' := [.inl (.int (1 : Int32)), .inl (.int ((x1 >>> (x2 &&& 31)) &&& (1 : Int32))), .inl (.int (P.1 547 x1.toNatClampNeg)), .inl (.int x1), .inr (20, 256, 0, 547)]) (P1 := P) rfl ⟨trivial, trivial, trivial, trivial, h11, trivial, trivial, trivial, trivial, trivial, trivial, trivial⟩ ?_
      refine tr_if (fun h32 => ?_) (fun h32 => ?_)
      · refine tr_icF (cd := .ne) (fun q => q h32) ?_
        refine tr_blk 4 (pc' := 106) (rows' := kb_157_74.drop 22) (loc' := [.inr (12, 0, 0, 72), .inl (.int x1), .inl (.int x2)]) (st' := [.inl (.int (0 : Int32)), .inl (.int x2), .inr (20, 366, 0, 477), .inl (.int (P.1 547 x1.toNatClampNeg)), .inl (.int x1), .inr (20, 256, 0, 547)]) (P1 := P) rfl ⟨trivial, trivial, trivial, trivial, trivial⟩ ?_
        refine tr_cRI (z := km_140) (av := [.inr (20, 366, 0, 477), .inl (.int x2), .inl (.int (0 : Int32))]) (st' := [.inl (.int (P.1 547 x1.toNatClampNeg)), .inl (.int x1), .inr (20, 256, 0, 547)]) rfl rfl rfl (Nat.le_of_ble_eq_true rfl) trivial rfl (Nat.le_of_ble_eq_true rfl) (t_140_366 477 N P x2 (0 : Int32)) (fun v14 => ?_)
        refine tr_goto ?_
        refine tr_nil (rows2 := kb_157_113) rfl (List.cons_ne_nil _ _) ?_
        refine tr_gd (fun h15 => ?_)
        refine tr_blk 2 (pc' := 115) (rows' := kb_157_113.drop 2) (loc' := [.inr (12, 0, 0, 72), .inl (.int x1), .inl (.int x2)]) (st' := []) (P1 := (ab_pI P 547 x1.toNatClampNeg ((P.1 547 x1.toNatClampNeg) + v14))) rfl ⟨trivial, h15, trivial⟩ ?_
        refine tr_lt (fun P16 => ?_)
        refine tr_blk 1 (pc' := 118) (rows' := kb_157_113.drop 3) (loc' := [.inr (12, 0, 0, 72), .inl (.int x1), .inl (.int (x2 + 1))]) (st' := []) (P1 := P16) rfl ⟨trivial, trivial⟩ ?_
        refine tr_goto ?_
        exact ih x1 (x2 + 1) P16
      · refine tr_icT (cd := .ne) h32 ?_
        refine tr_nil (rows2 := kb_157_112) rfl (List.cons_ne_nil _ _) ?_
        refine tr_blk 1 (pc' := 113) (rows' := kb_157_112.drop 1) (loc' := [.inr (12, 0, 0, 72), .inl (.int x1), .inl (.int x2)]) (st' := [.inl (.int (0 : Int32)), .inl (.int (P.1 547 x1.toNatClampNeg)), .inl (.int x1), .inr (20, 256, 0, 547)]) (P1 := P) rfl ⟨trivial, trivial⟩ ?_
        refine tr_nil (rows2 := kb_157_113) rfl (List.cons_ne_nil _ _) ?_
        refine tr_gd (fun h12 => ?_)
        refine tr_blk 2 (pc' := 115) (rows' := kb_157_113.drop 2) (loc' := [.inr (12, 0, 0, 72), .inl (.int x1), .inl (.int x2)]) (st' := []) (P1 := (ab_pI P 547 x1.toNatClampNeg ((P.1 547 x1.toNatClampNeg) + (0 : Int32)))) rfl ⟨trivial, h12, trivial⟩ ?_
        refine tr_lt (fun P13 => ?_)
        refine tr_blk 1 (pc' := 118) (rows' := kb_157_113.drop 3) (loc' := [.inr (12, 0, 0, 72), .inl (.int x1), .inl (.int (x2 + 1))]) (st' := []) (P1 := P13) rfl ⟨trivial, trivial⟩ ?_
        refine tr_goto ?_
        exact ih x1 (x2 + 1) P13
    · refine tr_icT (cd := .ge) (Int32.not_lt.mp h28) ?_
      refine tr_nil (rows2 := kb_157_121) rfl (List.cons_ne_nil _ _) ?_
      refine tr_blk 4 (pc' := 127) (rows' := kb_157_121.drop 4) (loc' := [.inr (12, 0, 0, 72), .inl (.int x1), .inl (.int x2)]) (st' := [.inl (.int x1), .inl (.int x1), .inr (20, 256, 0, 548)]) (P1 := P) rfl ⟨trivial, trivial, trivial, trivial, trivial⟩ ?_
      refine tr_if (fun h29 => ?_) (fun h29 => ?_)
      · refine tr_ifF (cd := .ne) (fun q => q h29) ?_
        refine tr_blk 1 (pc' := 131) (rows' := kb_157_121.drop 6) (loc' := [.inr (12, 0, 0, 72), .inl (.int x1), .inl (.int x2)]) (st' := [.inl (.int (0 : Int32)), .inl (.int x1), .inr (20, 256, 0, 548)]) (P1 := P) rfl ⟨trivial, trivial⟩ ?_
        refine tr_goto ?_
        refine tr_nil (rows2 := kb_157_135) rfl (List.cons_ne_nil _ _) ?_
        refine tr_gd (fun h9 => ?_)
        refine tr_blk 1 (pc' := 136) (rows' := kb_157_135.drop 1) (loc' := [.inr (12, 0, 0, 72), .inl (.int x1), .inl (.int x2)]) (st' := []) (P1 := (ab_pI P 548 x1.toNatClampNeg (0 : Int32))) rfl ⟨h9, trivial⟩ ?_
        refine tr_lt (fun P10 => ?_)
        refine tr_blk 6 (pc' := 144) (rows' := kb_157_135.drop 7) (loc' := [.inr (12, 0, 0, 72), .inl (.int x1), .inl (.int x2)]) (st' := [.inl (.int (x1 &&& ((P10.1 72 38) ^^^ (-1 : Int32))))]) (P1 := P10) rfl ⟨trivial, trivial, trivial, trivial, trivial, trivial, trivial⟩ ?_
        refine tr_if (fun h31 => ?_) (fun h31 => ?_)
        · refine tr_ifT (cd := .eq) h31 ?_
          refine tr_nil (rows2 := kb_157_150) rfl (List.cons_ne_nil _ _) ?_
          refine tr_blk 2 (pc' := 152) (rows' := kb_157_150.drop 2) (loc' := [.inr (12, 0, 0, 72), .inl (.int x1), .inl (.int x1)]) (st' := []) (P1 := P10) rfl ⟨trivial, trivial, trivial⟩ ?_
          exact t_157_152 H53 hH53 N x1 x1 P10
        · refine tr_ifF (cd := .eq) h31 ?_
          refine tr_goto ?_
          refine tr_nil (rows2 := kb_157_224) rfl (List.cons_ne_nil _ _) ?_
          refine tr_blk 1 (pc' := 227) (rows' := kb_157_224.drop 1) (loc' := [.inr (12, 0, 0, 72), .inl (.int (x1 + 1)), .inl (.int x2)]) (st' := []) (P1 := P10) rfl ⟨trivial, trivial⟩ ?_
          refine tr_goto ?_
          exact hH53 (x1 + 1) (.inl (.int x2)) P10
      · refine tr_ifT (cd := .ne) h29 ?_
        refine tr_nil (rows2 := kb_157_134) rfl (List.cons_ne_nil _ _) ?_
        refine tr_blk 1 (pc' := 135) (rows' := kb_157_134.drop 1) (loc' := [.inr (12, 0, 0, 72), .inl (.int x1), .inl (.int x2)]) (st' := [.inl (.int (-1 : Int32)), .inl (.int x1), .inr (20, 256, 0, 548)]) (P1 := P) rfl ⟨trivial, trivial⟩ ?_
        refine tr_nil (rows2 := kb_157_135) rfl (List.cons_ne_nil _ _) ?_
        refine tr_gd (fun h7 => ?_)
        refine tr_blk 1 (pc' := 136) (rows' := kb_157_135.drop 1) (loc' := [.inr (12, 0, 0, 72), .inl (.int x1), .inl (.int x2)]) (st' := []) (P1 := (ab_pI P 548 x1.toNatClampNeg (-1 : Int32))) rfl ⟨h7, trivial⟩ ?_
        refine tr_lt (fun P8 => ?_)
        refine tr_blk 6 (pc' := 144) (rows' := kb_157_135.drop 7) (loc' := [.inr (12, 0, 0, 72), .inl (.int x1), .inl (.int x2)]) (st' := [.inl (.int (x1 &&& ((P8.1 72 38) ^^^ (-1 : Int32))))]) (P1 := P8) rfl ⟨trivial, trivial, trivial, trivial, trivial, trivial, trivial⟩ ?_
        refine tr_if (fun h30 => ?_) (fun h30 => ?_)
        · refine tr_ifT (cd := .eq) h30 ?_
          refine tr_nil (rows2 := kb_157_150) rfl (List.cons_ne_nil _ _) ?_
          refine tr_blk 2 (pc' := 152) (rows' := kb_157_150.drop 2) (loc' := [.inr (12, 0, 0, 72), .inl (.int x1), .inl (.int x1)]) (st' := []) (P1 := P8) rfl ⟨trivial, trivial, trivial⟩ ?_
          exact t_157_152 H53 hH53 N x1 x1 P8
        · refine tr_ifF (cd := .eq) h30 ?_
          refine tr_goto ?_
          refine tr_nil (rows2 := kb_157_224) rfl (List.cons_ne_nil _ _) ?_
          refine tr_blk 1 (pc' := 227) (rows' := kb_157_224.drop 1) (loc' := [.inr (12, 0, 0, 72), .inl (.int (x1 + 1)), .inl (.int x2)]) (st' := []) (P1 := P8) rfl ⟨trivial, trivial⟩ ?_
          refine tr_goto ?_
          exact hH53 (x1 + 1) (.inl (.int x2)) P8
def f_157_53 (N : Nat) : Nat → Int32 → ab_P → Option ab_P
  | 0, _, _ => none
  | n + 1, x1, P =>
    if x1 < ((1 : Int32) <<< ((P.1 76 0) &&& 31)) then
      if ab_gi x1 256 then
      ab_lt (ab_pI P 547 x1.toNatClampNeg (0 : Int32)) fun P6 =>
      f_157_74 N (fun y0 y1 => f_157_53 N n y0 y1) N x1 (0 : Int32) P6
      else none
    else
    some P
theorem t_157_53 {xs : Nat × (Nat → Int32)} {d : Nat} (N : Nat) : ∀ n : Nat, ∀ (x1 : Int32) (d2 : ab_V) (P : ab_P), ab_tr xs wV (d + 3) 157 53 [] [.inr (12, 0, 0, 72), .inl (.int x1), d2] [] P (f_157_53 N n x1 P) := by
  intro n
  induction n with
  | zero => intro x1 d2 P; exact tr_no
  | succ n ih =>
    intro x1 d2 P
    refine tr_nil (rows2 := kb_157_53) rfl (List.cons_ne_nil _ _) ?_
    refine tr_blk 7 (pc' := 62) (rows' := kb_157_53.drop 7) (loc' := [.inr (12, 0, 0, 72), .inl (.int x1), d2]) (st' := [.inl (.int ((1 : Int32) <<< ((P.1 76 0) &&& 31))), .inl (.int x1)]) (P1 := P) rfl ⟨trivial, trivial, trivial, trivial, trivial, (ab_vi (by decide)), trivial, trivial⟩ ?_
    refine tr_if (fun h33 => ?_) (fun h33 => ?_)
    · refine tr_icF (cd := .ge) (Int32.not_le.mpr h33) ?_
      refine tr_gd (fun h5 => ?_)
      refine tr_blk 5 (pc' := 72) (rows' := kb_157_53.drop 13) (loc' := [.inr (12, 0, 0, 72), .inl (.int x1), d2]) (st' := []) (P1 := (ab_pI P 547 x1.toNatClampNeg (0 : Int32))) rfl ⟨trivial, trivial, trivial, trivial, h5, trivial⟩ ?_
      refine tr_lt (fun P6 => ?_)
      refine tr_blk 2 (pc' := 74) (rows' := kb_157_53.drop 15) (loc' := [.inr (12, 0, 0, 72), .inl (.int x1), .inl (.int (0 : Int32))]) (st' := []) (P1 := P6) rfl ⟨trivial, trivial, trivial⟩ ?_
      exact t_157_74 N _ ih N x1 (0 : Int32) P6
    · refine tr_icT (cd := .ge) (Int32.not_lt.mp h33) ?_
      refine tr_nil (rows2 := kb_157_230) rfl (List.cons_ne_nil _ _) ?_
      exact tr_reV (z := km_157) rfl rfl rfl
def f_157_7 (N : Nat) : Nat → Int32 → ab_P → Option ab_P
  | 0, _, _ => none
  | n + 1, x1, P =>
    if x1 < (P.1 76 0) then
      Option.bind (f_140_366 477 N P x1 (0 : Int32)) fun v2 =>
      if v2 = (0 : Int32) then
        ab_lt (ab_pI P 72 38 ((P.1 72 38) ||| (0 : Int32))) fun P3 =>
        f_157_7 N n (x1 + 1) P3
      else
      ab_lt (ab_pI P 72 38 ((P.1 72 38) ||| ((1 : Int32) <<< (x1 &&& 31)))) fun P4 =>
      f_157_7 N n (x1 + 1) P4
    else
    f_157_53 N N (0 : Int32) P
theorem t_157_7 {xs : Nat × (Nat → Int32)} {d : Nat} (N : Nat) : ∀ n : Nat, ∀ (x1 : Int32) (P : ab_P), ab_tr xs wV (d + 3) 157 7 [] [.inr (12, 0, 0, 72), .inl (.int x1), ab_top] [] P (f_157_7 N n x1 P) := by
  intro n
  induction n with
  | zero => intro x1 P; exact tr_no
  | succ n ih =>
    intro x1 P
    refine tr_nil (rows2 := kb_157_7) rfl (List.cons_ne_nil _ _) ?_
    refine tr_blk 5 (pc' := 14) (rows' := kb_157_7.drop 5) (loc' := [.inr (12, 0, 0, 72), .inl (.int x1), ab_top]) (st' := [.inl (.int (P.1 76 0)), .inl (.int x1)]) (P1 := P) rfl ⟨trivial, trivial, trivial, trivial, (ab_vi (by decide)), trivial⟩ ?_
    refine tr_if (fun h34 => ?_) (fun h34 => ?_)
    · refine tr_icF (cd := .ge) (Int32.not_le.mpr h34) ?_
      refine tr_blk 7 (pc' := 28) (rows' := kb_157_7.drop 13) (loc' := [.inr (12, 0, 0, 72), .inl (.int x1), ab_top]) (st' := [.inl (.int (0 : Int32)), .inl (.int x1), .inr (20, 366, 0, 477), .inl (.int (P.1 72 38)), .inr (12, 0, 0, 72)]) (P1 := P) rfl ⟨trivial, trivial, trivial, trivial, trivial, trivial, trivial, trivial⟩ ?_
      refine tr_cRI (z := km_140) (av := [.inr (20, 366, 0, 477), .inl (.int x1), .inl (.int (0 : Int32))]) (st' := [.inl (.int (P.1 72 38)), .inr (12, 0, 0, 72)]) rfl rfl rfl (Nat.le_of_ble_eq_true rfl) trivial rfl (Nat.le_of_ble_eq_true rfl) (t_140_366 477 N P x1 (0 : Int32)) (fun v2 => ?_)
      refine tr_if (fun h35 => ?_) (fun h35 => ?_)
      · refine tr_ifT (cd := .eq) h35 ?_
        refine tr_nil (rows2 := kb_157_40) rfl (List.cons_ne_nil _ _) ?_
        refine tr_blk 1 (pc' := 41) (rows' := kb_157_40.drop 1) (loc' := [.inr (12, 0, 0, 72), .inl (.int x1), ab_top]) (st' := [.inl (.int (0 : Int32)), .inl (.int (P.1 72 38)), .inr (12, 0, 0, 72)]) (P1 := P) rfl ⟨trivial, trivial⟩ ?_
        refine tr_nil (rows2 := kb_157_41) rfl (List.cons_ne_nil _ _) ?_
        refine tr_blk 2 (pc' := 45) (rows' := kb_157_41.drop 2) (loc' := [.inr (12, 0, 0, 72), .inl (.int x1), ab_top]) (st' := []) (P1 := (ab_pI P 72 38 ((P.1 72 38) ||| (0 : Int32)))) rfl ⟨trivial, trivial, trivial⟩ ?_
        refine tr_lt (fun P3 => ?_)
        refine tr_blk 1 (pc' := 48) (rows' := kb_157_41.drop 3) (loc' := [.inr (12, 0, 0, 72), .inl (.int (x1 + 1)), ab_top]) (st' := []) (P1 := P3) rfl ⟨trivial, trivial⟩ ?_
        refine tr_goto ?_
        exact ih (x1 + 1) P3
      · refine tr_ifF (cd := .eq) h35 ?_
        refine tr_blk 3 (pc' := 37) (rows' := kb_157_7.drop 18) (loc' := [.inr (12, 0, 0, 72), .inl (.int x1), ab_top]) (st' := [.inl (.int ((1 : Int32) <<< (x1 &&& 31))), .inl (.int (P.1 72 38)), .inr (12, 0, 0, 72)]) (P1 := P) rfl ⟨trivial, trivial, trivial, trivial⟩ ?_
        refine tr_goto ?_
        refine tr_nil (rows2 := kb_157_41) rfl (List.cons_ne_nil _ _) ?_
        refine tr_blk 2 (pc' := 45) (rows' := kb_157_41.drop 2) (loc' := [.inr (12, 0, 0, 72), .inl (.int x1), ab_top]) (st' := []) (P1 := (ab_pI P 72 38 ((P.1 72 38) ||| ((1 : Int32) <<< (x1 &&& 31))))) rfl ⟨trivial, trivial, trivial⟩ ?_
        refine tr_lt (fun P4 => ?_)
        refine tr_blk 1 (pc' := 48) (rows' := kb_157_41.drop 3) (loc' := [.inr (12, 0, 0, 72), .inl (.int (x1 + 1)), ab_top]) (st' := []) (P1 := P4) rfl ⟨trivial, trivial⟩ ?_
        refine tr_goto ?_
        exact ih (x1 + 1) P4
    · refine tr_icT (cd := .ge) (Int32.not_lt.mp h34) ?_
      refine tr_nil (rows2 := kb_157_51) rfl (List.cons_ne_nil _ _) ?_
      refine tr_blk 2 (pc' := 53) (rows' := kb_157_51.drop 2) (loc' := [.inr (12, 0, 0, 72), .inl (.int (0 : Int32)), ab_top]) (st' := []) (P1 := P) rfl ⟨trivial, trivial, trivial⟩ ?_
      exact t_157_53 N N (0 : Int32) (ab_top) P
def f_157 (N : Nat) (P : ab_P) : Option ab_P :=
    ab_lt (ab_pI P 72 38 (0 : Int32)) fun P1 =>
    f_157_7 N N (0 : Int32) P1
theorem t_157 {xs : Nat × (Nat → Int32)} {d : Nat} (N : Nat) : ∀ (P : ab_P), ab_tr xs wV (d + 3) 157 0 [] [.inr (12, 0, 0, 72), ab_top, ab_top] [] P (f_157 N P) := by
  intro P
  unfold f_157
  refine tr_nil (rows2 := kb_157_0) rfl (List.cons_ne_nil _ _) ?_
  refine tr_blk 3 (pc' := 5) (rows' := kb_157_0.drop 3) (loc' := [.inr (12, 0, 0, 72), ab_top, ab_top]) (st' := []) (P1 := (ab_pI P 72 38 (0 : Int32))) rfl ⟨trivial, trivial, trivial, trivial⟩ ?_
  refine tr_lt (fun P1 => ?_)
  refine tr_blk 2 (pc' := 7) (rows' := kb_157_0.drop 5) (loc' := [.inr (12, 0, 0, 72), .inl (.int (0 : Int32)), ab_top]) (st' := []) (P1 := P1) rfl ⟨trivial, trivial, trivial⟩ ?_
  exact t_157_7 N N (0 : Int32) P1
