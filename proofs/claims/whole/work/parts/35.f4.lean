def f_158_4 (P : ab_P) : Nat → Int32 → Int32 → Int32 → Option Int32
  | 0, _, _, _ => none
  | n + 1, x0, x1, x2 =>
    if x2 < (16 : Int32) then
      f_158_4 P n x0 (x1 + ((x0 >>> (x2 &&& 31)) &&& (1 : Int32))) (x2 + 1)
    else
    some x1
theorem t_158_4 {xs : Nat × (Nat → Int32)} {d : Nat} (P : ab_P) : ∀ n : Nat, ∀ (x0 : Int32) (x1 : Int32) (x2 : Int32), ab_tr xs (rI P) (d + 0) 158 4 [] [.inl (.int x0), .inl (.int x1), .inl (.int x2)] [] P (f_158_4 P n x0 x1 x2) := by
  intro n
  induction n with
  | zero => intro x0 x1 x2; exact tr_no
  | succ n ih =>
    intro x0 x1 x2
    refine tr_nil (rows2 := kb_158_4) rfl (List.cons_ne_nil _ _) ?_
    refine tr_blk 2 (pc' := 7) (rows' := kb_158_4.drop 2) (loc' := [.inl (.int x0), .inl (.int x1), .inl (.int x2)]) (st' := [.inl (.int (16 : Int32)), .inl (.int x2)]) (P1 := P) rfl ⟨trivial, trivial, trivial⟩ ?_
    refine tr_if (fun h1 => ?_) (fun h1 => ?_)
    · refine tr_icF (cd := .ge) (Int32.not_le.mpr h1) ?_
      refine tr_blk 9 (pc' := 21) (rows' := kb_158_4.drop 12) (loc' := [.inl (.int x0), .inl (.int (x1 + ((x0 >>> (x2 &&& 31)) &&& (1 : Int32)))), .inl (.int (x2 + 1))]) (st' := []) (P1 := P) rfl ⟨trivial, trivial, trivial, trivial, trivial, trivial, trivial, trivial, trivial, trivial⟩ ?_
      refine tr_goto ?_
      exact ih x0 (x1 + ((x0 >>> (x2 &&& 31)) &&& (1 : Int32))) (x2 + 1)
    · refine tr_icT (cd := .ge) (Int32.not_lt.mp h1) ?_
      refine tr_nil (rows2 := kb_158_24) rfl (List.cons_ne_nil _ _) ?_
      refine tr_blk 1 (pc' := 25) (rows' := kb_158_24.drop 1) (loc' := [.inl (.int x0), .inl (.int x1), .inl (.int x2)]) (st' := [.inl (.int x1)]) (P1 := P) rfl ⟨trivial, trivial⟩ ?_
      exact tr_reI (z := km_158) rfl ⟨_, rfl, rfl⟩ rfl
def f_158 (N : Nat) (P : ab_P) (a0 : Int32) : Option Int32 :=
    f_158_4 P N a0 (0 : Int32) (0 : Int32)
theorem t_158 {xs : Nat × (Nat → Int32)} {d : Nat} (N : Nat) (P : ab_P) : ∀ (a0 : Int32), ab_tr xs (rI P) (d + 0) 158 0 [] [.inl (.int a0), ab_top, ab_top] [] P (f_158 N P a0) := by
  intro a0
  unfold f_158
  refine tr_nil (rows2 := kb_158_0) rfl (List.cons_ne_nil _ _) ?_
  refine tr_blk 4 (pc' := 4) (rows' := kb_158_0.drop 4) (loc' := [.inl (.int a0), .inl (.int (0 : Int32)), .inl (.int (0 : Int32))]) (st' := []) (P1 := P) rfl ⟨trivial, trivial, trivial, trivial, trivial⟩ ?_
  exact t_158_4 P N a0 (0 : Int32) (0 : Int32)
def f_43_30 (N : Nat) (x1 : Int32) (P : ab_P) : Option (Int32 × ab_P) :=
    Option.bind (f_157 N P) fun P5 =>
    if x1 = (1 : Int32) then
      if ab_gi (P5.1 72 38) 256 then
      some ((P5.1 548 ((P5.1 72 38)).toNatClampNeg), P5)
      else none
    else
    Option.bind (f_158 N P5 (P5.1 72 38)) fun v6 =>
    if ab_gi (P5.1 72 38) 256 then
    some ((v6 - (P5.1 548 ((P5.1 72 38)).toNatClampNeg)), P5)
    else none
theorem t_43_30 {xs : Nat × (Nat → Int32)} {d : Nat} (N : Nat) : ∀ (x1 : Int32) (P : ab_P), ab_tr xs wI (d + 4) 43 30 [] [.inr (12, 0, 0, 72), .inl (.int x1)] [] P (f_43_30 N x1 P) := by
  intro x1 P
  unfold f_43_30
  refine tr_nil (rows2 := kb_43_30) rfl (List.cons_ne_nil _ _) ?_
  refine tr_blk 1 (pc' := 31) (rows' := kb_43_30.drop 1) (loc' := [.inr (12, 0, 0, 72), .inl (.int x1)]) (st' := [.inr (12, 0, 0, 72)]) (P1 := P) rfl ⟨trivial, trivial⟩ ?_
  refine tr_cWV (z := km_157) (av := [.inr (12, 0, 0, 72)]) (st' := []) rfl rfl rfl (Nat.le_of_ble_eq_true rfl) ⟨rfl, Or.inl (by decide)⟩ rfl (Nat.le_of_ble_eq_true rfl) (t_157 N P) (fun P5 => ?_)
  refine tr_blk 2 (pc' := 36) (rows' := kb_43_30.drop 4) (loc' := [.inr (12, 0, 0, 72), .inl (.int x1)]) (st' := [.inl (.int (1 : Int32)), .inl (.int x1)]) (P1 := P5) rfl ⟨trivial, trivial, trivial⟩ ?_
  refine tr_if (fun h9 => ?_) (fun h9 => ?_)
  · refine tr_icF (cd := .ne) (fun q => q h9) ?_
    refine tr_gd (fun h8 => ?_)
    refine tr_blk 5 (pc' := 48) (rows' := kb_43_30.drop 10) (loc' := [.inr (12, 0, 0, 72), .inl (.int x1)]) (st' := [.inl (.int (P5.1 548 ((P5.1 72 38)).toNatClampNeg))]) (P1 := P5) rfl ⟨trivial, trivial, trivial, trivial, h8, trivial⟩ ?_
    refine tr_goto ?_
    refine tr_nil (rows2 := kb_43_68) rfl (List.cons_ne_nil _ _) ?_
    exact tr_reI (z := km_43) rfl ⟨_, rfl, rfl⟩ rfl
  · refine tr_icT (cd := .ne) h9 ?_
    refine tr_nil (rows2 := kb_43_51) rfl (List.cons_ne_nil _ _) ?_
    refine tr_blk 2 (pc' := 55) (rows' := kb_43_51.drop 2) (loc' := [.inr (12, 0, 0, 72), .inl (.int x1)]) (st' := [.inl (.int (P5.1 72 38))]) (P1 := P5) rfl ⟨trivial, trivial, trivial⟩ ?_
    refine tr_cRI (z := km_158) (av := [.inl (.int (P5.1 72 38))]) (st' := []) rfl rfl rfl (Nat.le_of_ble_eq_true rfl) trivial rfl (Nat.le_of_ble_eq_true rfl) (t_158 N P5 (P5.1 72 38)) (fun v6 => ?_)
    refine tr_gd (fun h7 => ?_)
    refine tr_blk 6 (pc' := 68) (rows' := kb_43_51.drop 9) (loc' := [.inr (12, 0, 0, 72), .inl (.int x1)]) (st' := [.inl (.int (v6 - (P5.1 548 ((P5.1 72 38)).toNatClampNeg)))]) (P1 := P5) rfl ⟨trivial, trivial, trivial, trivial, h7, trivial, trivial⟩ ?_
    refine tr_nil (rows2 := kb_43_68) rfl (List.cons_ne_nil _ _) ?_
    exact tr_reI (z := km_43) rfl ⟨_, rfl, rfl⟩ rfl
def f_43_20 (N : Nat) (x1 : Int32) (s0 : Int32) (P : ab_P) : Option (Int32 × ab_P) :=
    ab_b2 (f_113 s0 (1 : Int32) (1 : Int32) P) fun v4 P3 =>
    if v4 = (0 : Int32) then
      f_43_30 N x1 P3
    else
    some ((0 : Int32), P3)
theorem t_43_20 {xs : Nat × (Nat → Int32)} {d : Nat} (N : Nat) : ∀ (x1 : Int32) (s0 : Int32) (P : ab_P), ab_tr xs wI (d + 4) 43 20 [] [.inr (12, 0, 0, 72), .inl (.int x1)] [.inl (.int s0), .inr (12, 0, 0, 72)] P (f_43_20 N x1 s0 P) := by
  intro x1 s0 P
  unfold f_43_20
  refine tr_nil (rows2 := kb_43_20) rfl (List.cons_ne_nil _ _) ?_
  refine tr_blk 2 (pc' := 22) (rows' := kb_43_20.drop 2) (loc' := [.inr (12, 0, 0, 72), .inl (.int x1)]) (st' := [.inl (.int (1 : Int32)), .inl (.int (1 : Int32)), .inl (.int s0), .inr (12, 0, 0, 72)]) (P1 := P) rfl ⟨trivial, trivial, trivial⟩ ?_
  refine tr_cWI (z := km_113) (av := [.inr (12, 0, 0, 72), .inl (.int s0), .inl (.int (1 : Int32)), .inl (.int (1 : Int32))]) (st' := []) rfl rfl rfl (Nat.le_of_ble_eq_true rfl) ⟨rfl, Or.inl (by decide)⟩ rfl (Nat.le_of_ble_eq_true rfl) (t_113 s0 (1 : Int32) (1 : Int32) P) (fun v4 P3 => ?_)
  refine tr_if (fun h10 => ?_) (fun h10 => ?_)
  · refine tr_ifT (cd := .eq) h10 ?_
    exact t_43_30 N x1 P3
  · refine tr_ifF (cd := .eq) h10 ?_
    refine tr_blk 1 (pc' := 29) (rows' := kb_43_20.drop 5) (loc' := [.inr (12, 0, 0, 72), .inl (.int x1)]) (st' := [.inl (.int (0 : Int32))]) (P1 := P3) rfl ⟨trivial, trivial⟩ ?_
    exact tr_reI (z := km_43) rfl ⟨_, rfl, rfl⟩ rfl
def f_43 (N : Nat) (a1 : Int32) (P : ab_P) : Option (Int32 × ab_P) :=
    ab_lt (ab_pI P 72 0 (0 : Int32)) fun P1 =>
    Option.bind (f_112 P1 a1 (0 : Int32) (1 : Int32)) fun v2 =>
    if v2 = (0 : Int32) then
      f_43_20 N a1 (1 : Int32) P1
    else
    f_43_20 N a1 (0 : Int32) P1
theorem t_43 {xs : Nat × (Nat → Int32)} {d : Nat} (N : Nat) : ∀ (a1 : Int32) (P : ab_P), ab_tr xs wI (d + 4) 43 0 [] [.inr (12, 0, 0, 72), .inl (.int a1)] [] P (f_43 N a1 P) := by
  intro a1 P
  unfold f_43
  refine tr_nil (rows2 := kb_43_0) rfl (List.cons_ne_nil _ _) ?_
  refine tr_blk 3 (pc' := 5) (rows' := kb_43_0.drop 3) (loc' := [.inr (12, 0, 0, 72), .inl (.int a1)]) (st' := []) (P1 := (ab_pI P 72 0 (0 : Int32))) rfl ⟨trivial, trivial, trivial, trivial⟩ ?_
  refine tr_lt (fun P1 => ?_)
  refine tr_blk 4 (pc' := 9) (rows' := kb_43_0.drop 7) (loc' := [.inr (12, 0, 0, 72), .inl (.int a1)]) (st' := [.inl (.int (1 : Int32)), .inl (.int (0 : Int32)), .inl (.int a1), .inr (12, 0, 0, 72)]) (P1 := P1) rfl ⟨trivial, trivial, trivial, trivial, trivial⟩ ?_
  refine tr_cRI (z := km_112) (av := [.inl (.int a1), .inl (.int (0 : Int32)), .inl (.int (1 : Int32))]) (st' := [.inr (12, 0, 0, 72)]) rfl rfl rfl (Nat.le_of_ble_eq_true rfl) trivial rfl (Nat.le_of_ble_eq_true rfl) (t_112 P1 a1 (0 : Int32) (1 : Int32)) (fun v2 => ?_)
  refine tr_if (fun h11 => ?_) (fun h11 => ?_)
  · refine tr_ifF (cd := .ne) (fun q => q h11) ?_
    refine tr_blk 1 (pc' := 16) (rows' := kb_43_0.drop 10) (loc' := [.inr (12, 0, 0, 72), .inl (.int a1)]) (st' := [.inl (.int (1 : Int32)), .inr (12, 0, 0, 72)]) (P1 := P1) rfl ⟨trivial, trivial⟩ ?_
    refine tr_goto ?_
    exact t_43_20 N a1 (1 : Int32) P1
  · refine tr_ifT (cd := .ne) h11 ?_
    refine tr_nil (rows2 := kb_43_19) rfl (List.cons_ne_nil _ _) ?_
    refine tr_blk 1 (pc' := 20) (rows' := kb_43_19.drop 1) (loc' := [.inr (12, 0, 0, 72), .inl (.int a1)]) (st' := [.inl (.int (0 : Int32)), .inr (12, 0, 0, 72)]) (P1 := P1) rfl ⟨trivial, trivial⟩ ?_
    exact t_43_20 N a1 (0 : Int32) P1
def f_160 (P : ab_P) (a1 : Int32) : Option Int32 :=
    if a1 < (0 : Int32) then
      some (-1 : Int32)
    else
    if a1 < (P.1 54 7) then
      if a1 < (8 : Int32) then
        if ab_gi a1 8 then
        some (P.1 57 a1.toNatClampNeg)
        else none
      else
      some (-1 : Int32)
    else
    some (-1 : Int32)
theorem t_160 {xs : Nat × (Nat → Int32)} {d : Nat} (P : ab_P) : ∀ (a1 : Int32), ab_tr xs (rI P) (d + 0) 160 0 [] [.inr (1, 0, 0, 54), .inl (.int a1)] [] P (f_160 P a1) := by
  intro a1
  unfold f_160
  refine tr_nil (rows2 := kb_160_0) rfl (List.cons_ne_nil _ _) ?_
  refine tr_blk 1 (pc' := 1) (rows' := kb_160_0.drop 1) (loc' := [.inr (1, 0, 0, 54), .inl (.int a1)]) (st' := [.inl (.int a1)]) (P1 := P) rfl ⟨trivial, trivial⟩ ?_
  refine tr_if (fun h2 => ?_) (fun h2 => ?_)
  · refine tr_ifT (cd := .lt) h2 ?_
    refine tr_nil (rows2 := kb_160_27) rfl (List.cons_ne_nil _ _) ?_
    refine tr_blk 1 (pc' := 28) (rows' := kb_160_27.drop 1) (loc' := [.inr (1, 0, 0, 54), .inl (.int a1)]) (st' := [.inl (.int (-1 : Int32))]) (P1 := P) rfl ⟨trivial, trivial⟩ ?_
    refine tr_nil (rows2 := kb_160_28) rfl (List.cons_ne_nil _ _) ?_
    exact tr_reI (z := km_160) rfl ⟨_, rfl, rfl⟩ rfl
  · refine tr_ifF (cd := .lt) h2 ?_
    refine tr_blk 3 (pc' := 9) (rows' := kb_160_0.drop 5) (loc' := [.inr (1, 0, 0, 54), .inl (.int a1)]) (st' := [.inl (.int (P.1 54 7)), .inl (.int a1)]) (P1 := P) rfl ⟨trivial, trivial, trivial, trivial⟩ ?_
    refine tr_if (fun h3 => ?_) (fun h3 => ?_)
    · refine tr_icF (cd := .ge) (Int32.not_le.mpr h3) ?_
      refine tr_blk 2 (pc' := 15) (rows' := kb_160_0.drop 8) (loc' := [.inr (1, 0, 0, 54), .inl (.int a1)]) (st' := [.inl (.int (8 : Int32)), .inl (.int a1)]) (P1 := P) rfl ⟨trivial, trivial, trivial⟩ ?_
      refine tr_if (fun h4 => ?_) (fun h4 => ?_)
      · refine tr_icF (cd := .ge) (Int32.not_le.mpr h4) ?_
        refine tr_gd (fun h1 => ?_)
        refine tr_blk 4 (pc' := 24) (rows' := kb_160_0.drop 13) (loc' := [.inr (1, 0, 0, 54), .inl (.int a1)]) (st' := [.inl (.int (P.1 57 a1.toNatClampNeg))]) (P1 := P) rfl ⟨trivial, trivial, trivial, h1, trivial⟩ ?_
        refine tr_goto ?_
        refine tr_nil (rows2 := kb_160_28) rfl (List.cons_ne_nil _ _) ?_
        exact tr_reI (z := km_160) rfl ⟨_, rfl, rfl⟩ rfl
      · refine tr_icT (cd := .ge) (Int32.not_lt.mp h4) ?_
        refine tr_nil (rows2 := kb_160_27) rfl (List.cons_ne_nil _ _) ?_
        refine tr_blk 1 (pc' := 28) (rows' := kb_160_27.drop 1) (loc' := [.inr (1, 0, 0, 54), .inl (.int a1)]) (st' := [.inl (.int (-1 : Int32))]) (P1 := P) rfl ⟨trivial, trivial⟩ ?_
        refine tr_nil (rows2 := kb_160_28) rfl (List.cons_ne_nil _ _) ?_
        exact tr_reI (z := km_160) rfl ⟨_, rfl, rfl⟩ rfl
    · refine tr_icT (cd := .ge) (Int32.not_lt.mp h3) ?_
      refine tr_nil (rows2 := kb_160_27) rfl (List.cons_ne_nil _ _) ?_
      refine tr_blk 1 (pc' := 28) (rows' := kb_160_27.drop 1) (loc' := [.inr (1, 0, 0, 54), .inl (.int a1)]) (st' := [.inl (.int (-1 : Int32))]) (P1 := P) rfl ⟨trivial, trivial⟩ ?_
      refine tr_nil (rows2 := kb_160_28) rfl (List.cons_ne_nil _ _) ?_
      exact tr_reI (z := km_160) rfl ⟨_, rfl, rfl⟩ rfl
def f_44 (N : Nat) (a1 : Int32) (P : ab_P) : Option (Int32 × ab_P) :=
    Option.bind (f_159 N P) fun P1 =>
    Option.bind (f_160 P1 a1) fun v2 =>
    some (v2, P1)
theorem t_44 {xs : Nat × (Nat → Int32)} {d : Nat} (N : Nat) : ∀ (a1 : Int32) (P : ab_P), ab_tr xs wI (d + 4) 44 0 [] [.inr (11, 0, 0, 0), .inl (.int a1)] [] P (f_44 N a1 P) := by
  intro a1 P
  unfold f_44
  refine tr_nil (rows2 := kb_44_0) rfl (List.cons_ne_nil _ _) ?_
  refine tr_blk 2 (pc' := 4) (rows' := kb_44_0.drop 2) (loc' := [.inr (11, 0, 0, 0), .inl (.int a1)]) (st' := [.inr (1, 0, 0, 54)]) (P1 := P) rfl ⟨trivial, trivial, trivial⟩ ?_
  refine tr_cWV (z := km_159) (av := [.inr (1, 0, 0, 54)]) (st' := []) rfl rfl rfl (Nat.le_of_ble_eq_true rfl) ⟨rfl, Or.inl (by decide)⟩ rfl (Nat.le_of_ble_eq_true rfl) (t_159 N P) (fun P1 => ?_)
  refine tr_blk 3 (pc' := 12) (rows' := kb_44_0.drop 6) (loc' := [.inr (11, 0, 0, 0), .inl (.int a1)]) (st' := [.inl (.int a1), .inr (1, 0, 0, 54)]) (P1 := P1) rfl ⟨trivial, trivial, trivial, trivial⟩ ?_
  refine tr_cRI (z := km_160) (av := [.inr (1, 0, 0, 54), .inl (.int a1)]) (st' := []) rfl rfl rfl (Nat.le_of_ble_eq_true rfl) ⟨rfl, Or.inl (by decide)⟩ rfl (Nat.le_of_ble_eq_true rfl) (t_160 P1 a1) (fun v2 => ?_)
  exact tr_reI (z := km_44) rfl ⟨_, rfl, rfl⟩ rfl
def f_45_32 (H22 : Int32 → Int32 → Int32 → ab_P → Option (Int32 × ab_P)) : Nat → Int32 → Int32 → Int32 → Int32 → Int32 → ab_P → Option (Int32 × ab_P)
  | 0, _, _, _, _, _, _ => none
  | n + 1, x1, x2, x3, x4, x5, P =>
    if x2 < x5 then
      if x3 = x1 then
        some (x4, P)
      else
      H22 x1 (x2 &&& (x4 ^^^ (-1 : Int32))) (x3 + 1) P
    else
    if x4 = (0 : Int32) then
      if (x5 &&& (x2 ^^^ (-1 : Int32))) = (0 : Int32) then
        if ((x5 &&& x2) &&& (-x2)) = (0 : Int32) then
          f_45_32 H22 n x1 x2 x3 x4 (x5 + 1) P
        else
        if ab_gi x5 256 then
        if (P.1 547 x5.toNatClampNeg) = (0 : Int32) then
          if ab_gi (x2 &&& (x5 ^^^ (-1 : Int32))) 256 then
          if ab_gi x2 256 then
          if (P.1 548 ((x2 &&& (x5 ^^^ (-1 : Int32)))).toNatClampNeg) = ((P.1 548 x2.toNatClampNeg) - (1 : Int32)) then
            f_45_32 H22 n x1 x2 x3 x5 (x5 + 1) P
          else
          f_45_32 H22 n x1 x2 x3 x4 (x5 + 1) P
          else none
          else none
        else
        f_45_32 H22 n x1 x2 x3 x4 (x5 + 1) P
        else none
      else
      f_45_32 H22 n x1 x2 x3 x4 (x5 + 1) P
    else
    if x3 = x1 then
      some (x4, P)
    else
    H22 x1 (x2 &&& (x4 ^^^ (-1 : Int32))) (x3 + 1) P
theorem t_45_32 {xs : Nat × (Nat → Int32)} {d : Nat} (H22 : Int32 → Int32 → Int32 → ab_P → Option (Int32 × ab_P)) (hH22 : ∀ (x1 : Int32) (x2 : Int32) (x3 : Int32) (d4 : ab_V) (d5 : ab_V) (P : ab_P), ab_tr xs wI (d + 4) 45 22 [] [.inr (12, 0, 0, 72), .inl (.int x1), .inl (.int x2), .inl (.int x3), d4, d5] [] P (H22 x1 x2 x3 P)) : ∀ n : Nat, ∀ (x1 : Int32) (x2 : Int32) (x3 : Int32) (x4 : Int32) (x5 : Int32) (P : ab_P), ab_tr xs wI (d + 4) 45 32 [] [.inr (12, 0, 0, 72), .inl (.int x1), .inl (.int x2), .inl (.int x3), .inl (.int x4), .inl (.int x5)] [] P (f_45_32 H22 n x1 x2 x3 x4 x5 P) := by
  intro n
  induction n with
  | zero => intro x1 x2 x3 x4 x5 P; exact tr_no
  | succ n ih =>
    intro x1 x2 x3 x4 x5 P
    refine tr_nil (rows2 := kb_45_32) rfl (List.cons_ne_nil _ _) ?_
    refine tr_blk 2 (pc' := 35) (rows' := kb_45_32.drop 2) (loc' := [.inr (12, 0, 0, 72), .inl (.int x1), .inl (.int x2), .inl (.int x3), .inl (.int x4), .inl (.int x5)]) (st' := [.inl (.int x2), .inl (.int x5)]) (P1 := P) rfl ⟨trivial, trivial, trivial⟩ ?_
    refine tr_if (fun h6 => ?_) (fun h6 => ?_)
    · refine tr_icT (cd := .gt) h6 ?_
      refine tr_nil (rows2 := kb_45_104) rfl (List.cons_ne_nil _ _) ?_
      refine tr_blk 2 (pc' := 106) (rows' := kb_45_104.drop 2) (loc' := [.inr (12, 0, 0, 72), .inl (.int x1), .inl (.int x2), .inl (.int x3), .inl (.int x4), .inl (.int x5)]) (st' := [.inl (.int x1), .inl (.int x3)]) (P1 := P) rfl ⟨trivial, trivial, trivial⟩ ?_
      refine tr_if (fun h7 => ?_) (fun h7 => ?_)
      · refine tr_icF (cd := .ne) (fun q => q h7) ?_
        refine tr_blk 1 (pc' := 111) (rows' := kb_45_104.drop 4) (loc' := [.inr (12, 0, 0, 72), .inl (.int x1), .inl (.int x2), .inl (.int x3), .inl (.int x4), .inl (.int x5)]) (st' := [.inl (.int x4)]) (P1 := P) rfl ⟨trivial, trivial⟩ ?_
        exact tr_reI (z := km_45) rfl ⟨_, rfl, rfl⟩ rfl
      · refine tr_icT (cd := .ne) h7 ?_
        refine tr_nil (rows2 := kb_45_112) rfl (List.cons_ne_nil _ _) ?_
        refine tr_blk 7 (pc' := 122) (rows' := kb_45_112.drop 7) (loc' := [.inr (12, 0, 0, 72), .inl (.int x1), .inl (.int (x2 &&& (x4 ^^^ (-1 : Int32)))), .inl (.int (x3 + 1)), .inl (.int x4), .inl (.int x5)]) (st' := []) (P1 := P) rfl ⟨trivial, trivial, trivial, trivial, trivial, trivial, trivial, trivial⟩ ?_
        refine tr_goto ?_
        exact hH22 x1 (x2 &&& (x4 ^^^ (-1 : Int32))) (x3 + 1) (.inl (.int x4)) (.inl (.int x5)) P
    · refine tr_icF (cd := .gt) h6 ?_
      refine tr_blk 1 (pc' := 40) (rows' := kb_45_32.drop 4) (loc' := [.inr (12, 0, 0, 72), .inl (.int x1), .inl (.int x2), .inl (.int x3), .inl (.int x4), .inl (.int x5)]) (st' := [.inl (.int x4)]) (P1 := P) rfl ⟨trivial, trivial⟩ ?_
      refine tr_if (fun h8 => ?_) (fun h8 => ?_)
      · refine tr_ifF (cd := .ne) (fun q => q h8) ?_
        refine tr_blk 5 (pc' := 49) (rows' := kb_45_32.drop 10) (loc' := [.inr (12, 0, 0, 72), .inl (.int x1), .inl (.int x2), .inl (.int x3), .inl (.int x4), .inl (.int x5)]) (st' := [.inl (.int (x5 &&& (x2 ^^^ (-1 : Int32))))]) (P1 := P) rfl ⟨trivial, trivial, trivial, trivial, trivial, trivial⟩ ?_
        refine tr_if (fun h10 => ?_) (fun h10 => ?_)
        · refine tr_ifF (cd := .ne) (fun q => q h10) ?_
          refine tr_blk 6 (pc' := 59) (rows' := kb_45_32.drop 17) (loc' := [.inr (12, 0, 0, 72), .inl (.int x1), .inl (.int x2), .inl (.int x3), .inl (.int x4), .inl (.int x5)]) (st' := [.inl (.int ((x5 &&& x2) &&& (-x2)))]) (P1 := P) rfl ⟨trivial, trivial, trivial, trivial, trivial, trivial, trivial⟩ ?_
          refine tr_if (fun h11 => ?_) (fun h11 => ?_)
          · refine tr_ifT (cd := .eq) h11 ?_
            refine tr_nil (rows2 := kb_45_98) rfl (List.cons_ne_nil _ _) ?_
            refine tr_blk 1 (pc' := 101) (rows' := kb_45_98.drop 1) (loc' := [.inr (12, 0, 0, 72), .inl (.int x1), .inl (.int x2), .inl (.int x3), .inl (.int x4), .inl (.int (x5 + 1))]) (st' := []) (P1 := P) rfl ⟨trivial, trivial⟩ ?_
            refine tr_goto ?_
            exact ih x1 x2 x3 x4 (x5 + 1) P
          · refine tr_ifF (cd := .eq) h11 ?_
            refine tr_gd (fun h3 => ?_)
            refine tr_blk 4 (pc' := 69) (rows' := kb_45_32.drop 22) (loc' := [.inr (12, 0, 0, 72), .inl (.int x1), .inl (.int x2), .inl (.int x3), .inl (.int x4), .inl (.int x5)]) (st' := [.inl (.int (P.1 547 x5.toNatClampNeg))]) (P1 := P) rfl ⟨trivial, trivial, trivial, h3, trivial⟩ ?_
            refine tr_if (fun h12 => ?_) (fun h12 => ?_)
            · refine tr_ifF (cd := .ne) (fun q => q h12) ?_
              refine tr_gd (fun h4 => ?_)
              refine tr_gd (fun h5 => ?_)
              refine tr_blk 14 (pc' := 91) (rows' := kb_45_32.drop 37) (loc' := [.inr (12, 0, 0, 72), .inl (.int x1), .inl (.int x2), .inl (.int x3), .inl (.int x4), .inl (.int x5)]) (st' := [.inl (.int ((P.1 548 x2.toNatClampNeg) - (1 : Int32))), .inl (.int (P.1 548 ((x2 &&& (x5 ^^^ (-1 : Int32)))).toNatClampNeg))]) (P1 := P) rfl ⟨trivial, trivial, trivial, trivial, trivial, trivial, trivial, h4, trivial, trivial, trivial, h5, trivial, trivial, trivial⟩ ?_
              refine tr_if (fun h13 => ?_) (fun h13 => ?_)
              · refine tr_icF (cd := .ne) (fun q => q h13) ?_
                refine tr_blk 2 (pc' := 98) (rows' := kb_45_32.drop 40) (loc' := [.inr (12, 0, 0, 72), .inl (.int x1), .inl (.int x2), .inl (.int x3), .inl (.int x5), .inl (.int x5)]) (st' := []) (P1 := P) rfl ⟨trivial, trivial, trivial⟩ ?_
                refine tr_nil (rows2 := kb_45_98) rfl (List.cons_ne_nil _ _) ?_
                refine tr_blk 1 (pc' := 101) (rows' := kb_45_98.drop 1) (loc' := [.inr (12, 0, 0, 72), .inl (.int x1), .inl (.int x2), .inl (.int x3), .inl (.int x5), .inl (.int (x5 + 1))]) (st' := []) (P1 := P) rfl ⟨trivial, trivial⟩ ?_
                refine tr_goto ?_
                exact ih x1 x2 x3 x5 (x5 + 1) P
              · refine tr_icT (cd := .ne) h13 ?_
                refine tr_nil (rows2 := kb_45_98) rfl (List.cons_ne_nil _ _) ?_
                refine tr_blk 1 (pc' := 101) (rows' := kb_45_98.drop 1) (loc' := [.inr (12, 0, 0, 72), .inl (.int x1), .inl (.int x2), .inl (.int x3), .inl (.int x4), .inl (.int (x5 + 1))]) (st' := []) (P1 := P) rfl ⟨trivial, trivial⟩ ?_
                refine tr_goto ?_
                exact ih x1 x2 x3 x4 (x5 + 1) P
            · refine tr_ifT (cd := .ne) h12 ?_
              refine tr_nil (rows2 := kb_45_98) rfl (List.cons_ne_nil _ _) ?_
              refine tr_blk 1 (pc' := 101) (rows' := kb_45_98.drop 1) (loc' := [.inr (12, 0, 0, 72), .inl (.int x1), .inl (.int x2), .inl (.int x3), .inl (.int x4), .inl (.int (x5 + 1))]) (st' := []) (P1 := P) rfl ⟨trivial, trivial⟩ ?_
              refine tr_goto ?_
              exact ih x1 x2 x3 x4 (x5 + 1) P
        · refine tr_ifT (cd := .ne) h10 ?_
          refine tr_nil (rows2 := kb_45_98) rfl (List.cons_ne_nil _ _) ?_
          refine tr_blk 1 (pc' := 101) (rows' := kb_45_98.drop 1) (loc' := [.inr (12, 0, 0, 72), .inl (.int x1), .inl (.int x2), .inl (.int x3), .inl (.int x4), .inl (.int (x5 + 1))]) (st' := []) (P1 := P) rfl ⟨trivial, trivial⟩ ?_
          refine tr_goto ?_
          exact ih x1 x2 x3 x4 (x5 + 1) P
      · refine tr_ifT (cd := .ne) h8 ?_
        refine tr_nil (rows2 := kb_45_104) rfl (List.cons_ne_nil _ _) ?_
        refine tr_blk 2 (pc' := 106) (rows' := kb_45_104.drop 2) (loc' := [.inr (12, 0, 0, 72), .inl (.int x1), .inl (.int x2), .inl (.int x3), .inl (.int x4), .inl (.int x5)]) (st' := [.inl (.int x1), .inl (.int x3)]) (P1 := P) rfl ⟨trivial, trivial, trivial⟩ ?_
        refine tr_if (fun h9 => ?_) (fun h9 => ?_)
        · refine tr_icF (cd := .ne) (fun q => q h9) ?_
          refine tr_blk 1 (pc' := 111) (rows' := kb_45_104.drop 4) (loc' := [.inr (12, 0, 0, 72), .inl (.int x1), .inl (.int x2), .inl (.int x3), .inl (.int x4), .inl (.int x5)]) (st' := [.inl (.int x4)]) (P1 := P) rfl ⟨trivial, trivial⟩ ?_
          exact tr_reI (z := km_45) rfl ⟨_, rfl, rfl⟩ rfl
        · refine tr_icT (cd := .ne) h9 ?_
          refine tr_nil (rows2 := kb_45_112) rfl (List.cons_ne_nil _ _) ?_
          refine tr_blk 7 (pc' := 122) (rows' := kb_45_112.drop 7) (loc' := [.inr (12, 0, 0, 72), .inl (.int x1), .inl (.int (x2 &&& (x4 ^^^ (-1 : Int32)))), .inl (.int (x3 + 1)), .inl (.int x4), .inl (.int x5)]) (st' := []) (P1 := P) rfl ⟨trivial, trivial, trivial, trivial, trivial, trivial, trivial, trivial⟩ ?_
          refine tr_goto ?_
          exact hH22 x1 (x2 &&& (x4 ^^^ (-1 : Int32))) (x3 + 1) (.inl (.int x4)) (.inl (.int x5)) P
def f_45_22 (N : Nat) : Nat → Int32 → Int32 → Int32 → ab_P → Option (Int32 × ab_P)
  | 0, _, _, _, _ => none
  | n + 1, x1, x2, x3, P =>
    if x2 = (0 : Int32) then
      some ((-1 : Int32), P)
    else
    f_45_32 (fun y0 y1 y2 y3 => f_45_22 N n y0 y1 y2 y3) N x1 x2 x3 (0 : Int32) (1 : Int32) P
theorem t_45_22 {xs : Nat × (Nat → Int32)} {d : Nat} (N : Nat) : ∀ n : Nat, ∀ (x1 : Int32) (x2 : Int32) (x3 : Int32) (d4 : ab_V) (d5 : ab_V) (P : ab_P), ab_tr xs wI (d + 4) 45 22 [] [.inr (12, 0, 0, 72), .inl (.int x1), .inl (.int x2), .inl (.int x3), d4, d5] [] P (f_45_22 N n x1 x2 x3 P) := by
  intro n
  induction n with
  | zero => intro x1 x2 x3 d4 d5 P; exact tr_no
  | succ n ih =>
    intro x1 x2 x3 d4 d5 P
    refine tr_nil (rows2 := kb_45_22) rfl (List.cons_ne_nil _ _) ?_
    refine tr_blk 1 (pc' := 23) (rows' := kb_45_22.drop 1) (loc' := [.inr (12, 0, 0, 72), .inl (.int x1), .inl (.int x2), .inl (.int x3), d4, d5]) (st' := [.inl (.int x2)]) (P1 := P) rfl ⟨trivial, trivial⟩ ?_
    refine tr_if (fun h14 => ?_) (fun h14 => ?_)
    · refine tr_ifT (cd := .eq) h14 ?_
      refine tr_nil (rows2 := kb_45_125) rfl (List.cons_ne_nil _ _) ?_
      refine tr_blk 1 (pc' := 126) (rows' := kb_45_125.drop 1) (loc' := [.inr (12, 0, 0, 72), .inl (.int x1), .inl (.int x2), .inl (.int x3), d4, d5]) (st' := [.inl (.int (-1 : Int32))]) (P1 := P) rfl ⟨trivial, trivial⟩ ?_
      exact tr_reI (z := km_45) rfl ⟨_, rfl, rfl⟩ rfl
    · refine tr_ifF (cd := .eq) h14 ?_
      refine tr_blk 4 (pc' := 32) (rows' := kb_45_22.drop 6) (loc' := [.inr (12, 0, 0, 72), .inl (.int x1), .inl (.int x2), .inl (.int x3), .inl (.int (0 : Int32)), .inl (.int (1 : Int32))]) (st' := []) (P1 := P) rfl ⟨trivial, trivial, trivial, trivial, trivial⟩ ?_
      exact t_45_32 _ ih N x1 x2 x3 (0 : Int32) (1 : Int32) P
def f_45 (N : Nat) (a1 : Int32) (P : ab_P) : Option (Int32 × ab_P) :=
    ab_lt (ab_pI P 72 0 (0 : Int32)) fun P1 =>
    Option.bind (f_157 N P1) fun P2 =>
    if a1 < (0 : Int32) then
      some ((-1 : Int32), P2)
    else
    f_45_22 N N a1 (P2.1 72 38) (0 : Int32) P2
theorem t_45 {xs : Nat × (Nat → Int32)} {d : Nat} (N : Nat) : ∀ (a1 : Int32) (P : ab_P), ab_tr xs wI (d + 4) 45 0 [] [.inr (12, 0, 0, 72), .inl (.int a1), ab_top, ab_top, ab_top, ab_top] [] P (f_45 N a1 P) := by
  intro a1 P
  unfold f_45
  refine tr_nil (rows2 := kb_45_0) rfl (List.cons_ne_nil _ _) ?_
  refine tr_blk 3 (pc' := 5) (rows' := kb_45_0.drop 3) (loc' := [.inr (12, 0, 0, 72), .inl (.int a1), ab_top, ab_top, ab_top, ab_top]) (st' := []) (P1 := (ab_pI P 72 0 (0 : Int32))) rfl ⟨trivial, trivial, trivial, trivial⟩ ?_
  refine tr_lt (fun P1 => ?_)
  refine tr_blk 1 (pc' := 6) (rows' := kb_45_0.drop 4) (loc' := [.inr (12, 0, 0, 72), .inl (.int a1), ab_top, ab_top, ab_top, ab_top]) (st' := [.inr (12, 0, 0, 72)]) (P1 := P1) rfl ⟨trivial, trivial⟩ ?_
  refine tr_cWV (z := km_157) (av := [.inr (12, 0, 0, 72)]) (st' := []) rfl rfl rfl (Nat.le_of_ble_eq_true rfl) ⟨rfl, Or.inl (by decide)⟩ rfl (Nat.le_of_ble_eq_true rfl) (t_157 N P1) (fun P2 => ?_)
  refine tr_blk 4 (pc' := 15) (rows' := kb_45_0.drop 9) (loc' := [.inr (12, 0, 0, 72), .inl (.int a1), .inl (.int (P2.1 72 38)), ab_top, ab_top, ab_top]) (st' := [.inl (.int a1)]) (P1 := P2) rfl ⟨trivial, trivial, trivial, trivial, trivial⟩ ?_
  refine tr_if (fun h15 => ?_) (fun h15 => ?_)
  · refine tr_ifF (cd := .ge) (Int32.not_le.mpr h15) ?_
    refine tr_blk 1 (pc' := 19) (rows' := kb_45_0.drop 11) (loc' := [.inr (12, 0, 0, 72), .inl (.int a1), .inl (.int (P2.1 72 38)), ab_top, ab_top, ab_top]) (st' := [.inl (.int (-1 : Int32))]) (P1 := P2) rfl ⟨trivial, trivial⟩ ?_
    exact tr_reI (z := km_45) rfl ⟨_, rfl, rfl⟩ rfl
  · refine tr_ifT (cd := .ge) (Int32.not_lt.mp h15) ?_
    refine tr_nil (rows2 := kb_45_20) rfl (List.cons_ne_nil _ _) ?_
    refine tr_blk 2 (pc' := 22) (rows' := kb_45_20.drop 2) (loc' := [.inr (12, 0, 0, 72), .inl (.int a1), .inl (.int (P2.1 72 38)), .inl (.int (0 : Int32)), ab_top, ab_top]) (st' := []) (P1 := P2) rfl ⟨trivial, trivial, trivial⟩ ?_
    exact t_45_22 N N a1 (P2.1 72 38) (0 : Int32) (ab_top) (ab_top) P2
def f_306_64_5 (i0 : Nat) : Nat → Int32 → Int32 → Int32 → ab_P → Option ab_P
  | 0, _, _, _, _ => none
  | n + 1, x1, x2, x3, P =>
    if x2 < x3 then
      if ab_gi x2 64 then
      ab_lt (ab_pI P i0 x2.toNatClampNeg x1) fun P2 =>
      f_306_64_5 i0 n x1 (x2 + 1) x3 P2
      else none
    else
    some P
theorem t_306_64_5 {xs : Nat × (Nat → Int32)} {d : Nat} (i0 : Nat) : ∀ n : Nat, ∀ (x1 : Int32) (x2 : Int32) (x3 : Int32) (P : ab_P), ab_tr xs wV (d + 0) 306 5 [] [.inr (20, 64, 0, i0), .inl (.int x1), .inl (.int x2), .inl (.int x3)] [] P (f_306_64_5 i0 n x1 x2 x3 P) := by
  intro n
  induction n with
  | zero => intro x1 x2 x3 P; exact tr_no
  | succ n ih =>
    intro x1 x2 x3 P
    refine tr_nil (rows2 := kb_306_5) rfl (List.cons_ne_nil _ _) ?_
    refine tr_blk 2 (pc' := 7) (rows' := kb_306_5.drop 2) (loc' := [.inr (20, 64, 0, i0), .inl (.int x1), .inl (.int x2), .inl (.int x3)]) (st' := [.inl (.int x3), .inl (.int x2)]) (P1 := P) rfl ⟨trivial, trivial, trivial⟩ ?_
    refine tr_if (fun h3 => ?_) (fun h3 => ?_)
    · refine tr_icF (cd := .ge) (Int32.not_le.mpr h3) ?_
      refine tr_gd (fun h1 => ?_)
      refine tr_blk 4 (pc' := 14) (rows' := kb_306_5.drop 7) (loc' := [.inr (20, 64, 0, i0), .inl (.int x1), .inl (.int x2), .inl (.int x3)]) (st' := []) (P1 := (ab_pI P i0 x2.toNatClampNeg x1)) rfl ⟨trivial, trivial, trivial, h1, trivial⟩ ?_
      refine tr_lt (fun P2 => ?_)
      refine tr_blk 1 (pc' := 17) (rows' := kb_306_5.drop 8) (loc' := [.inr (20, 64, 0, i0), .inl (.int x1), .inl (.int (x2 + 1)), .inl (.int x3)]) (st' := []) (P1 := P2) rfl ⟨trivial, trivial⟩ ?_
      refine tr_goto ?_
      exact ih x1 (x2 + 1) x3 P2
    · refine tr_icT (cd := .ge) (Int32.not_lt.mp h3) ?_
      refine tr_nil (rows2 := kb_306_20) rfl (List.cons_ne_nil _ _) ?_
      exact tr_reV (z := km_306) rfl rfl rfl
def f_306_64 (i0 : Nat) (N : Nat) (a1 : Int32) (P : ab_P) : Option ab_P :=
    f_306_64_5 i0 N a1 (0 : Int32) (64 : Int32) P
theorem t_306_64 {xs : Nat × (Nat → Int32)} {d : Nat} (i0 : Nat) (N : Nat) : ∀ (a1 : Int32) (P : ab_P), ab_tr xs wV (d + 0) 306 0 [] [.inr (20, 64, 0, i0), .inl (.int a1), ab_top, ab_top] [] P (f_306_64 i0 N a1 P) := by
  intro a1 P
  unfold f_306_64
  refine tr_nil (rows2 := kb_306_0) rfl (List.cons_ne_nil _ _) ?_
  refine tr_blk 5 (pc' := 5) (rows' := kb_306_0.drop 5) (loc' := [.inr (20, 64, 0, i0), .inl (.int a1), .inl (.int (0 : Int32)), .inl (.int (64 : Int32))]) (st' := []) (P1 := P) rfl ⟨trivial, trivial, trivial, (Or.inl (by decide)), trivial, trivial⟩ ?_
  exact t_306_64_5 i0 N a1 (0 : Int32) (64 : Int32) P
def f_307 (P : ab_P) (a1 : Int32) : Option Int32 :=
    if a1 = (-1 : Int32) then
      some (0 : Int32)
    else
    Option.bind (f_231 43 P (2 : Int32) a1) fun v1 =>
    some v1
theorem t_307 {xs : Nat × (Nat → Int32)} {d : Nat} (P : ab_P) : ∀ (a1 : Int32), ab_tr xs (rI P) (d + 1) 307 0 [] [.inr (1, 0, 0, 54), .inl (.int a1)] [] P (f_307 P a1) := by
  intro a1
  unfold f_307
  refine tr_nil (rows2 := kb_307_0) rfl (List.cons_ne_nil _ _) ?_
  refine tr_blk 2 (pc' := 2) (rows' := kb_307_0.drop 2) (loc' := [.inr (1, 0, 0, 54), .inl (.int a1)]) (st' := [.inl (.int (-1 : Int32)), .inl (.int a1)]) (P1 := P) rfl ⟨trivial, trivial, trivial⟩ ?_
  refine tr_if (fun h2 => ?_) (fun h2 => ?_)
  · refine tr_icF (cd := .ne) (fun q => q h2) ?_
    refine tr_blk 1 (pc' := 6) (rows' := kb_307_0.drop 4) (loc' := [.inr (1, 0, 0, 54), .inl (.int a1)]) (st' := [.inl (.int (0 : Int32))]) (P1 := P) rfl ⟨trivial, trivial⟩ ?_
    refine tr_goto ?_
    refine tr_nil (rows2 := kb_307_18) rfl (List.cons_ne_nil _ _) ?_
    exact tr_reI (z := km_307) rfl ⟨_, rfl, rfl⟩ rfl
  · refine tr_icT (cd := .ne) h2 ?_
    refine tr_nil (rows2 := kb_307_9) rfl (List.cons_ne_nil _ _) ?_
    refine tr_blk 4 (pc' := 15) (rows' := kb_307_9.drop 4) (loc' := [.inr (1, 0, 0, 54), .inl (.int a1)]) (st' := [.inl (.int a1), .inl (.int (2 : Int32)), .inr (6, 0, 0, 43)]) (P1 := P) rfl ⟨trivial, trivial, trivial, trivial, trivial⟩ ?_
    refine tr_cRI (z := km_231) (av := [.inr (6, 0, 0, 43), .inl (.int (2 : Int32)), .inl (.int a1)]) (st' := []) rfl rfl rfl (Nat.le_of_ble_eq_true rfl) ⟨rfl, Or.inl (by decide)⟩ rfl (Nat.le_of_ble_eq_true rfl) (t_231 43 P (2 : Int32) a1) (fun v1 => ?_)
    refine tr_nil (rows2 := kb_307_18) rfl (List.cons_ne_nil _ _) ?_
    exact tr_reI (z := km_307) rfl ⟨_, rfl, rfl⟩ rfl
def f_251_10 (N : Nat) : Nat → Int32 → ab_P → Option ab_P
  | 0, _, _ => none
  | n + 1, x1, P =>
    if x1 < (P.1 43 2) then
      Option.bind (f_231 43 P (0 : Int32) x1) fun v2 =>
      Option.bind (f_231 43 P (1 : Int32) x1) fun v3 =>
      if ((v2 * (8 : Int32)) + v3) < (0 : Int32) then
        f_251_10 N n (x1 + 1) P
      else
      if ((v2 * (8 : Int32)) + v3) < (64 : Int32) then
        ab_b2 (f_243 N x1 P) fun v5 P4 =>
        if v5 = (0 : Int32) then
          f_251_10 N n (x1 + 1) P4
        else
        Option.bind (f_231 43 P4 (2 : Int32) x1) fun v6 =>
        if ab_gi ((v2 * (8 : Int32)) + v3) 64 then
        Option.bind (f_307 P4 (P4.1 58 (((v2 * (8 : Int32)) + v3)).toNatClampNeg)) fun v8 =>
        if v8 < v6 then
          if ab_gi ((v2 * (8 : Int32)) + v3) 64 then
          ab_lt (ab_pI P4 58 (((v2 * (8 : Int32)) + v3)).toNatClampNeg x1) fun P10 =>
          f_251_10 N n (x1 + 1) P10
          else none
        else
        f_251_10 N n (x1 + 1) P4
        else none
      else
      f_251_10 N n (x1 + 1) P
    else
    some P
theorem t_251_10 {xs : Nat × (Nat → Int32)} {d : Nat} (N : Nat) : ∀ n : Nat, ∀ (x1 : Int32) (d2 : ab_V) (P : ab_P), ab_tr xs wV (d + 5) 251 10 [] [.inr (1, 0, 0, 54), .inl (.int x1), d2] [] P (f_251_10 N n x1 P) := by
  intro n
  induction n with
  | zero => intro x1 d2 P; exact tr_no
  | succ n ih =>
    intro x1 d2 P
    refine tr_nil (rows2 := kb_251_10) rfl (List.cons_ne_nil _ _) ?_
    refine tr_blk 4 (pc' := 18) (rows' := kb_251_10.drop 4) (loc' := [.inr (1, 0, 0, 54), .inl (.int x1), d2]) (st' := [.inl (.int (P.1 43 2)), .inl (.int x1)]) (P1 := P) rfl ⟨trivial, trivial, trivial, trivial, trivial⟩ ?_
    refine tr_if (fun h11 => ?_) (fun h11 => ?_)
    · refine tr_icF (cd := .ge) (Int32.not_le.mpr h11) ?_
      refine tr_blk 4 (pc' := 27) (rows' := kb_251_10.drop 9) (loc' := [.inr (1, 0, 0, 54), .inl (.int x1), d2]) (st' := [.inl (.int x1), .inl (.int (0 : Int32)), .inr (6, 0, 0, 43)]) (P1 := P) rfl ⟨trivial, trivial, trivial, trivial, trivial⟩ ?_
      refine tr_cRI (z := km_231) (av := [.inr (6, 0, 0, 43), .inl (.int (0 : Int32)), .inl (.int x1)]) (st' := []) rfl rfl rfl (Nat.le_of_ble_eq_true rfl) ⟨rfl, Or.inl (by decide)⟩ rfl (Nat.le_of_ble_eq_true rfl) (t_231 43 P (0 : Int32) x1) (fun v2 => ?_)
      refine tr_blk 6 (pc' := 39) (rows' := kb_251_10.drop 16) (loc' := [.inr (1, 0, 0, 54), .inl (.int x1), d2]) (st' := [.inl (.int x1), .inl (.int (1 : Int32)), .inr (6, 0, 0, 43), .inl (.int (v2 * (8 : Int32)))]) (P1 := P) rfl ⟨trivial, trivial, trivial, trivial, trivial, trivial, trivial⟩ ?_
      refine tr_cRI (z := km_231) (av := [.inr (6, 0, 0, 43), .inl (.int (1 : Int32)), .inl (.int x1)]) (st' := [.inl (.int (v2 * (8 : Int32)))]) rfl rfl rfl (Nat.le_of_ble_eq_true rfl) ⟨rfl, Or.inl (by decide)⟩ rfl (Nat.le_of_ble_eq_true rfl) (t_231 43 P (1 : Int32) x1) (fun v3 => ?_)
      refine tr_blk 3 (pc' := 45) (rows' := kb_251_10.drop 20) (loc' := [.inr (1, 0, 0, 54), .inl (.int x1), .inl (.int ((v2 * (8 : Int32)) + v3))]) (st' := [.inl (.int ((v2 * (8 : Int32)) + v3))]) (P1 := P) rfl ⟨trivial, trivial, trivial, trivial⟩ ?_
      refine tr_if (fun h12 => ?_) (fun h12 => ?_)
      · refine tr_ifT (cd := .lt) h12 ?_
        refine tr_nil (rows2 := kb_251_97) rfl (List.cons_ne_nil _ _) ?_
        refine tr_blk 1 (pc' := 100) (rows' := kb_251_97.drop 1) (loc' := [.inr (1, 0, 0, 54), .inl (.int (x1 + 1)), .inl (.int ((v2 * (8 : Int32)) + v3))]) (st' := []) (P1 := P) rfl ⟨trivial, trivial⟩ ?_
        refine tr_goto ?_
        exact ih (x1 + 1) (.inl (.int ((v2 * (8 : Int32)) + v3))) P
      · refine tr_ifF (cd := .lt) h12 ?_
        refine tr_blk 4 (pc' := 54) (rows' := kb_251_10.drop 25) (loc' := [.inr (1, 0, 0, 54), .inl (.int x1), .inl (.int ((v2 * (8 : Int32)) + v3))]) (st' := [.inl (.int (64 : Int32)), .inl (.int ((v2 * (8 : Int32)) + v3))]) (P1 := P) rfl ⟨trivial, trivial, trivial, (Or.inl (by decide)), trivial⟩ ?_
        refine tr_if (fun h13 => ?_) (fun h13 => ?_)
        · refine tr_icF (cd := .ge) (Int32.not_le.mpr h13) ?_
          refine tr_blk 3 (pc' := 62) (rows' := kb_251_10.drop 29) (loc' := [.inr (1, 0, 0, 54), .inl (.int x1), .inl (.int ((v2 * (8 : Int32)) + v3))]) (st' := [.inl (.int x1), .inr (4, 0, 0, 46)]) (P1 := P) rfl ⟨trivial, trivial, trivial, trivial⟩ ?_
          refine tr_cWI (z := km_243) (av := [.inr (4, 0, 0, 46), .inl (.int x1)]) (st' := []) rfl rfl rfl (Nat.le_of_ble_eq_true rfl) ⟨rfl, Or.inl (by decide)⟩ rfl (Nat.le_of_ble_eq_true rfl) (t_243 N x1 P) (fun v5 P4 => ?_)
          refine tr_if (fun h14 => ?_) (fun h14 => ?_)
          · refine tr_ifT (cd := .eq) h14 ?_
            refine tr_nil (rows2 := kb_251_97) rfl (List.cons_ne_nil _ _) ?_
            refine tr_blk 1 (pc' := 100) (rows' := kb_251_97.drop 1) (loc' := [.inr (1, 0, 0, 54), .inl (.int (x1 + 1)), .inl (.int ((v2 * (8 : Int32)) + v3))]) (st' := []) (P1 := P4) rfl ⟨trivial, trivial⟩ ?_
            refine tr_goto ?_
            exact ih (x1 + 1) (.inl (.int ((v2 * (8 : Int32)) + v3))) P4
          · refine tr_ifF (cd := .eq) h14 ?_
            refine tr_blk 4 (pc' := 74) (rows' := kb_251_10.drop 35) (loc' := [.inr (1, 0, 0, 54), .inl (.int x1), .inl (.int ((v2 * (8 : Int32)) + v3))]) (st' := [.inl (.int x1), .inl (.int (2 : Int32)), .inr (6, 0, 0, 43)]) (P1 := P4) rfl ⟨trivial, trivial, trivial, trivial, trivial⟩ ?_
            refine tr_cRI (z := km_231) (av := [.inr (6, 0, 0, 43), .inl (.int (2 : Int32)), .inl (.int x1)]) (st' := []) rfl rfl rfl (Nat.le_of_ble_eq_true rfl) ⟨rfl, Or.inl (by decide)⟩ rfl (Nat.le_of_ble_eq_true rfl) (t_231 43 P4 (2 : Int32) x1) (fun v6 => ?_)
            refine tr_gd (fun h7 => ?_)
            refine tr_blk 5 (pc' := 84) (rows' := kb_251_10.drop 41) (loc' := [.inr (1, 0, 0, 54), .inl (.int x1), .inl (.int ((v2 * (8 : Int32)) + v3))]) (st' := [.inl (.int (P4.1 58 (((v2 * (8 : Int32)) + v3)).toNatClampNeg)), .inr (1, 0, 0, 54), .inl (.int v6)]) (P1 := P4) rfl ⟨trivial, trivial, trivial, trivial, h7, trivial⟩ ?_
            refine tr_cRI (z := km_307) (av := [.inr (1, 0, 0, 54), .inl (.int (P4.1 58 (((v2 * (8 : Int32)) + v3)).toNatClampNeg))]) (st' := [.inl (.int v6)]) rfl rfl rfl (Nat.le_of_ble_eq_true rfl) ⟨rfl, Or.inl (by decide)⟩ rfl (Nat.le_of_ble_eq_true rfl) (t_307 P4 (P4.1 58 (((v2 * (8 : Int32)) + v3)).toNatClampNeg)) (fun v8 => ?_)
            refine tr_if (fun h15 => ?_) (fun h15 => ?_)
            · refine tr_icF (cd := .le) (Int32.not_le.mpr h15) ?_
              refine tr_gd (fun h9 => ?_)
              refine tr_blk 5 (pc' := 97) (rows' := kb_251_10.drop 48) (loc' := [.inr (1, 0, 0, 54), .inl (.int x1), .inl (.int ((v2 * (8 : Int32)) + v3))]) (st' := []) (P1 := (ab_pI P4 58 (((v2 * (8 : Int32)) + v3)).toNatClampNeg x1)) rfl ⟨trivial, trivial, trivial, trivial, h9, trivial⟩ ?_
              refine tr_lt (fun P10 => ?_)
              refine tr_nil (rows2 := kb_251_97) rfl (List.cons_ne_nil _ _) ?_
              refine tr_blk 1 (pc' := 100) (rows' := kb_251_97.drop 1) (loc' := [.inr (1, 0, 0, 54), .inl (.int (x1 + 1)), .inl (.int ((v2 * (8 : Int32)) + v3))]) (st' := []) (P1 := P10) rfl ⟨trivial, trivial⟩ ?_
              refine tr_goto ?_
              exact ih (x1 + 1) (.inl (.int ((v2 * (8 : Int32)) + v3))) P10
            · refine tr_icT (cd := .le) (Int32.not_lt.mp h15) ?_
              refine tr_nil (rows2 := kb_251_97) rfl (List.cons_ne_nil _ _) ?_
              refine tr_blk 1 (pc' := 100) (rows' := kb_251_97.drop 1) (loc' := [.inr (1, 0, 0, 54), .inl (.int (x1 + 1)), .inl (.int ((v2 * (8 : Int32)) + v3))]) (st' := []) (P1 := P4) rfl ⟨trivial, trivial⟩ ?_
              refine tr_goto ?_
              exact ih (x1 + 1) (.inl (.int ((v2 * (8 : Int32)) + v3))) P4
        · refine tr_icT (cd := .ge) (Int32.not_lt.mp h13) ?_
          refine tr_nil (rows2 := kb_251_97) rfl (List.cons_ne_nil _ _) ?_
          refine tr_blk 1 (pc' := 100) (rows' := kb_251_97.drop 1) (loc' := [.inr (1, 0, 0, 54), .inl (.int (x1 + 1)), .inl (.int ((v2 * (8 : Int32)) + v3))]) (st' := []) (P1 := P) rfl ⟨trivial, trivial⟩ ?_
          refine tr_goto ?_
          exact ih (x1 + 1) (.inl (.int ((v2 * (8 : Int32)) + v3))) P
    · refine tr_icT (cd := .ge) (Int32.not_lt.mp h11) ?_
      refine tr_nil (rows2 := kb_251_103) rfl (List.cons_ne_nil _ _) ?_
      exact tr_reV (z := km_251) rfl rfl rfl
def f_251 (N : Nat) (P : ab_P) : Option ab_P :=
    Option.bind (f_306_64 58 N (-1 : Int32) P) fun P1 =>
    f_251_10 N N (0 : Int32) P1
theorem t_251 {xs : Nat × (Nat → Int32)} {d : Nat} (N : Nat) : ∀ (P : ab_P), ab_tr xs wV (d + 5) 251 0 [] [.inr (1, 0, 0, 54), ab_top, ab_top] [] P (f_251 N P) := by
  intro P
  unfold f_251
  refine tr_nil (rows2 := kb_251_0) rfl (List.cons_ne_nil _ _) ?_
  refine tr_blk 3 (pc' := 5) (rows' := kb_251_0.drop 3) (loc' := [.inr (1, 0, 0, 54), ab_top, ab_top]) (st' := [.inl (.int (-1 : Int32)), .inr (20, 64, 0, 58)]) (P1 := P) rfl ⟨trivial, trivial, trivial, trivial⟩ ?_
  refine tr_cWV (z := km_306) (av := [.inr (20, 64, 0, 58), .inl (.int (-1 : Int32))]) (st' := []) rfl rfl rfl (Nat.le_of_ble_eq_true rfl) trivial rfl (Nat.le_of_ble_eq_true rfl) (t_306_64 58 N (-1 : Int32) P) (fun P1 => ?_)
  refine tr_blk 2 (pc' := 10) (rows' := kb_251_0.drop 6) (loc' := [.inr (1, 0, 0, 54), .inl (.int (0 : Int32)), ab_top]) (st' := []) (P1 := P1) rfl ⟨trivial, trivial, trivial⟩ ?_
  exact t_251_10 N N (0 : Int32) (ab_top) P1
def f_253_2304_10 (i0 : Nat) : Nat → Int32 → Int32 → Int32 → ab_P → Option ab_P
  | 0, _, _, _, _ => none
  | n + 1, x2, x3, x4, P =>
    if x4 < x2 then
      if ab_gi x4 2304 then
      ab_lt (ab_pI P i0 x4.toNatClampNeg x3) fun P2 =>
      f_253_2304_10 i0 n x2 x3 (x4 + 1) P2
      else none
    else
    some P
theorem t_253_2304_10 {xs : Nat × (Nat → Int32)} {d : Nat} (i0 : Nat) : ∀ n : Nat, ∀ (x2 : Int32) (x3 : Int32) (x4 : Int32) (d1 : Int32) (P : ab_P), ab_tr xs wV (d + 1) 253 10 [] [.inr (20, 2304, 0, i0), .inl (.int d1), .inl (.int x2), .inl (.int x3), .inl (.int x4)] [] P (f_253_2304_10 i0 n x2 x3 x4 P) := by
  intro n
  induction n with
  | zero => intro x2 x3 x4 d1 P; exact tr_no
  | succ n ih =>
    intro x2 x3 x4 d1 P
    refine tr_nil (rows2 := kb_253_10) rfl (List.cons_ne_nil _ _) ?_
    refine tr_blk 2 (pc' := 13) (rows' := kb_253_10.drop 2) (loc' := [.inr (20, 2304, 0, i0), .inl (.int d1), .inl (.int x2), .inl (.int x3), .inl (.int x4)]) (st' := [.inl (.int x2), .inl (.int x4)]) (P1 := P) rfl ⟨trivial, trivial, trivial⟩ ?_
    refine tr_if (fun h3 => ?_) (fun h3 => ?_)
    · refine tr_icF (cd := .ge) (Int32.not_le.mpr h3) ?_
      refine tr_gd (fun h1 => ?_)
      refine tr_blk 4 (pc' := 21) (rows' := kb_253_10.drop 7) (loc' := [.inr (20, 2304, 0, i0), .inl (.int d1), .inl (.int x2), .inl (.int x3), .inl (.int x4)]) (st' := []) (P1 := (ab_pI P i0 x4.toNatClampNeg x3)) rfl ⟨trivial, trivial, trivial, h1, trivial⟩ ?_
      refine tr_lt (fun P2 => ?_)
      refine tr_blk 1 (pc' := 24) (rows' := kb_253_10.drop 8) (loc' := [.inr (20, 2304, 0, i0), .inl (.int d1), .inl (.int x2), .inl (.int x3), .inl (.int (x4 + 1))]) (st' := []) (P1 := P2) rfl ⟨trivial, trivial⟩ ?_
      refine tr_goto ?_
      exact ih x2 x3 (x4 + 1) (d1) P2
    · refine tr_icT (cd := .ge) (Int32.not_lt.mp h3) ?_
      refine tr_nil (rows2 := kb_253_27) rfl (List.cons_ne_nil _ _) ?_
      exact tr_reV (z := km_253) rfl rfl rfl
def f_253_2304 (i0 : Nat) (N : Nat) (a1 : Int32) (a2 : Int32) (a3 : Int32) (P : ab_P) : Option ab_P :=
    Option.bind (f_308 P (2304 : Int32) a1 a2) fun _ =>
    f_253_2304_10 i0 N a2 a3 a1 P
theorem t_253_2304 {xs : Nat × (Nat → Int32)} {d : Nat} (i0 : Nat) (N : Nat) : ∀ (a1 : Int32) (a2 : Int32) (a3 : Int32) (P : ab_P), ab_tr xs wV (d + 1) 253 0 [] [.inr (20, 2304, 0, i0), .inl (.int a1), .inl (.int a2), .inl (.int a3), ab_top] [] P (f_253_2304 i0 N a1 a2 a3 P) := by
  intro a1 a2 a3 P
  unfold f_253_2304
  refine tr_nil (rows2 := kb_253_0) rfl (List.cons_ne_nil _ _) ?_
  refine tr_blk 4 (pc' := 4) (rows' := kb_253_0.drop 4) (loc' := [.inr (20, 2304, 0, i0), .inl (.int a1), .inl (.int a2), .inl (.int a3), ab_top]) (st' := [.inl (.int a2), .inl (.int a1), .inl (.int (2304 : Int32))]) (P1 := P) rfl ⟨trivial, (Or.inl (by decide)), trivial, trivial, trivial⟩ ?_
  refine tr_cRV (z := km_308) (av := [.inl (.int (2304 : Int32)), .inl (.int a1), .inl (.int a2)]) (st' := []) rfl rfl rfl (Nat.le_of_ble_eq_true rfl) trivial rfl (Nat.le_of_ble_eq_true rfl) (t_308 P (2304 : Int32) a1 a2) (fun _ => ?_)
  refine tr_blk 2 (pc' := 10) (rows' := kb_253_0.drop 7) (loc' := [.inr (20, 2304, 0, i0), .inl (.int a1), .inl (.int a2), .inl (.int a3), .inl (.int a1)]) (st' := []) (P1 := P) rfl ⟨trivial, trivial, trivial⟩ ?_
  exact t_253_2304_10 i0 N a2 a3 a1 (a1) P
def f_306_8_5 (i0 : Nat) : Nat → Int32 → Int32 → Int32 → ab_P → Option ab_P
  | 0, _, _, _, _ => none
  | n + 1, x1, x2, x3, P =>
    if x2 < x3 then
      if ab_gi x2 8 then
      ab_lt (ab_pI P i0 x2.toNatClampNeg x1) fun P2 =>
      f_306_8_5 i0 n x1 (x2 + 1) x3 P2
      else none
    else
    some P
theorem t_306_8_5 {xs : Nat × (Nat → Int32)} {d : Nat} (i0 : Nat) : ∀ n : Nat, ∀ (x1 : Int32) (x2 : Int32) (x3 : Int32) (P : ab_P), ab_tr xs wV (d + 0) 306 5 [] [.inr (20, 8, 0, i0), .inl (.int x1), .inl (.int x2), .inl (.int x3)] [] P (f_306_8_5 i0 n x1 x2 x3 P) := by
  intro n
  induction n with
  | zero => intro x1 x2 x3 P; exact tr_no
  | succ n ih =>
    intro x1 x2 x3 P
    refine tr_nil (rows2 := kb_306_5) rfl (List.cons_ne_nil _ _) ?_
    refine tr_blk 2 (pc' := 7) (rows' := kb_306_5.drop 2) (loc' := [.inr (20, 8, 0, i0), .inl (.int x1), .inl (.int x2), .inl (.int x3)]) (st' := [.inl (.int x3), .inl (.int x2)]) (P1 := P) rfl ⟨trivial, trivial, trivial⟩ ?_
    refine tr_if (fun h3 => ?_) (fun h3 => ?_)
    · refine tr_icF (cd := .ge) (Int32.not_le.mpr h3) ?_
      refine tr_gd (fun h1 => ?_)
      refine tr_blk 4 (pc' := 14) (rows' := kb_306_5.drop 7) (loc' := [.inr (20, 8, 0, i0), .inl (.int x1), .inl (.int x2), .inl (.int x3)]) (st' := []) (P1 := (ab_pI P i0 x2.toNatClampNeg x1)) rfl ⟨trivial, trivial, trivial, h1, trivial⟩ ?_
      refine tr_lt (fun P2 => ?_)
      refine tr_blk 1 (pc' := 17) (rows' := kb_306_5.drop 8) (loc' := [.inr (20, 8, 0, i0), .inl (.int x1), .inl (.int (x2 + 1)), .inl (.int x3)]) (st' := []) (P1 := P2) rfl ⟨trivial, trivial⟩ ?_
      refine tr_goto ?_
      exact ih x1 (x2 + 1) x3 P2
    · refine tr_icT (cd := .ge) (Int32.not_lt.mp h3) ?_
      refine tr_nil (rows2 := kb_306_20) rfl (List.cons_ne_nil _ _) ?_
      exact tr_reV (z := km_306) rfl rfl rfl
def f_306_8 (i0 : Nat) (N : Nat) (a1 : Int32) (P : ab_P) : Option ab_P :=
    f_306_8_5 i0 N a1 (0 : Int32) (8 : Int32) P
theorem t_306_8 {xs : Nat × (Nat → Int32)} {d : Nat} (i0 : Nat) (N : Nat) : ∀ (a1 : Int32) (P : ab_P), ab_tr xs wV (d + 0) 306 0 [] [.inr (20, 8, 0, i0), .inl (.int a1), ab_top, ab_top] [] P (f_306_8 i0 N a1 P) := by
  intro a1 P
  unfold f_306_8
  refine tr_nil (rows2 := kb_306_0) rfl (List.cons_ne_nil _ _) ?_
  refine tr_blk 5 (pc' := 5) (rows' := kb_306_0.drop 5) (loc' := [.inr (20, 8, 0, i0), .inl (.int a1), .inl (.int (0 : Int32)), .inl (.int (8 : Int32))]) (st' := []) (P1 := P) rfl ⟨trivial, trivial, trivial, (Or.inl (by decide)), trivial, trivial⟩ ?_
  exact t_306_8_5 i0 N a1 (0 : Int32) (8 : Int32) P
def f_309 (P : ab_P) (a1 : Int32) (a2 : Int32) (a3 : Int32) : Option Int32 :=
    if ab_gi ((a1 * (8 : Int32)) + a2) 64 then
    Option.bind (f_307 P (P.1 58 (((a1 * (8 : Int32)) + a2)).toNatClampNeg)) fun v2 =>
    if ab_gi (((a1 + (1 : Int32)) * (256 : Int32)) + (a3 ||| ((1 : Int32) <<< (a2 &&& 31)))) 2304 then
    some (v2 + (P.1 60 ((((a1 + (1 : Int32)) * (256 : Int32)) + (a3 ||| ((1 : Int32) <<< (a2 &&& 31))))).toNatClampNeg))
    else none
    else none
theorem t_309 {xs : Nat × (Nat → Int32)} {d : Nat} (P : ab_P) : ∀ (a1 : Int32) (a2 : Int32) (a3 : Int32), ab_tr xs (rI P) (d + 2) 309 0 [] [.inr (1, 0, 0, 54), .inl (.int a1), .inl (.int a2), .inl (.int a3)] [] P (f_309 P a1 a2 a3) := by
  intro a1 a2 a3
  unfold f_309
  refine tr_nil (rows2 := kb_309_0) rfl (List.cons_ne_nil _ _) ?_
  refine tr_gd (fun h1 => ?_)
  refine tr_blk 9 (pc' := 12) (rows' := kb_309_0.drop 9) (loc' := [.inr (1, 0, 0, 54), .inl (.int a1), .inl (.int a2), .inl (.int a3)]) (st' := [.inl (.int (P.1 58 (((a1 * (8 : Int32)) + a2)).toNatClampNeg)), .inr (1, 0, 0, 54)]) (P1 := P) rfl ⟨trivial, trivial, trivial, trivial, trivial, trivial, trivial, trivial, h1, trivial⟩ ?_
  refine tr_cRI (z := km_307) (av := [.inr (1, 0, 0, 54), .inl (.int (P.1 58 (((a1 * (8 : Int32)) + a2)).toNatClampNeg))]) (st' := []) rfl rfl rfl (Nat.le_of_ble_eq_true rfl) ⟨rfl, Or.inl (by decide)⟩ rfl (Nat.le_of_ble_eq_true rfl) (t_307 P (P.1 58 (((a1 * (8 : Int32)) + a2)).toNatClampNeg)) (fun v2 => ?_)
  refine tr_gd (fun h3 => ?_)
  refine tr_blk 15 (pc' := 34) (rows' := kb_309_0.drop 25) (loc' := [.inr (1, 0, 0, 54), .inl (.int a1), .inl (.int a2), .inl (.int a3)]) (st' := [.inl (.int (v2 + (P.1 60 ((((a1 + (1 : Int32)) * (256 : Int32)) + (a3 ||| ((1 : Int32) <<< (a2 &&& 31))))).toNatClampNeg)))]) (P1 := P) rfl ⟨trivial, trivial, trivial, trivial, trivial, trivial, trivial, trivial, trivial, trivial, trivial, trivial, trivial, h3, trivial, trivial⟩ ?_
  exact tr_reI (z := km_309) rfl ⟨_, rfl, rfl⟩ rfl
def f_310_36 (P : ab_P) : Nat → Int32 → Int32 → Int32 → Int32 → Option Int32
  | 0, _, _, _, _ => none
  | n + 1, x1, x2, x3, x4 =>
    if x4 < (8 : Int32) then
      if ab_gi ((x1 * (8 : Int32)) + x4) 64 then
      if (P.1 58 (((x1 * (8 : Int32)) + x4)).toNatClampNeg) = (-1 : Int32) then
        f_310_36 P n x1 x2 x3 (x4 + 1)
      else
      if ((x2 >>> (x4 &&& 31)) &&& (1 : Int32)) = (0 : Int32) then
        Option.bind (f_309 P x1 x4 x2) fun v4 =>
        if v4 = x3 then
          some x4
        else
        f_310_36 P n x1 x2 x3 (x4 + 1)
      else
      f_310_36 P n x1 x2 x3 (x4 + 1)
      else none
    else
    some (-1 : Int32)
theorem t_310_36 {xs : Nat × (Nat → Int32)} {d : Nat} (P : ab_P) : ∀ n : Nat, ∀ (x1 : Int32) (x2 : Int32) (x3 : Int32) (x4 : Int32) (d5 : ab_V), ab_tr xs (rI P) (d + 3) 310 36 [] [.inr (1, 0, 0, 54), .inl (.int x1), .inl (.int x2), .inl (.int x3), .inl (.int x4), d5] [] P (f_310_36 P n x1 x2 x3 x4) := by
  intro n
  induction n with
  | zero => intro x1 x2 x3 x4 d5; exact tr_no
  | succ n ih =>
    intro x1 x2 x3 x4 d5
    refine tr_nil (rows2 := kb_310_36) rfl (List.cons_ne_nil _ _) ?_
    refine tr_blk 2 (pc' := 40) (rows' := kb_310_36.drop 2) (loc' := [.inr (1, 0, 0, 54), .inl (.int x1), .inl (.int x2), .inl (.int x3), .inl (.int x4), d5]) (st' := [.inl (.int (8 : Int32)), .inl (.int x4)]) (P1 := P) rfl ⟨trivial, trivial, trivial⟩ ?_
    refine tr_if (fun h5 => ?_) (fun h5 => ?_)
    · refine tr_icF (cd := .ge) (Int32.not_le.mpr h5) ?_
      refine tr_gd (fun h3 => ?_)
      refine tr_blk 9 (pc' := 56) (rows' := kb_310_36.drop 12) (loc' := [.inr (1, 0, 0, 54), .inl (.int x1), .inl (.int x2), .inl (.int x3), .inl (.int x4), d5]) (st' := [.inl (.int (-1 : Int32)), .inl (.int (P.1 58 (((x1 * (8 : Int32)) + x4)).toNatClampNeg))]) (P1 := P) rfl ⟨trivial, trivial, trivial, trivial, trivial, trivial, trivial, h3, trivial, trivial⟩ ?_
      refine tr_if (fun h6 => ?_) (fun h6 => ?_)
      · refine tr_icT (cd := .eq) h6 ?_
        refine tr_nil (rows2 := kb_310_72) rfl (List.cons_ne_nil _ _) ?_
        refine tr_blk 1 (pc' := 73) (rows' := kb_310_72.drop 1) (loc' := [.inr (1, 0, 0, 54), .inl (.int x1), .inl (.int x2), .inl (.int x3), .inl (.int x4), d5]) (st' := [.inl (.int (0 : Int32))]) (P1 := P) rfl ⟨trivial, trivial⟩ ?_
        refine tr_nil (rows2 := kb_310_73) rfl (List.cons_ne_nil _ _) ?_
        refine tr_blk 2 (pc' := 77) (rows' := kb_310_73.drop 2) (loc' := [.inr (1, 0, 0, 54), .inl (.int x1), .inl (.int x2), .inl (.int x3), .inl (.int x4), .inl (.int (0 : Int32))]) (st' := [.inl (.int (0 : Int32))]) (P1 := P) rfl ⟨trivial, trivial, trivial⟩ ?_
        refine tr_ifT (cd := .eq) (ab_cdT (by decide)) ?_
        refine tr_nil (rows2 := kb_310_95) rfl (List.cons_ne_nil _ _) ?_
        refine tr_blk 1 (pc' := 98) (rows' := kb_310_95.drop 1) (loc' := [.inr (1, 0, 0, 54), .inl (.int x1), .inl (.int x2), .inl (.int x3), .inl (.int (x4 + 1)), .inl (.int (0 : Int32))]) (st' := []) (P1 := P) rfl ⟨trivial, trivial⟩ ?_
        refine tr_goto ?_
        exact ih x1 x2 x3 (x4 + 1) (.inl (.int (0 : Int32)))
      · refine tr_icF (cd := .eq) h6 ?_
        refine tr_blk 5 (pc' := 65) (rows' := kb_310_36.drop 18) (loc' := [.inr (1, 0, 0, 54), .inl (.int x1), .inl (.int x2), .inl (.int x3), .inl (.int x4), d5]) (st' := [.inl (.int ((x2 >>> (x4 &&& 31)) &&& (1 : Int32)))]) (P1 := P) rfl ⟨trivial, trivial, trivial, trivial, trivial, trivial⟩ ?_
        refine tr_if (fun h7 => ?_) (fun h7 => ?_)
        · refine tr_ifF (cd := .ne) (fun q => q h7) ?_
          refine tr_blk 1 (pc' := 69) (rows' := kb_310_36.drop 20) (loc' := [.inr (1, 0, 0, 54), .inl (.int x1), .inl (.int x2), .inl (.int x3), .inl (.int x4), d5]) (st' := [.inl (.int (1 : Int32))]) (P1 := P) rfl ⟨trivial, trivial⟩ ?_
          refine tr_goto ?_
          refine tr_nil (rows2 := kb_310_73) rfl (List.cons_ne_nil _ _) ?_
          refine tr_blk 2 (pc' := 77) (rows' := kb_310_73.drop 2) (loc' := [.inr (1, 0, 0, 54), .inl (.int x1), .inl (.int x2), .inl (.int x3), .inl (.int x4), .inl (.int (1 : Int32))]) (st' := [.inl (.int (1 : Int32))]) (P1 := P) rfl ⟨trivial, trivial, trivial⟩ ?_
          refine tr_ifF (cd := .eq) (ab_cdF (by decide)) ?_
          refine tr_blk 4 (pc' := 85) (rows' := kb_310_73.drop 7) (loc' := [.inr (1, 0, 0, 54), .inl (.int x1), .inl (.int x2), .inl (.int x3), .inl (.int x4), .inl (.int (1 : Int32))]) (st' := [.inl (.int x2), .inl (.int x4), .inl (.int x1), .inr (1, 0, 0, 54)]) (P1 := P) rfl ⟨trivial, trivial, trivial, trivial, trivial⟩ ?_
          refine tr_cRI (z := km_309) (av := [.inr (1, 0, 0, 54), .inl (.int x1), .inl (.int x4), .inl (.int x2)]) (st' := []) rfl rfl rfl (Nat.le_of_ble_eq_true rfl) ⟨rfl, Or.inl (by decide)⟩ rfl (Nat.le_of_ble_eq_true rfl) (t_309 P x1 x4 x2) (fun v4 => ?_)
          refine tr_blk 1 (pc' := 89) (rows' := kb_310_73.drop 9) (loc' := [.inr (1, 0, 0, 54), .inl (.int x1), .inl (.int x2), .inl (.int x3), .inl (.int x4), .inl (.int (1 : Int32))]) (st' := [.inl (.int x3), .inl (.int v4)]) (P1 := P) rfl ⟨trivial, trivial⟩ ?_
          refine tr_if (fun h8 => ?_) (fun h8 => ?_)
          · refine tr_icF (cd := .ne) (fun q => q h8) ?_
            refine tr_blk 1 (pc' := 94) (rows' := kb_310_73.drop 11) (loc' := [.inr (1, 0, 0, 54), .inl (.int x1), .inl (.int x2), .inl (.int x3), .inl (.int x4), .inl (.int (1 : Int32))]) (st' := [.inl (.int x4)]) (P1 := P) rfl ⟨trivial, trivial⟩ ?_
            exact tr_reI (z := km_310) rfl ⟨_, rfl, rfl⟩ rfl
          · refine tr_icT (cd := .ne) h8 ?_
            refine tr_nil (rows2 := kb_310_95) rfl (List.cons_ne_nil _ _) ?_
            refine tr_blk 1 (pc' := 98) (rows' := kb_310_95.drop 1) (loc' := [.inr (1, 0, 0, 54), .inl (.int x1), .inl (.int x2), .inl (.int x3), .inl (.int (x4 + 1)), .inl (.int (1 : Int32))]) (st' := []) (P1 := P) rfl ⟨trivial, trivial⟩ ?_
            refine tr_goto ?_
            exact ih x1 x2 x3 (x4 + 1) (.inl (.int (1 : Int32)))
        · refine tr_ifT (cd := .ne) h7 ?_
          refine tr_nil (rows2 := kb_310_72) rfl (List.cons_ne_nil _ _) ?_
          refine tr_blk 1 (pc' := 73) (rows' := kb_310_72.drop 1) (loc' := [.inr (1, 0, 0, 54), .inl (.int x1), .inl (.int x2), .inl (.int x3), .inl (.int x4), d5]) (st' := [.inl (.int (0 : Int32))]) (P1 := P) rfl ⟨trivial, trivial⟩ ?_
          refine tr_nil (rows2 := kb_310_73) rfl (List.cons_ne_nil _ _) ?_
          refine tr_blk 2 (pc' := 77) (rows' := kb_310_73.drop 2) (loc' := [.inr (1, 0, 0, 54), .inl (.int x1), .inl (.int x2), .inl (.int x3), .inl (.int x4), .inl (.int (0 : Int32))]) (st' := [.inl (.int (0 : Int32))]) (P1 := P) rfl ⟨trivial, trivial, trivial⟩ ?_
          refine tr_ifT (cd := .eq) (ab_cdT (by decide)) ?_
          refine tr_nil (rows2 := kb_310_95) rfl (List.cons_ne_nil _ _) ?_
          refine tr_blk 1 (pc' := 98) (rows' := kb_310_95.drop 1) (loc' := [.inr (1, 0, 0, 54), .inl (.int x1), .inl (.int x2), .inl (.int x3), .inl (.int (x4 + 1)), .inl (.int (0 : Int32))]) (st' := []) (P1 := P) rfl ⟨trivial, trivial⟩ ?_
          refine tr_goto ?_
          exact ih x1 x2 x3 (x4 + 1) (.inl (.int (0 : Int32)))
    · refine tr_icT (cd := .ge) (Int32.not_lt.mp h5) ?_
      refine tr_nil (rows2 := kb_310_101) rfl (List.cons_ne_nil _ _) ?_
      refine tr_blk 1 (pc' := 102) (rows' := kb_310_101.drop 1) (loc' := [.inr (1, 0, 0, 54), .inl (.int x1), .inl (.int x2), .inl (.int x3), .inl (.int x4), d5]) (st' := [.inl (.int (-1 : Int32))]) (P1 := P) rfl ⟨trivial, trivial⟩ ?_
      exact tr_reI (z := km_310) rfl ⟨_, rfl, rfl⟩ rfl
def f_310 (N : Nat) (P : ab_P) (a1 : Int32) (a2 : Int32) : Option Int32 :=
    if ab_gi ((a1 * (256 : Int32)) + a2) 2304 then
    if ab_gi (((a1 + (1 : Int32)) * (256 : Int32)) + a2) 2304 then
    if (P.1 60 ((((a1 + (1 : Int32)) * (256 : Int32)) + a2)).toNatClampNeg) = (P.1 60 (((a1 * (256 : Int32)) + a2)).toNatClampNeg) then
      some (-1 : Int32)
    else
    f_310_36 P N a1 a2 (P.1 60 (((a1 * (256 : Int32)) + a2)).toNatClampNeg) (0 : Int32)
    else none
    else none
theorem t_310 {xs : Nat × (Nat → Int32)} {d : Nat} (N : Nat) (P : ab_P) : ∀ (a1 : Int32) (a2 : Int32), ab_tr xs (rI P) (d + 3) 310 0 [] [.inr (1, 0, 0, 54), .inl (.int a1), .inl (.int a2), ab_top, ab_top, ab_top] [] P (f_310 N P a1 a2) := by
  intro a1 a2
  unfold f_310
  refine tr_nil (rows2 := kb_310_0) rfl (List.cons_ne_nil _ _) ?_
  refine tr_gd (fun h1 => ?_)
  refine tr_gd (fun h2 => ?_)
  refine tr_blk 20 (pc' := 28) (rows' := kb_310_0.drop 20) (loc' := [.inr (1, 0, 0, 54), .inl (.int a1), .inl (.int a2), .inl (.int (P.1 60 (((a1 * (256 : Int32)) + a2)).toNatClampNeg)), ab_top, ab_top]) (st' := [.inl (.int (P.1 60 (((a1 * (256 : Int32)) + a2)).toNatClampNeg)), .inl (.int (P.1 60 ((((a1 + (1 : Int32)) * (256 : Int32)) + a2)).toNatClampNeg))]) (P1 := P) rfl ⟨trivial, trivial, trivial, trivial, trivial, trivial, trivial, h1, trivial, trivial, trivial, trivial, trivial, trivial, trivial, trivial, trivial, trivial, h2, trivial, trivial⟩ ?_
  refine tr_if (fun h9 => ?_) (fun h9 => ?_)
  · refine tr_icF (cd := .ne) (fun q => q h9) ?_
    refine tr_blk 1 (pc' := 32) (rows' := kb_310_0.drop 22) (loc' := [.inr (1, 0, 0, 54), .inl (.int a1), .inl (.int a2), .inl (.int (P.1 60 (((a1 * (256 : Int32)) + a2)).toNatClampNeg)), ab_top, ab_top]) (st' := [.inl (.int (-1 : Int32))]) (P1 := P) rfl ⟨trivial, trivial⟩ ?_
    exact tr_reI (z := km_310) rfl ⟨_, rfl, rfl⟩ rfl
  · refine tr_icT (cd := .ne) h9 ?_
    refine tr_nil (rows2 := kb_310_33) rfl (List.cons_ne_nil _ _) ?_
    refine tr_blk 2 (pc' := 36) (rows' := kb_310_33.drop 2) (loc' := [.inr (1, 0, 0, 54), .inl (.int a1), .inl (.int a2), .inl (.int (P.1 60 (((a1 * (256 : Int32)) + a2)).toNatClampNeg)), .inl (.int (0 : Int32)), ab_top]) (st' := []) (P1 := P) rfl ⟨trivial, trivial, trivial⟩ ?_
    exact t_310_36 P N a1 a2 (P.1 60 (((a1 * (256 : Int32)) + a2)).toNatClampNeg) (0 : Int32) (ab_top)
def f_255_12 (N : Nat) : Nat → Int32 → Int32 → Int32 → ab_P → Option ab_P
  | 0, _, _, _, _ => none
  | n + 1, x1, x2, x3, P =>
    if x3 < x1 then
      Option.bind (f_310 N P x3 x2) fun v2 =>
      if v2 = (-1 : Int32) then
        f_255_12 N n x1 x2 (x3 + 1) P
      else
      if ab_gi ((x3 * (8 : Int32)) + v2) 64 then
      if ab_gi x3 8 then
      ab_lt (ab_pI P 59 x3.toNatClampNeg (P.1 58 (((x3 * (8 : Int32)) + v2)).toNatClampNeg)) fun P5 =>
      f_255_12 N n x1 (x2 ||| ((1 : Int32) <<< (v2 &&& 31))) (x3 + 1) P5
      else none
      else none
    else
    some P
theorem t_255_12 {xs : Nat × (Nat → Int32)} {d : Nat} (N : Nat) : ∀ n : Nat, ∀ (x1 : Int32) (x2 : Int32) (x3 : Int32) (d4 : ab_V) (P : ab_P), ab_tr xs wV (d + 4) 255 12 [] [.inr (1, 0, 0, 54), .inl (.int x1), .inl (.int x2), .inl (.int x3), d4] [] P (f_255_12 N n x1 x2 x3 P) := by
  intro n
  induction n with
  | zero => intro x1 x2 x3 d4 P; exact tr_no
  | succ n ih =>
    intro x1 x2 x3 d4 P
    refine tr_nil (rows2 := kb_255_12) rfl (List.cons_ne_nil _ _) ?_
    refine tr_blk 2 (pc' := 14) (rows' := kb_255_12.drop 2) (loc' := [.inr (1, 0, 0, 54), .inl (.int x1), .inl (.int x2), .inl (.int x3), d4]) (st' := [.inl (.int x1), .inl (.int x3)]) (P1 := P) rfl ⟨trivial, trivial, trivial⟩ ?_
    refine tr_if (fun h6 => ?_) (fun h6 => ?_)
    · refine tr_icF (cd := .ge) (Int32.not_le.mpr h6) ?_
      refine tr_blk 3 (pc' := 20) (rows' := kb_255_12.drop 6) (loc' := [.inr (1, 0, 0, 54), .inl (.int x1), .inl (.int x2), .inl (.int x3), d4]) (st' := [.inl (.int x2), .inl (.int x3), .inr (1, 0, 0, 54)]) (P1 := P) rfl ⟨trivial, trivial, trivial, trivial⟩ ?_
      refine tr_cRI (z := km_310) (av := [.inr (1, 0, 0, 54), .inl (.int x3), .inl (.int x2)]) (st' := []) rfl rfl rfl (Nat.le_of_ble_eq_true rfl) ⟨rfl, Or.inl (by decide)⟩ rfl (Nat.le_of_ble_eq_true rfl) (t_310 N P x3 x2) (fun v2 => ?_)
      refine tr_blk 3 (pc' := 28) (rows' := kb_255_12.drop 10) (loc' := [.inr (1, 0, 0, 54), .inl (.int x1), .inl (.int x2), .inl (.int x3), .inl (.int v2)]) (st' := [.inl (.int (-1 : Int32)), .inl (.int v2)]) (P1 := P) rfl ⟨trivial, trivial, trivial, trivial⟩ ?_
      refine tr_if (fun h7 => ?_) (fun h7 => ?_)
      · refine tr_icT (cd := .eq) h7 ?_
        refine tr_nil (rows2 := kb_255_56) rfl (List.cons_ne_nil _ _) ?_
        refine tr_blk 1 (pc' := 59) (rows' := kb_255_56.drop 1) (loc' := [.inr (1, 0, 0, 54), .inl (.int x1), .inl (.int x2), .inl (.int (x3 + 1)), .inl (.int v2)]) (st' := []) (P1 := P) rfl ⟨trivial, trivial⟩ ?_
        refine tr_goto ?_
        exact ih x1 x2 (x3 + 1) (.inl (.int v2)) P
      · refine tr_icF (cd := .eq) h7 ?_
        refine tr_gd (fun h3 => ?_)
        refine tr_gd (fun h4 => ?_)
        refine tr_blk 12 (pc' := 49) (rows' := kb_255_12.drop 23) (loc' := [.inr (1, 0, 0, 54), .inl (.int x1), .inl (.int x2), .inl (.int x3), .inl (.int v2)]) (st' := []) (P1 := (ab_pI P 59 x3.toNatClampNeg (P.1 58 (((x3 * (8 : Int32)) + v2)).toNatClampNeg))) rfl ⟨trivial, trivial, trivial, trivial, trivial, trivial, trivial, trivial, trivial, trivial, h3, h4, trivial⟩ ?_
        refine tr_lt (fun P5 => ?_)
        refine tr_blk 6 (pc' := 56) (rows' := kb_255_12.drop 29) (loc' := [.inr (1, 0, 0, 54), .inl (.int x1), .inl (.int (x2 ||| ((1 : Int32) <<< (v2 &&& 31)))), .inl (.int x3), .inl (.int v2)]) (st' := []) (P1 := P5) rfl ⟨trivial, trivial, trivial, trivial, trivial, trivial, trivial⟩ ?_
        refine tr_nil (rows2 := kb_255_56) rfl (List.cons_ne_nil _ _) ?_
        refine tr_blk 1 (pc' := 59) (rows' := kb_255_56.drop 1) (loc' := [.inr (1, 0, 0, 54), .inl (.int x1), .inl (.int (x2 ||| ((1 : Int32) <<< (v2 &&& 31)))), .inl (.int (x3 + 1)), .inl (.int v2)]) (st' := []) (P1 := P5) rfl ⟨trivial, trivial⟩ ?_
        refine tr_goto ?_
        exact ih x1 (x2 ||| ((1 : Int32) <<< (v2 &&& 31))) (x3 + 1) (.inl (.int v2)) P5
    · refine tr_icT (cd := .ge) (Int32.not_lt.mp h6) ?_
      refine tr_nil (rows2 := kb_255_62) rfl (List.cons_ne_nil _ _) ?_
      exact tr_reV (z := km_255) rfl rfl rfl
def f_255 (N : Nat) (a1 : Int32) (P : ab_P) : Option ab_P :=
    Option.bind (f_306_8 59 N (-1 : Int32) P) fun P1 =>
    f_255_12 N N a1 (0 : Int32) (0 : Int32) P1
theorem t_255 {xs : Nat × (Nat → Int32)} {d : Nat} (N : Nat) : ∀ (a1 : Int32) (P : ab_P), ab_tr xs wV (d + 4) 255 0 [] [.inr (1, 0, 0, 54), .inl (.int a1), ab_top, ab_top, ab_top] [] P (f_255 N a1 P) := by
  intro a1 P
  unfold f_255
  refine tr_nil (rows2 := kb_255_0) rfl (List.cons_ne_nil _ _) ?_
  refine tr_blk 3 (pc' := 5) (rows' := kb_255_0.drop 3) (loc' := [.inr (1, 0, 0, 54), .inl (.int a1), ab_top, ab_top, ab_top]) (st' := [.inl (.int (-1 : Int32)), .inr (20, 8, 0, 59)]) (P1 := P) rfl ⟨trivial, trivial, trivial, trivial⟩ ?_
  refine tr_cWV (z := km_306) (av := [.inr (20, 8, 0, 59), .inl (.int (-1 : Int32))]) (st' := []) rfl rfl rfl (Nat.le_of_ble_eq_true rfl) trivial rfl (Nat.le_of_ble_eq_true rfl) (t_306_8 59 N (-1 : Int32) P) (fun P1 => ?_)
  refine tr_blk 4 (pc' := 12) (rows' := kb_255_0.drop 8) (loc' := [.inr (1, 0, 0, 54), .inl (.int a1), .inl (.int (0 : Int32)), .inl (.int (0 : Int32)), ab_top]) (st' := []) (P1 := P1) rfl ⟨trivial, trivial, trivial, trivial, trivial⟩ ?_
  exact t_255_12 N N a1 (0 : Int32) (0 : Int32) (ab_top) P1
def f_254_18 (P : ab_P) : Nat → Int32 → Int32 → Int32 → Int32 → Option Int32
  | 0, _, _, _, _ => none
  | n + 1, x1, x2, x3, x4 =>
    if x4 < (8 : Int32) then
      if ab_gi ((x1 * (8 : Int32)) + x4) 64 then
      if (P.1 58 (((x1 * (8 : Int32)) + x4)).toNatClampNeg) = (-1 : Int32) then
        f_254_18 P n x1 x2 x3 (x4 + 1)
      else
      if ((x2 >>> (x4 &&& 31)) &&& (1 : Int32)) = (0 : Int32) then
        Option.bind (f_309 P x1 x4 x2) fun v3 =>
        f_254_18 P n x1 x2 (ab_mx x3 v3) (x4 + 1)
      else
      f_254_18 P n x1 x2 x3 (x4 + 1)
      else none
    else
    some x3
theorem t_254_18 {xs : Nat × (Nat → Int32)} {d : Nat} (P : ab_P) : ∀ n : Nat, ∀ (x1 : Int32) (x2 : Int32) (x3 : Int32) (x4 : Int32), ab_tr xs (rI P) (d + 3) 254 18 [] [.inr (1, 0, 0, 54), .inl (.int x1), .inl (.int x2), .inl (.int x3), .inl (.int x4)] [] P (f_254_18 P n x1 x2 x3 x4) := by
  intro n
  induction n with
  | zero => intro x1 x2 x3 x4; exact tr_no
  | succ n ih =>
    intro x1 x2 x3 x4
    refine tr_nil (rows2 := kb_254_18) rfl (List.cons_ne_nil _ _) ?_
    refine tr_blk 2 (pc' := 22) (rows' := kb_254_18.drop 2) (loc' := [.inr (1, 0, 0, 54), .inl (.int x1), .inl (.int x2), .inl (.int x3), .inl (.int x4)]) (st' := [.inl (.int (8 : Int32)), .inl (.int x4)]) (P1 := P) rfl ⟨trivial, trivial, trivial⟩ ?_
    refine tr_if (fun h4 => ?_) (fun h4 => ?_)
    · refine tr_icF (cd := .ge) (Int32.not_le.mpr h4) ?_
      refine tr_gd (fun h2 => ?_)
      refine tr_blk 9 (pc' := 38) (rows' := kb_254_18.drop 12) (loc' := [.inr (1, 0, 0, 54), .inl (.int x1), .inl (.int x2), .inl (.int x3), .inl (.int x4)]) (st' := [.inl (.int (-1 : Int32)), .inl (.int (P.1 58 (((x1 * (8 : Int32)) + x4)).toNatClampNeg))]) (P1 := P) rfl ⟨trivial, trivial, trivial, trivial, trivial, trivial, trivial, h2, trivial, trivial⟩ ?_
      refine tr_if (fun h5 => ?_) (fun h5 => ?_)
      · refine tr_icT (cd := .eq) h5 ?_
        refine tr_nil (rows2 := kb_254_63) rfl (List.cons_ne_nil _ _) ?_
        refine tr_blk 1 (pc' := 66) (rows' := kb_254_63.drop 1) (loc' := [.inr (1, 0, 0, 54), .inl (.int x1), .inl (.int x2), .inl (.int x3), .inl (.int (x4 + 1))]) (st' := []) (P1 := P) rfl ⟨trivial, trivial⟩ ?_
        refine tr_goto ?_
        exact ih x1 x2 x3 (x4 + 1)
      · refine tr_icF (cd := .eq) h5 ?_
        refine tr_blk 5 (pc' := 47) (rows' := kb_254_18.drop 18) (loc' := [.inr (1, 0, 0, 54), .inl (.int x1), .inl (.int x2), .inl (.int x3), .inl (.int x4)]) (st' := [.inl (.int ((x2 >>> (x4 &&& 31)) &&& (1 : Int32)))]) (P1 := P) rfl ⟨trivial, trivial, trivial, trivial, trivial, trivial⟩ ?_
        refine tr_if (fun h6 => ?_) (fun h6 => ?_)
        · refine tr_ifF (cd := .ne) (fun q => q h6) ?_
          refine tr_blk 5 (pc' := 56) (rows' := kb_254_18.drop 24) (loc' := [.inr (1, 0, 0, 54), .inl (.int x1), .inl (.int x2), .inl (.int x3), .inl (.int x4)]) (st' := [.inl (.int x2), .inl (.int x4), .inl (.int x1), .inr (1, 0, 0, 54), .inl (.int x3)]) (P1 := P) rfl ⟨trivial, trivial, trivial, trivial, trivial, trivial⟩ ?_
          refine tr_cRI (z := km_309) (av := [.inr (1, 0, 0, 54), .inl (.int x1), .inl (.int x4), .inl (.int x2)]) (st' := [.inl (.int x3)]) rfl rfl rfl (Nat.le_of_ble_eq_true rfl) ⟨rfl, Or.inl (by decide)⟩ rfl (Nat.le_of_ble_eq_true rfl) (t_309 P x1 x4 x2) (fun v3 => ?_)
          refine tr_blk 2 (pc' := 63) (rows' := kb_254_18.drop 27) (loc' := [.inr (1, 0, 0, 54), .inl (.int x1), .inl (.int x2), .inl (.int (ab_mx x3 v3)), .inl (.int x4)]) (st' := []) (P1 := P) rfl ⟨(Nat.le_of_ble_eq_true rfl), trivial, trivial⟩ ?_
          refine tr_nil (rows2 := kb_254_63) rfl (List.cons_ne_nil _ _) ?_
          refine tr_blk 1 (pc' := 66) (rows' := kb_254_63.drop 1) (loc' := [.inr (1, 0, 0, 54), .inl (.int x1), .inl (.int x2), .inl (.int (ab_mx x3 v3)), .inl (.int (x4 + 1))]) (st' := []) (P1 := P) rfl ⟨trivial, trivial⟩ ?_
          refine tr_goto ?_
          exact ih x1 x2 (ab_mx x3 v3) (x4 + 1)
        · refine tr_ifT (cd := .ne) h6 ?_
          refine tr_nil (rows2 := kb_254_63) rfl (List.cons_ne_nil _ _) ?_
          refine tr_blk 1 (pc' := 66) (rows' := kb_254_63.drop 1) (loc' := [.inr (1, 0, 0, 54), .inl (.int x1), .inl (.int x2), .inl (.int x3), .inl (.int (x4 + 1))]) (st' := []) (P1 := P) rfl ⟨trivial, trivial⟩ ?_
          refine tr_goto ?_
          exact ih x1 x2 x3 (x4 + 1)
    · refine tr_icT (cd := .ge) (Int32.not_lt.mp h4) ?_
      refine tr_nil (rows2 := kb_254_69) rfl (List.cons_ne_nil _ _) ?_
      refine tr_blk 1 (pc' := 70) (rows' := kb_254_69.drop 1) (loc' := [.inr (1, 0, 0, 54), .inl (.int x1), .inl (.int x2), .inl (.int x3), .inl (.int x4)]) (st' := [.inl (.int x3)]) (P1 := P) rfl ⟨trivial, trivial⟩ ?_
      exact tr_reI (z := km_254) rfl ⟨_, rfl, rfl⟩ rfl
def f_254 (N : Nat) (P : ab_P) (a1 : Int32) (a2 : Int32) : Option Int32 :=
    if ab_gi (((a1 + (1 : Int32)) * (256 : Int32)) + a2) 2304 then
    f_254_18 P N a1 a2 (P.1 60 ((((a1 + (1 : Int32)) * (256 : Int32)) + a2)).toNatClampNeg) (0 : Int32)
    else none
theorem t_254 {xs : Nat × (Nat → Int32)} {d : Nat} (N : Nat) (P : ab_P) : ∀ (a1 : Int32) (a2 : Int32), ab_tr xs (rI P) (d + 3) 254 0 [] [.inr (1, 0, 0, 54), .inl (.int a1), .inl (.int a2), ab_top, ab_top] [] P (f_254 N P a1 a2) := by
  intro a1 a2
  unfold f_254
  refine tr_nil (rows2 := kb_254_0) rfl (List.cons_ne_nil _ _) ?_
  refine tr_gd (fun h1 => ?_)
  refine tr_blk 13 (pc' := 18) (rows' := kb_254_0.drop 13) (loc' := [.inr (1, 0, 0, 54), .inl (.int a1), .inl (.int a2), .inl (.int (P.1 60 ((((a1 + (1 : Int32)) * (256 : Int32)) + a2)).toNatClampNeg)), .inl (.int (0 : Int32))]) (st' := []) (P1 := P) rfl ⟨trivial, trivial, trivial, trivial, trivial, trivial, trivial, trivial, trivial, h1, trivial, trivial, trivial, trivial⟩ ?_
  exact t_254_18 P N a1 a2 (P.1 60 ((((a1 + (1 : Int32)) * (256 : Int32)) + a2)).toNatClampNeg) (0 : Int32)
def f_161_47 (N : Nat) (H41 : Int32 → Int32 → ab_P → Option ab_P) : Nat → Int32 → Int32 → Int32 → ab_P → Option ab_P
  | 0, _, _, _, _ => none
  | n + 1, x1, x2, x3, P =>
    if x3 < ((1 : Int32) <<< (x1 &&& 31)) then
      Option.bind (f_254 N P x2 x3) fun v4 =>
      if ab_gi ((x2 * (256 : Int32)) + x3) 2304 then
      ab_lt (ab_pI P 60 (((x2 * (256 : Int32)) + x3)).toNatClampNeg v4) fun P6 =>
      f_161_47 N H41 n x1 x2 (x3 + 1) P6
      else none
    else
    H41 x1 (x2 + (-1)) P
theorem t_161_47 {xs : Nat × (Nat → Int32)} {d : Nat} (N : Nat) (H41 : Int32 → Int32 → ab_P → Option ab_P) (hH41 : ∀ (x1 : Int32) (x2 : Int32) (d3 : ab_V) (P : ab_P), ab_tr xs wV (d + 6) 161 41 [] [.inr (1, 0, 0, 54), .inl (.int x1), .inl (.int x2), d3] [] P (H41 x1 x2 P)) : ∀ n : Nat, ∀ (x1 : Int32) (x2 : Int32) (x3 : Int32) (P : ab_P), ab_tr xs wV (d + 6) 161 47 [] [.inr (1, 0, 0, 54), .inl (.int x1), .inl (.int x2), .inl (.int x3)] [] P (f_161_47 N H41 n x1 x2 x3 P) := by
  intro n
  induction n with
  | zero => intro x1 x2 x3 P; exact tr_no
  | succ n ih =>
    intro x1 x2 x3 P
    refine tr_nil (rows2 := kb_161_47) rfl (List.cons_ne_nil _ _) ?_
    refine tr_blk 4 (pc' := 51) (rows' := kb_161_47.drop 4) (loc' := [.inr (1, 0, 0, 54), .inl (.int x1), .inl (.int x2), .inl (.int x3)]) (st' := [.inl (.int ((1 : Int32) <<< (x1 &&& 31))), .inl (.int x3)]) (P1 := P) rfl ⟨trivial, trivial, trivial, trivial, trivial⟩ ?_
    refine tr_if (fun h7 => ?_) (fun h7 => ?_)
    · refine tr_icF (cd := .ge) (Int32.not_le.mpr h7) ?_
      refine tr_blk 10 (pc' := 68) (rows' := kb_161_47.drop 15) (loc' := [.inr (1, 0, 0, 54), .inl (.int x1), .inl (.int x2), .inl (.int x3)]) (st' := [.inl (.int x3), .inl (.int x2), .inr (1, 0, 0, 54), .inl (.int ((x2 * (256 : Int32)) + x3)), .inr (20, 2304, 0, 60)]) (P1 := P) rfl ⟨trivial, trivial, trivial, trivial, trivial, trivial, trivial, trivial, trivial, trivial, trivial⟩ ?_
      refine tr_cRI (z := km_254) (av := [.inr (1, 0, 0, 54), .inl (.int x2), .inl (.int x3)]) (st' := [.inl (.int ((x2 * (256 : Int32)) + x3)), .inr (20, 2304, 0, 60)]) rfl rfl rfl (Nat.le_of_ble_eq_true rfl) ⟨rfl, Or.inl (by decide)⟩ rfl (Nat.le_of_ble_eq_true rfl) (t_254 N P x2 x3) (fun v4 => ?_)
      refine tr_gd (fun h5 => ?_)
      refine tr_blk 1 (pc' := 72) (rows' := kb_161_47.drop 17) (loc' := [.inr (1, 0, 0, 54), .inl (.int x1), .inl (.int x2), .inl (.int x3)]) (st' := []) (P1 := (ab_pI P 60 (((x2 * (256 : Int32)) + x3)).toNatClampNeg v4)) rfl ⟨h5, trivial⟩ ?_
      refine tr_lt (fun P6 => ?_)
      refine tr_blk 1 (pc' := 75) (rows' := kb_161_47.drop 18) (loc' := [.inr (1, 0, 0, 54), .inl (.int x1), .inl (.int x2), .inl (.int (x3 + 1))]) (st' := []) (P1 := P6) rfl ⟨trivial, trivial⟩ ?_
      refine tr_goto ?_
      exact ih x1 x2 (x3 + 1) P6
    · refine tr_icT (cd := .ge) (Int32.not_lt.mp h7) ?_
      refine tr_nil (rows2 := kb_161_78) rfl (List.cons_ne_nil _ _) ?_
      refine tr_blk 1 (pc' := 81) (rows' := kb_161_78.drop 1) (loc' := [.inr (1, 0, 0, 54), .inl (.int x1), .inl (.int (x2 + (-1))), .inl (.int x3)]) (st' := []) (P1 := P) rfl ⟨trivial, trivial⟩ ?_
      refine tr_goto ?_
      exact hH41 x1 (x2 + (-1)) (.inl (.int x3)) P
def f_161_41 (N : Nat) : Nat → Int32 → Int32 → ab_P → Option ab_P
  | 0, _, _, _ => none
  | n + 1, x1, x2, P =>
    if x2 < (0 : Int32) then
      Option.bind (f_255 N x1 P) fun P3 =>
      some P3
    else
    f_161_47 N (fun y0 y1 y2 => f_161_41 N n y0 y1 y2) N x1 x2 (0 : Int32) P
theorem t_161_41 {xs : Nat × (Nat → Int32)} {d : Nat} (N : Nat) : ∀ n : Nat, ∀ (x1 : Int32) (x2 : Int32) (d3 : ab_V) (P : ab_P), ab_tr xs wV (d + 6) 161 41 [] [.inr (1, 0, 0, 54), .inl (.int x1), .inl (.int x2), d3] [] P (f_161_41 N n x1 x2 P) := by
  intro n
  induction n with
  | zero => intro x1 x2 d3 P; exact tr_no
  | succ n ih =>
    intro x1 x2 d3 P
    refine tr_nil (rows2 := kb_161_41) rfl (List.cons_ne_nil _ _) ?_
    refine tr_blk 1 (pc' := 42) (rows' := kb_161_41.drop 1) (loc' := [.inr (1, 0, 0, 54), .inl (.int x1), .inl (.int x2), d3]) (st' := [.inl (.int x2)]) (P1 := P) rfl ⟨trivial, trivial⟩ ?_
    refine tr_if (fun h8 => ?_) (fun h8 => ?_)
    · refine tr_ifT (cd := .lt) h8 ?_
      refine tr_nil (rows2 := kb_161_84) rfl (List.cons_ne_nil _ _) ?_
      refine tr_blk 2 (pc' := 86) (rows' := kb_161_84.drop 2) (loc' := [.inr (1, 0, 0, 54), .inl (.int x1), .inl (.int x2), d3]) (st' := [.inl (.int x1), .inr (1, 0, 0, 54)]) (P1 := P) rfl ⟨trivial, trivial, trivial⟩ ?_
      refine tr_cWV (z := km_255) (av := [.inr (1, 0, 0, 54), .inl (.int x1)]) (st' := []) rfl rfl rfl (Nat.le_of_ble_eq_true rfl) ⟨rfl, Or.inl (by decide)⟩ rfl (Nat.le_of_ble_eq_true rfl) (t_255 N x1 P) (fun P3 => ?_)
      exact tr_reV (z := km_161) rfl rfl rfl
    · refine tr_ifF (cd := .lt) h8 ?_
      refine tr_blk 2 (pc' := 47) (rows' := kb_161_41.drop 4) (loc' := [.inr (1, 0, 0, 54), .inl (.int x1), .inl (.int x2), .inl (.int (0 : Int32))]) (st' := []) (P1 := P) rfl ⟨trivial, trivial, trivial⟩ ?_
      exact t_161_47 N _ ih N x1 x2 (0 : Int32) P
def f_161 (N : Nat) (P : ab_P) : Option ab_P :=
    Option.bind (f_251 N P) fun P1 =>
    Option.bind (f_253_2304 60 N ((ab_mn (P1.1 3 5) (8 : Int32)) * (256 : Int32)) (((ab_mn (P1.1 3 5) (8 : Int32)) + (1 : Int32)) * (256 : Int32)) (0 : Int32) P1) fun P2 =>
    f_161_41 N N (ab_mn (P1.1 3 5) (8 : Int32)) ((ab_mn (P1.1 3 5) (8 : Int32)) - (1 : Int32)) P2
theorem t_161 {xs : Nat × (Nat → Int32)} {d : Nat} (N : Nat) : ∀ (P : ab_P), ab_tr xs wV (d + 6) 161 0 [] [.inr (1, 0, 0, 54), ab_top, ab_top, ab_top] [] P (f_161 N P) := by
  intro P
  unfold f_161
  refine tr_nil (rows2 := kb_161_0) rfl (List.cons_ne_nil _ _) ?_
  refine tr_blk 1 (pc' := 1) (rows' := kb_161_0.drop 1) (loc' := [.inr (1, 0, 0, 54), ab_top, ab_top, ab_top]) (st' := [.inr (1, 0, 0, 54)]) (P1 := P) rfl ⟨trivial, trivial⟩ ?_
  refine tr_cWV (z := km_251) (av := [.inr (1, 0, 0, 54)]) (st' := []) rfl rfl rfl (Nat.le_of_ble_eq_true rfl) ⟨rfl, Or.inl (by decide)⟩ rfl (Nat.le_of_ble_eq_true rfl) (t_251 N P) (fun P1 => ?_)
  refine tr_blk 17 (pc' := 34) (rows' := kb_161_0.drop 19) (loc' := [.inr (1, 0, 0, 54), .inl (.int (ab_mn (P1.1 3 5) (8 : Int32))), ab_top, ab_top]) (st' := [.inl (.int (0 : Int32)), .inl (.int (((ab_mn (P1.1 3 5) (8 : Int32)) + (1 : Int32)) * (256 : Int32))), .inl (.int ((ab_mn (P1.1 3 5) (8 : Int32)) * (256 : Int32))), .inr (20, 2304, 0, 60)]) (P1 := P1) rfl ⟨trivial, trivial, trivial, trivial, (Nat.le_of_ble_eq_true rfl), trivial, trivial, trivial, trivial, trivial, trivial, trivial, trivial, trivial, trivial, trivial, trivial, trivial⟩ ?_
  refine tr_cWV (z := km_253) (av := [.inr (20, 2304, 0, 60), .inl (.int ((ab_mn (P1.1 3 5) (8 : Int32)) * (256 : Int32))), .inl (.int (((ab_mn (P1.1 3 5) (8 : Int32)) + (1 : Int32)) * (256 : Int32))), .inl (.int (0 : Int32))]) (st' := []) rfl rfl rfl (Nat.le_of_ble_eq_true rfl) trivial rfl (Nat.le_of_ble_eq_true rfl) (t_253_2304 60 N ((ab_mn (P1.1 3 5) (8 : Int32)) * (256 : Int32)) (((ab_mn (P1.1 3 5) (8 : Int32)) + (1 : Int32)) * (256 : Int32)) (0 : Int32) P1) (fun P2 => ?_)
  refine tr_blk 4 (pc' := 41) (rows' := kb_161_0.drop 24) (loc' := [.inr (1, 0, 0, 54), .inl (.int (ab_mn (P1.1 3 5) (8 : Int32))), .inl (.int ((ab_mn (P1.1 3 5) (8 : Int32)) - (1 : Int32))), ab_top]) (st' := []) (P1 := P2) rfl ⟨trivial, trivial, trivial, trivial, trivial⟩ ?_
  exact t_161_41 N N (ab_mn (P1.1 3 5) (8 : Int32)) ((ab_mn (P1.1 3 5) (8 : Int32)) - (1 : Int32)) (ab_top) P2
def f_162 (P : ab_P) : Option Int32 :=
    some (P.1 60 0)
theorem t_162 {xs : Nat × (Nat → Int32)} {d : Nat} (P : ab_P) : ab_tr xs (rI P) (d + 0) 162 0 [] [.inr (1, 0, 0, 54)] [] P (f_162 P) := by
  unfold f_162
  refine tr_nil (rows2 := kb_162_0) rfl (List.cons_ne_nil _ _) ?_
  refine tr_blk 4 (pc' := 6) (rows' := kb_162_0.drop 4) (loc' := [.inr (1, 0, 0, 54)]) (st' := [.inl (.int (P.1 60 0))]) (P1 := P) rfl ⟨trivial, trivial, trivial, (ab_vi (by decide)), trivial⟩ ?_
  exact tr_reI (z := km_162) rfl ⟨_, rfl, rfl⟩ rfl
def f_46 (N : Nat) (P : ab_P) : Option (Int32 × ab_P) :=
    Option.bind (f_161 N P) fun P1 =>
    Option.bind (f_162 P1) fun v2 =>
    some (v2, P1)
theorem t_46 {xs : Nat × (Nat → Int32)} {d : Nat} (N : Nat) : ∀ (P : ab_P), ab_tr xs wI (d + 7) 46 0 [] [.inr (11, 0, 0, 0)] [] P (f_46 N P) := by
  intro P
  unfold f_46
  refine tr_nil (rows2 := kb_46_0) rfl (List.cons_ne_nil _ _) ?_
  refine tr_blk 2 (pc' := 4) (rows' := kb_46_0.drop 2) (loc' := [.inr (11, 0, 0, 0)]) (st' := [.inr (1, 0, 0, 54)]) (P1 := P) rfl ⟨trivial, trivial, trivial⟩ ?_
  refine tr_cWV (z := km_161) (av := [.inr (1, 0, 0, 54)]) (st' := []) rfl rfl rfl (Nat.le_of_ble_eq_true rfl) ⟨rfl, Or.inl (by decide)⟩ rfl (Nat.le_of_ble_eq_true rfl) (t_161 N P) (fun P1 => ?_)
  refine tr_blk 2 (pc' := 11) (rows' := kb_46_0.drop 5) (loc' := [.inr (11, 0, 0, 0)]) (st' := [.inr (1, 0, 0, 54)]) (P1 := P1) rfl ⟨trivial, trivial, trivial⟩ ?_
  refine tr_cRI (z := km_162) (av := [.inr (1, 0, 0, 54)]) (st' := []) rfl rfl rfl (Nat.le_of_ble_eq_true rfl) ⟨rfl, Or.inl (by decide)⟩ rfl (Nat.le_of_ble_eq_true rfl) (t_162 P1) (fun v2 => ?_)
  exact tr_reI (z := km_46) rfl ⟨_, rfl, rfl⟩ rfl
def f_256_5 (N : Nat) : Nat → Int32 → Int32 → Int32 → Int32 → ab_P → Option (Int32 × ab_P)
  | 0, _, _, _, _, _ => none
  | n + 1, x1, x2, x3, x4, P =>
    if x4 < (P.1 477 360) then
      Option.bind (f_144_366 477 P x4) fun v1 =>
      if v1 = (0 : Int32) then
        f_256_5 N n x1 x2 x3 (x4 + 1) P
      else
      Option.bind (f_135_366 477 P x4 (0 : Int32)) fun v2 =>
      if v2 = x1 then
        Option.bind (f_135_366 477 P x4 (1 : Int32)) fun v3 =>
        if v3 = x2 then
          ab_b2 (f_150 N x4 P) fun v5 P4 =>
          if v5 = (0 : Int32) then
            f_256_5 N n x1 x2 x3 (x4 + 1) P4
          else
          if x3 = (-1 : Int32) then
            f_256_5 N n x1 x2 x4 (x4 + 1) P4
          else
          Option.bind (f_135_366 477 P4 x4 (2 : Int32)) fun v6 =>
          Option.bind (f_135_366 477 P4 x3 (2 : Int32)) fun v7 =>
          if v7 < v6 then
            f_256_5 N n x1 x2 x4 (x4 + 1) P4
          else
          f_256_5 N n x1 x2 x3 (x4 + 1) P4
        else
        f_256_5 N n x1 x2 x3 (x4 + 1) P
      else
      f_256_5 N n x1 x2 x3 (x4 + 1) P
    else
    some (x3, P)
theorem t_256_5 {xs : Nat × (Nat → Int32)} {d : Nat} (N : Nat) : ∀ n : Nat, ∀ (x1 : Int32) (x2 : Int32) (x3 : Int32) (x4 : Int32) (P : ab_P), ab_tr xs wI (d + 7) 256 5 [] [.inr (12, 0, 0, 72), .inl (.int x1), .inl (.int x2), .inl (.int x3), .inl (.int x4)] [] P (f_256_5 N n x1 x2 x3 x4 P) := by
  intro n
  induction n with
  | zero => intro x1 x2 x3 x4 P; exact tr_no
  | succ n ih =>
    intro x1 x2 x3 x4 P
    refine tr_nil (rows2 := kb_256_5) rfl (List.cons_ne_nil _ _) ?_
    refine tr_blk 5 (pc' := 15) (rows' := kb_256_5.drop 5) (loc' := [.inr (12, 0, 0, 72), .inl (.int x1), .inl (.int x2), .inl (.int x3), .inl (.int x4)]) (st' := [.inl (.int (P.1 477 360)), .inl (.int x4)]) (P1 := P) rfl ⟨trivial, trivial, trivial, trivial, (ab_vi (by decide)), trivial⟩ ?_
    refine tr_if (fun h8 => ?_) (fun h8 => ?_)
    · refine tr_icF (cd := .ge) (Int32.not_le.mpr h8) ?_
      refine tr_blk 3 (pc' := 24) (rows' := kb_256_5.drop 9) (loc' := [.inr (12, 0, 0, 72), .inl (.int x1), .inl (.int x2), .inl (.int x3), .inl (.int x4)]) (st' := [.inl (.int x4), .inr (20, 366, 0, 477)]) (P1 := P) rfl ⟨trivial, trivial, trivial, trivial⟩ ?_
      refine tr_cRI (z := km_144) (av := [.inr (20, 366, 0, 477), .inl (.int x4)]) (st' := []) rfl rfl rfl (Nat.le_of_ble_eq_true rfl) trivial rfl (Nat.le_of_ble_eq_true rfl) (t_144_366 477 P x4) (fun v1 => ?_)
      refine tr_if (fun h9 => ?_) (fun h9 => ?_)
      · refine tr_ifT (cd := .eq) h9 ?_
        refine tr_nil (rows2 := kb_256_97) rfl (List.cons_ne_nil _ _) ?_
        refine tr_blk 1 (pc' := 100) (rows' := kb_256_97.drop 1) (loc' := [.inr (12, 0, 0, 72), .inl (.int x1), .inl (.int x2), .inl (.int x3), .inl (.int (x4 + 1))]) (st' := []) (P1 := P) rfl ⟨trivial, trivial⟩ ?_
        refine tr_goto ?_
        exact ih x1 x2 x3 (x4 + 1) P
      · refine tr_ifF (cd := .eq) h9 ?_
        refine tr_blk 4 (pc' := 37) (rows' := kb_256_5.drop 15) (loc' := [.inr (12, 0, 0, 72), .inl (.int x1), .inl (.int x2), .inl (.int x3), .inl (.int x4)]) (st' := [.inl (.int (0 : Int32)), .inl (.int x4), .inr (20, 366, 0, 477)]) (P1 := P) rfl ⟨trivial, trivial, trivial, trivial, trivial⟩ ?_
        refine tr_cRI (z := km_135) (av := [.inr (20, 366, 0, 477), .inl (.int x4), .inl (.int (0 : Int32))]) (st' := []) rfl rfl rfl (Nat.le_of_ble_eq_true rfl) trivial rfl (Nat.le_of_ble_eq_true rfl) (t_135_366 477 P x4 (0 : Int32)) (fun v2 => ?_)
        refine tr_blk 1 (pc' := 41) (rows' := kb_256_5.drop 17) (loc' := [.inr (12, 0, 0, 72), .inl (.int x1), .inl (.int x2), .inl (.int x3), .inl (.int x4)]) (st' := [.inl (.int x1), .inl (.int v2)]) (P1 := P) rfl ⟨trivial, trivial⟩ ?_
        refine tr_if (fun h10 => ?_) (fun h10 => ?_)
        · refine tr_icF (cd := .ne) (fun q => q h10) ?_
          refine tr_blk 4 (pc' := 51) (rows' := kb_256_5.drop 22) (loc' := [.inr (12, 0, 0, 72), .inl (.int x1), .inl (.int x2), .inl (.int x3), .inl (.int x4)]) (st' := [.inl (.int (1 : Int32)), .inl (.int x4), .inr (20, 366, 0, 477)]) (P1 := P) rfl ⟨trivial, trivial, trivial, trivial, trivial⟩ ?_
          refine tr_cRI (z := km_135) (av := [.inr (20, 366, 0, 477), .inl (.int x4), .inl (.int (1 : Int32))]) (st' := []) rfl rfl rfl (Nat.le_of_ble_eq_true rfl) trivial rfl (Nat.le_of_ble_eq_true rfl) (t_135_366 477 P x4 (1 : Int32)) (fun v3 => ?_)
          refine tr_blk 1 (pc' := 55) (rows' := kb_256_5.drop 24) (loc' := [.inr (12, 0, 0, 72), .inl (.int x1), .inl (.int x2), .inl (.int x3), .inl (.int x4)]) (st' := [.inl (.int x2), .inl (.int v3)]) (P1 := P) rfl ⟨trivial, trivial⟩ ?_
          refine tr_if (fun h11 => ?_) (fun h11 => ?_)
          · refine tr_icF (cd := .ne) (fun q => q h11) ?_
            refine tr_blk 2 (pc' := 61) (rows' := kb_256_5.drop 27) (loc' := [.inr (12, 0, 0, 72), .inl (.int x1), .inl (.int x2), .inl (.int x3), .inl (.int x4)]) (st' := [.inl (.int x4), .inr (12, 0, 0, 72)]) (P1 := P) rfl ⟨trivial, trivial, trivial⟩ ?_
            refine tr_cWI (z := km_150) (av := [.inr (12, 0, 0, 72), .inl (.int x4)]) (st' := []) rfl rfl rfl (Nat.le_of_ble_eq_true rfl) ⟨rfl, Or.inl (by decide)⟩ rfl (Nat.le_of_ble_eq_true rfl) (t_150 N x4 P) (fun v5 P4 => ?_)
            refine tr_if (fun h12 => ?_) (fun h12 => ?_)
            · refine tr_ifT (cd := .eq) h12 ?_
              refine tr_nil (rows2 := kb_256_97) rfl (List.cons_ne_nil _ _) ?_
              refine tr_blk 1 (pc' := 100) (rows' := kb_256_97.drop 1) (loc' := [.inr (12, 0, 0, 72), .inl (.int x1), .inl (.int x2), .inl (.int x3), .inl (.int (x4 + 1))]) (st' := []) (P1 := P4) rfl ⟨trivial, trivial⟩ ?_
              refine tr_goto ?_
              exact ih x1 x2 x3 (x4 + 1) P4
            · refine tr_ifF (cd := .eq) h12 ?_
              refine tr_blk 2 (pc' := 69) (rows' := kb_256_5.drop 31) (loc' := [.inr (12, 0, 0, 72), .inl (.int x1), .inl (.int x2), .inl (.int x3), .inl (.int x4)]) (st' := [.inl (.int (-1 : Int32)), .inl (.int x3)]) (P1 := P4) rfl ⟨trivial, trivial, trivial⟩ ?_
              refine tr_if (fun h13 => ?_) (fun h13 => ?_)
              · refine tr_icT (cd := .eq) h13 ?_
                refine tr_nil (rows2 := kb_256_94) rfl (List.cons_ne_nil _ _) ?_
                refine tr_blk 2 (pc' := 97) (rows' := kb_256_94.drop 2) (loc' := [.inr (12, 0, 0, 72), .inl (.int x1), .inl (.int x2), .inl (.int x4), .inl (.int x4)]) (st' := []) (P1 := P4) rfl ⟨trivial, trivial, trivial⟩ ?_
                refine tr_nil (rows2 := kb_256_97) rfl (List.cons_ne_nil _ _) ?_
                refine tr_blk 1 (pc' := 100) (rows' := kb_256_97.drop 1) (loc' := [.inr (12, 0, 0, 72), .inl (.int x1), .inl (.int x2), .inl (.int x4), .inl (.int (x4 + 1))]) (st' := []) (P1 := P4) rfl ⟨trivial, trivial⟩ ?_
                refine tr_goto ?_
                exact ih x1 x2 x4 (x4 + 1) P4
              · refine tr_icF (cd := .eq) h13 ?_
                refine tr_blk 4 (pc' := 79) (rows' := kb_256_5.drop 36) (loc' := [.inr (12, 0, 0, 72), .inl (.int x1), .inl (.int x2), .inl (.int x3), .inl (.int x4)]) (st' := [.inl (.int (2 : Int32)), .inl (.int x4), .inr (20, 366, 0, 477)]) (P1 := P4) rfl ⟨trivial, trivial, trivial, trivial, trivial⟩ ?_
                refine tr_cRI (z := km_135) (av := [.inr (20, 366, 0, 477), .inl (.int x4), .inl (.int (2 : Int32))]) (st' := []) rfl rfl rfl (Nat.le_of_ble_eq_true rfl) trivial rfl (Nat.le_of_ble_eq_true rfl) (t_135_366 477 P4 x4 (2 : Int32)) (fun v6 => ?_)
                refine tr_blk 4 (pc' := 88) (rows' := kb_256_5.drop 41) (loc' := [.inr (12, 0, 0, 72), .inl (.int x1), .inl (.int x2), .inl (.int x3), .inl (.int x4)]) (st' := [.inl (.int (2 : Int32)), .inl (.int x3), .inr (20, 366, 0, 477), .inl (.int v6)]) (P1 := P4) rfl ⟨trivial, trivial, trivial, trivial, trivial⟩ ?_
                refine tr_cRI (z := km_135) (av := [.inr (20, 366, 0, 477), .inl (.int x3), .inl (.int (2 : Int32))]) (st' := [.inl (.int v6)]) rfl rfl rfl (Nat.le_of_ble_eq_true rfl) trivial rfl (Nat.le_of_ble_eq_true rfl) (t_135_366 477 P4 x3 (2 : Int32)) (fun v7 => ?_)
                refine tr_if (fun h14 => ?_) (fun h14 => ?_)
                · refine tr_icF (cd := .le) (Int32.not_le.mpr h14) ?_
                  refine tr_nil (rows2 := kb_256_94) rfl (List.cons_ne_nil _ _) ?_
                  refine tr_blk 2 (pc' := 97) (rows' := kb_256_94.drop 2) (loc' := [.inr (12, 0, 0, 72), .inl (.int x1), .inl (.int x2), .inl (.int x4), .inl (.int x4)]) (st' := []) (P1 := P4) rfl ⟨trivial, trivial, trivial⟩ ?_
                  refine tr_nil (rows2 := kb_256_97) rfl (List.cons_ne_nil _ _) ?_
                  refine tr_blk 1 (pc' := 100) (rows' := kb_256_97.drop 1) (loc' := [.inr (12, 0, 0, 72), .inl (.int x1), .inl (.int x2), .inl (.int x4), .inl (.int (x4 + 1))]) (st' := []) (P1 := P4) rfl ⟨trivial, trivial⟩ ?_
                  refine tr_goto ?_
                  exact ih x1 x2 x4 (x4 + 1) P4
                · refine tr_icT (cd := .le) (Int32.not_lt.mp h14) ?_
                  refine tr_nil (rows2 := kb_256_97) rfl (List.cons_ne_nil _ _) ?_
                  refine tr_blk 1 (pc' := 100) (rows' := kb_256_97.drop 1) (loc' := [.inr (12, 0, 0, 72), .inl (.int x1), .inl (.int x2), .inl (.int x3), .inl (.int (x4 + 1))]) (st' := []) (P1 := P4) rfl ⟨trivial, trivial⟩ ?_
                  refine tr_goto ?_
                  exact ih x1 x2 x3 (x4 + 1) P4
          · refine tr_icT (cd := .ne) h11 ?_
            refine tr_nil (rows2 := kb_256_97) rfl (List.cons_ne_nil _ _) ?_
            refine tr_blk 1 (pc' := 100) (rows' := kb_256_97.drop 1) (loc' := [.inr (12, 0, 0, 72), .inl (.int x1), .inl (.int x2), .inl (.int x3), .inl (.int (x4 + 1))]) (st' := []) (P1 := P) rfl ⟨trivial, trivial⟩ ?_
            refine tr_goto ?_
            exact ih x1 x2 x3 (x4 + 1) P
        · refine tr_icT (cd := .ne) h10 ?_
          refine tr_nil (rows2 := kb_256_97) rfl (List.cons_ne_nil _ _) ?_
          refine tr_blk 1 (pc' := 100) (rows' := kb_256_97.drop 1) (loc' := [.inr (12, 0, 0, 72), .inl (.int x1), .inl (.int x2), .inl (.int x3), .inl (.int (x4 + 1))]) (st' := []) (P1 := P) rfl ⟨trivial, trivial⟩ ?_
          refine tr_goto ?_
          exact ih x1 x2 x3 (x4 + 1) P
    · refine tr_icT (cd := .ge) (Int32.not_lt.mp h8) ?_
      refine tr_nil (rows2 := kb_256_103) rfl (List.cons_ne_nil _ _) ?_
      refine tr_blk 1 (pc' := 104) (rows' := kb_256_103.drop 1) (loc' := [.inr (12, 0, 0, 72), .inl (.int x1), .inl (.int x2), .inl (.int x3), .inl (.int x4)]) (st' := [.inl (.int x3)]) (P1 := P) rfl ⟨trivial, trivial⟩ ?_
      exact tr_reI (z := km_256) rfl ⟨_, rfl, rfl⟩ rfl
def f_256 (N : Nat) (a1 : Int32) (a2 : Int32) (P : ab_P) : Option (Int32 × ab_P) :=
    f_256_5 N N a1 a2 (-1 : Int32) (0 : Int32) P
theorem t_256 {xs : Nat × (Nat → Int32)} {d : Nat} (N : Nat) : ∀ (a1 : Int32) (a2 : Int32) (P : ab_P), ab_tr xs wI (d + 7) 256 0 [] [.inr (12, 0, 0, 72), .inl (.int a1), .inl (.int a2), ab_top, ab_top] [] P (f_256 N a1 a2 P) := by
  intro a1 a2 P
  unfold f_256
  refine tr_nil (rows2 := kb_256_0) rfl (List.cons_ne_nil _ _) ?_
  refine tr_blk 4 (pc' := 5) (rows' := kb_256_0.drop 4) (loc' := [.inr (12, 0, 0, 72), .inl (.int a1), .inl (.int a2), .inl (.int (-1 : Int32)), .inl (.int (0 : Int32))]) (st' := []) (P1 := P) rfl ⟨trivial, trivial, trivial, trivial, trivial⟩ ?_
  exact t_256_5 N N a1 a2 (-1 : Int32) (0 : Int32) P
def f_163_14 (N : Nat) (H2 : Int32 → ab_P → Option ab_P) : Nat → Int32 → Int32 → ab_P → Option ab_P
  | 0, _, _, _ => none
  | n + 1, x1, x2, P =>
    if x2 < (P.1 76 0) then
      if ab_gi x1 8 then
      ab_b2 (f_256 N x1 x2 P) fun v3 P2 =>
      if ab_gi x2 8 then
      ab_lt (ab_pI P2 (559 + 1 + x1.toNatClampNeg) x2.toNatClampNeg v3) fun P5 =>
      f_163_14 N H2 n x1 (x2 + 1) P5
      else none
      else none
    else
    H2 (x1 + 1) P
theorem t_163_14 {xs : Nat × (Nat → Int32)} {d : Nat} (N : Nat) (H2 : Int32 → ab_P → Option ab_P) (hH2 : ∀ (x1 : Int32) (d2 : ab_V) (P : ab_P), ab_tr xs wV (d + 8) 163 2 [] [.inr (12, 0, 0, 72), .inl (.int x1), d2, ab_top] [] P (H2 x1 P)) : ∀ n : Nat, ∀ (x1 : Int32) (x2 : Int32) (P : ab_P), ab_tr xs wV (d + 8) 163 14 [] [.inr (12, 0, 0, 72), .inl (.int x1), .inl (.int x2), ab_top] [] P (f_163_14 N H2 n x1 x2 P) := by
  intro n
  induction n with
  | zero => intro x1 x2 P; exact tr_no
  | succ n ih =>
    intro x1 x2 P
    refine tr_nil (rows2 := kb_163_14) rfl (List.cons_ne_nil _ _) ?_
    refine tr_blk 5 (pc' := 21) (rows' := kb_163_14.drop 5) (loc' := [.inr (12, 0, 0, 72), .inl (.int x1), .inl (.int x2), ab_top]) (st' := [.inl (.int (P.1 76 0)), .inl (.int x2)]) (P1 := P) rfl ⟨trivial, trivial, trivial, trivial, (ab_vi (by decide)), trivial⟩ ?_
    refine tr_if (fun h26 => ?_) (fun h26 => ?_)
    · refine tr_icF (cd := .ge) (Int32.not_le.mpr h26) ?_
      refine tr_gd (fun h1 => ?_)
      refine tr_blk 8 (pc' := 34) (rows' := kb_163_14.drop 14) (loc' := [.inr (12, 0, 0, 72), .inl (.int x1), .inl (.int x2), ab_top]) (st' := [.inl (.int x2), .inl (.int x1), .inr (12, 0, 0, 72), .inl (.int x2), .inr (20, 8, 0, (559 + 1 + x1.toNatClampNeg))]) (P1 := P) rfl ⟨trivial, trivial, trivial, ⟨h1, ab_grl h1⟩, trivial, trivial, trivial, trivial, trivial⟩ ?_
      refine tr_cWI (z := km_256) (av := [.inr (12, 0, 0, 72), .inl (.int x1), .inl (.int x2)]) (st' := [.inl (.int x2), .inr (20, 8, 0, (559 + 1 + x1.toNatClampNeg))]) rfl rfl rfl (Nat.le_of_ble_eq_true rfl) ⟨rfl, Or.inl (by decide)⟩ rfl (Nat.le_of_ble_eq_true rfl) (t_256 N x1 x2 P) (fun v3 P2 => ?_)
      refine tr_gd (fun h4 => ?_)
      refine tr_blk 1 (pc' := 38) (rows' := kb_163_14.drop 16) (loc' := [.inr (12, 0, 0, 72), .inl (.int x1), .inl (.int x2), ab_top]) (st' := []) (P1 := (ab_pI P2 (559 + 1 + x1.toNatClampNeg) x2.toNatClampNeg v3)) rfl ⟨h4, trivial⟩ ?_
      refine tr_lt (fun P5 => ?_)
      refine tr_blk 1 (pc' := 41) (rows' := kb_163_14.drop 17) (loc' := [.inr (12, 0, 0, 72), .inl (.int x1), .inl (.int (x2 + 1)), ab_top]) (st' := []) (P1 := P5) rfl ⟨trivial, trivial⟩ ?_
      refine tr_goto ?_
      exact ih x1 (x2 + 1) P5
    · refine tr_icT (cd := .ge) (Int32.not_lt.mp h26) ?_
      refine tr_nil (rows2 := kb_163_44) rfl (List.cons_ne_nil _ _) ?_
      refine tr_blk 1 (pc' := 47) (rows' := kb_163_44.drop 1) (loc' := [.inr (12, 0, 0, 72), .inl (.int (x1 + 1)), .inl (.int x2), ab_top]) (st' := []) (P1 := P) rfl ⟨trivial, trivial⟩ ?_
      refine tr_goto ?_
      exact hH2 (x1 + 1) (.inl (.int x2)) P
def f_163_109 (H63 : Int32 → Int32 → ab_P → Option ab_P) : Nat → Int32 → Int32 → Int32 → ab_P → Option ab_P
  | 0, _, _, _, _ => none
  | n + 1, x1, x2, x3, P =>
    if x3 < (P.1 76 0) then
      if x1 < (P.1 76 0) then
        if ((x2 >>> (x3 &&& 31)) &&& (1 : Int32)) = (0 : Int32) then
          if ab_gi x1 8 then
          if ab_gi x3 8 then
          if (P.1 (559 + 1 + x1.toNatClampNeg) x3.toNatClampNeg) = (-1 : Int32) then
            f_163_109 H63 n x1 x2 (x3 + 1) P
          else
          if ab_gi x1 9 then
          if ab_gi x1 9 then
          if ab_gi x2 256 then
          if ab_gi x1 8 then
          if ab_gi x3 8 then
          Option.bind (f_135_366 477 P (P.1 (559 + 1 + x1.toNatClampNeg) x3.toNatClampNeg) (2 : Int32)) fun v20 =>
          if ab_gi (x1 + (1 : Int32)) 9 then
          if ab_gi (x2 ||| ((1 : Int32) <<< (x3 &&& 31))) 256 then
          Option.bind (f_193 P (P.1 (549 + 1 + x1.toNatClampNeg) x2.toNatClampNeg) (v20 + (P.1 (549 + 1 + ((x1 + (1 : Int32))).toNatClampNeg) ((x2 ||| ((1 : Int32) <<< (x3 &&& 31)))).toNatClampNeg))) fun v23 =>
          if ab_gi x2 256 then
          ab_lt (ab_pI P (549 + 1 + x1.toNatClampNeg) x2.toNatClampNeg v23) fun P25 =>
          f_163_109 H63 n x1 x2 (x3 + 1) P25
          else none
          else none
          else none
          else none
          else none
          else none
          else none
          else none
          else none
          else none
        else
        f_163_109 H63 n x1 x2 (x3 + 1) P
      else
      H63 x1 (x2 + 1) P
    else
    H63 x1 (x2 + 1) P
theorem t_163_109 {xs : Nat × (Nat → Int32)} {d : Nat} (H63 : Int32 → Int32 → ab_P → Option ab_P) (hH63 : ∀ (x1 : Int32) (x2 : Int32) (d3 : ab_V) (P : ab_P), ab_tr xs wV (d + 8) 163 63 [] [.inr (12, 0, 0, 72), .inl (.int x1), .inl (.int x2), d3] [] P (H63 x1 x2 P)) : ∀ n : Nat, ∀ (x1 : Int32) (x2 : Int32) (x3 : Int32) (P : ab_P), ab_tr xs wV (d + 8) 163 109 [] [.inr (12, 0, 0, 72), .inl (.int x1), .inl (.int x2), .inl (.int x3)] [] P (f_163_109 H63 n x1 x2 x3 P) := by
  intro n
  induction n with
  | zero => intro x1 x2 x3 P; exact tr_no
  | succ n ih =>
    intro x1 x2 x3 P
    refine tr_nil (rows2 := kb_163_109) rfl (List.cons_ne_nil _ _) ?_
    refine tr_blk 5 (pc' := 116) (rows' := kb_163_109.drop 5) (loc' := [.inr (12, 0, 0, 72), .inl (.int x1), .inl (.int x2), .inl (.int x3)]) (st' := [.inl (.int (P.1 76 0)), .inl (.int x3)]) (P1 := P) rfl ⟨trivial, trivial, trivial, trivial, (ab_vi (by decide)), trivial⟩ ?_
    refine tr_if (fun h27 => ?_) (fun h27 => ?_)
    · refine tr_icF (cd := .ge) (Int32.not_le.mpr h27) ?_
      refine tr_blk 5 (pc' := 126) (rows' := kb_163_109.drop 11) (loc' := [.inr (12, 0, 0, 72), .inl (.int x1), .inl (.int x2), .inl (.int x3)]) (st' := [.inl (.int (P.1 76 0)), .inl (.int x1)]) (P1 := P) rfl ⟨trivial, trivial, trivial, trivial, (ab_vi (by decide)), trivial⟩ ?_
      refine tr_if (fun h28 => ?_) (fun h28 => ?_)
      · refine tr_icF (cd := .ge) (Int32.not_le.mpr h28) ?_
        refine tr_blk 5 (pc' := 134) (rows' := kb_163_109.drop 17) (loc' := [.inr (12, 0, 0, 72), .inl (.int x1), .inl (.int x2), .inl (.int x3)]) (st' := [.inl (.int ((x2 >>> (x3 &&& 31)) &&& (1 : Int32)))]) (P1 := P) rfl ⟨trivial, trivial, trivial, trivial, trivial, trivial⟩ ?_
        refine tr_if (fun h29 => ?_) (fun h29 => ?_)
        · refine tr_ifF (cd := .ne) (fun q => q h29) ?_
          refine tr_gd (fun h13 => ?_)
          refine tr_gd (fun h14 => ?_)
          refine tr_blk 7 (pc' := 146) (rows' := kb_163_109.drop 25) (loc' := [.inr (12, 0, 0, 72), .inl (.int x1), .inl (.int x2), .inl (.int x3)]) (st' := [.inl (.int (-1 : Int32)), .inl (.int (P.1 (559 + 1 + x1.toNatClampNeg) x3.toNatClampNeg))]) (P1 := P) rfl ⟨trivial, trivial, trivial, ⟨h13, ab_grl h13⟩, trivial, h14, trivial, trivial⟩ ?_
          refine tr_if (fun h30 => ?_) (fun h30 => ?_)
          · refine tr_icT (cd := .eq) h30 ?_
            refine tr_nil (rows2 := kb_163_199) rfl (List.cons_ne_nil _ _) ?_
            refine tr_blk 1 (pc' := 202) (rows' := kb_163_199.drop 1) (loc' := [.inr (12, 0, 0, 72), .inl (.int x1), .inl (.int x2), .inl (.int (x3 + 1))]) (st' := []) (P1 := P) rfl ⟨trivial, trivial⟩ ?_
            refine tr_goto ?_
            exact ih x1 x2 (x3 + 1) P
          · refine tr_icF (cd := .eq) h30 ?_
            refine tr_gd (fun h15 => ?_)
            refine tr_gd (fun h16 => ?_)
            refine tr_gd (fun h17 => ?_)
            refine tr_gd (fun h18 => ?_)
            refine tr_gd (fun h19 => ?_)
            refine tr_blk 20 (pc' := 177) (rows' := kb_163_109.drop 46) (loc' := [.inr (12, 0, 0, 72), .inl (.int x1), .inl (.int x2), .inl (.int x3)]) (st' := [.inl (.int (2 : Int32)), .inl (.int (P.1 (559 + 1 + x1.toNatClampNeg) x3.toNatClampNeg)), .inr (20, 366, 0, 477), .inl (.int (P.1 (549 + 1 + x1.toNatClampNeg) x2.toNatClampNeg)), .inl (.int x2), .inr (20, 256, 0, (549 + 1 + x1.toNatClampNeg))]) (P1 := P) rfl ⟨trivial, trivial, trivial, ⟨h15, ab_grl h15⟩, trivial, trivial, trivial, trivial, ⟨h16, ab_grl h16⟩, trivial, h17, trivial, trivial, trivial, trivial, trivial, ⟨h18, ab_grl h18⟩, trivial, h19, trivial, trivial⟩ ?_
            refine tr_cRI (z := km_135) (av := [.inr (20, 366, 0, 477), .inl (.int (P.1 (559 + 1 + x1.toNatClampNeg) x3.toNatClampNeg)), .inl (.int (2 : Int32))]) (st' := [.inl (.int (P.1 (549 + 1 + x1.toNatClampNeg) x2.toNatClampNeg)), .inl (.int x2), .inr (20, 256, 0, (549 + 1 + x1.toNatClampNeg))]) rfl rfl rfl (Nat.le_of_ble_eq_true rfl) trivial rfl (Nat.le_of_ble_eq_true rfl) (t_135_366 477 P (P.1 (559 + 1 + x1.toNatClampNeg) x3.toNatClampNeg) (2 : Int32)) (fun v20 => ?_)
            refine tr_gd (fun h21 => ?_)
            refine tr_gd (fun h22 => ?_)
            refine tr_blk 13 (pc' := 195) (rows' := kb_163_109.drop 60) (loc' := [.inr (12, 0, 0, 72), .inl (.int x1), .inl (.int x2), .inl (.int x3)]) (st' := [.inl (.int (v20 + (P.1 (549 + 1 + ((x1 + (1 : Int32))).toNatClampNeg) ((x2 ||| ((1 : Int32) <<< (x3 &&& 31)))).toNatClampNeg))), .inl (.int (P.1 (549 + 1 + x1.toNatClampNeg) x2.toNatClampNeg)), .inl (.int x2), .inr (20, 256, 0, (549 + 1 + x1.toNatClampNeg))]) (P1 := P) rfl ⟨trivial, trivial, trivial, trivial, trivial, ⟨h21, ab_grl h21⟩, trivial, trivial, trivial, trivial, trivial, h22, trivial, trivial⟩ ?_
            refine tr_cRI (z := km_193) (av := [.inl (.int (P.1 (549 + 1 + x1.toNatClampNeg) x2.toNatClampNeg)), .inl (.int (v20 + (P.1 (549 + 1 + ((x1 + (1 : Int32))).toNatClampNeg) ((x2 ||| ((1 : Int32) <<< (x3 &&& 31)))).toNatClampNeg)))]) (st' := [.inl (.int x2), .inr (20, 256, 0, (549 + 1 + x1.toNatClampNeg))]) rfl rfl rfl (Nat.le_of_ble_eq_true rfl) trivial rfl (Nat.le_of_ble_eq_true rfl) (t_193 P (P.1 (549 + 1 + x1.toNatClampNeg) x2.toNatClampNeg) (v20 + (P.1 (549 + 1 + ((x1 + (1 : Int32))).toNatClampNeg) ((x2 ||| ((1 : Int32) <<< (x3 &&& 31)))).toNatClampNeg))) (fun v23 => ?_)
            refine tr_gd (fun h24 => ?_)
            refine tr_blk 1 (pc' := 199) (rows' := kb_163_109.drop 62) (loc' := [.inr (12, 0, 0, 72), .inl (.int x1), .inl (.int x2), .inl (.int x3)]) (st' := []) (P1 := (ab_pI P (549 + 1 + x1.toNatClampNeg) x2.toNatClampNeg v23)) rfl ⟨h24, trivial⟩ ?_
            refine tr_lt (fun P25 => ?_)
            refine tr_nil (rows2 := kb_163_199) rfl (List.cons_ne_nil _ _) ?_
            refine tr_blk 1 (pc' := 202) (rows' := kb_163_199.drop 1) (loc' := [.inr (12, 0, 0, 72), .inl (.int x1), .inl (.int x2), .inl (.int (x3 + 1))]) (st' := []) (P1 := P25) rfl ⟨trivial, trivial⟩ ?_
            refine tr_goto ?_
            exact ih x1 x2 (x3 + 1) P25
        · refine tr_ifT (cd := .ne) h29 ?_
          refine tr_nil (rows2 := kb_163_199) rfl (List.cons_ne_nil _ _) ?_
          refine tr_blk 1 (pc' := 202) (rows' := kb_163_199.drop 1) (loc' := [.inr (12, 0, 0, 72), .inl (.int x1), .inl (.int x2), .inl (.int (x3 + 1))]) (st' := []) (P1 := P) rfl ⟨trivial, trivial⟩ ?_
          refine tr_goto ?_
          exact ih x1 x2 (x3 + 1) P
      · refine tr_icT (cd := .ge) (Int32.not_lt.mp h28) ?_
        refine tr_nil (rows2 := kb_163_205) rfl (List.cons_ne_nil _ _) ?_
        refine tr_blk 1 (pc' := 208) (rows' := kb_163_205.drop 1) (loc' := [.inr (12, 0, 0, 72), .inl (.int x1), .inl (.int (x2 + 1)), .inl (.int x3)]) (st' := []) (P1 := P) rfl ⟨trivial, trivial⟩ ?_
        refine tr_goto ?_
        exact hH63 x1 (x2 + 1) (.inl (.int x3)) P
    · refine tr_icT (cd := .ge) (Int32.not_lt.mp h27) ?_
      refine tr_nil (rows2 := kb_163_205) rfl (List.cons_ne_nil _ _) ?_
      refine tr_blk 1 (pc' := 208) (rows' := kb_163_205.drop 1) (loc' := [.inr (12, 0, 0, 72), .inl (.int x1), .inl (.int (x2 + 1)), .inl (.int x3)]) (st' := []) (P1 := P) rfl ⟨trivial, trivial⟩ ?_
      refine tr_goto ?_
      exact hH63 x1 (x2 + 1) (.inl (.int x3)) P
def f_163_63 (N : Nat) (H57 : Int32 → ab_P → Option ab_P) : Nat → Int32 → Int32 → ab_P → Option ab_P
  | 0, _, _, _ => none
  | n + 1, x1, x2, P =>
    if x2 < ((1 : Int32) <<< ((P.1 76 0) &&& 31)) then
      if ab_gi x1 9 then
      if x1 = (P.1 76 0) then
        if ab_gi x2 256 then
        ab_lt (ab_pI P (549 + 1 + x1.toNatClampNeg) x2.toNatClampNeg (0 : Int32)) fun P12 =>
        f_163_109 (fun y0 y1 y2 => f_163_63 N H57 n y0 y1 y2) N x1 x2 (0 : Int32) P12
        else none
      else
      if ab_gi (x1 + (1 : Int32)) 9 then
      if ab_gi x2 256 then
      if ab_gi x2 256 then
      ab_lt (ab_pI P (549 + 1 + x1.toNatClampNeg) x2.toNatClampNeg (P.1 (549 + 1 + ((x1 + (1 : Int32))).toNatClampNeg) x2.toNatClampNeg)) fun P10 =>
      f_163_109 (fun y0 y1 y2 => f_163_63 N H57 n y0 y1 y2) N x1 x2 (0 : Int32) P10
      else none
      else none
      else none
      else none
    else
    H57 (x1 + (-1)) P
theorem t_163_63 {xs : Nat × (Nat → Int32)} {d : Nat} (N : Nat) (H57 : Int32 → ab_P → Option ab_P) (hH57 : ∀ (x1 : Int32) (d2 : ab_V) (d3 : ab_V) (P : ab_P), ab_tr xs wV (d + 8) 163 57 [] [.inr (12, 0, 0, 72), .inl (.int x1), d2, d3] [] P (H57 x1 P)) : ∀ n : Nat, ∀ (x1 : Int32) (x2 : Int32) (d3 : ab_V) (P : ab_P), ab_tr xs wV (d + 8) 163 63 [] [.inr (12, 0, 0, 72), .inl (.int x1), .inl (.int x2), d3] [] P (f_163_63 N H57 n x1 x2 P) := by
  intro n
  induction n with
  | zero => intro x1 x2 d3 P; exact tr_no
  | succ n ih =>
    intro x1 x2 d3 P
    refine tr_nil (rows2 := kb_163_63) rfl (List.cons_ne_nil _ _) ?_
    refine tr_blk 7 (pc' := 72) (rows' := kb_163_63.drop 7) (loc' := [.inr (12, 0, 0, 72), .inl (.int x1), .inl (.int x2), d3]) (st' := [.inl (.int ((1 : Int32) <<< ((P.1 76 0) &&& 31))), .inl (.int x2)]) (P1 := P) rfl ⟨trivial, trivial, trivial, trivial, trivial, (ab_vi (by decide)), trivial, trivial⟩ ?_
    refine tr_if (fun h31 => ?_) (fun h31 => ?_)
    · refine tr_icF (cd := .ge) (Int32.not_le.mpr h31) ?_
      refine tr_gd (fun h6 => ?_)
      refine tr_blk 10 (pc' := 89) (rows' := kb_163_63.drop 18) (loc' := [.inr (12, 0, 0, 72), .inl (.int x1), .inl (.int x2), d3]) (st' := [.inl (.int (P.1 76 0)), .inl (.int x1), .inl (.int x2), .inr (20, 256, 0, (549 + 1 + x1.toNatClampNeg))]) (P1 := P) rfl ⟨trivial, trivial, trivial, ⟨h6, ab_grl h6⟩, trivial, trivial, trivial, trivial, trivial, (ab_vi (by decide)), trivial⟩ ?_
      refine tr_if (fun h32 => ?_) (fun h32 => ?_)
      · refine tr_icF (cd := .ne) (fun q => q h32) ?_
        refine tr_blk 1 (pc' := 93) (rows' := kb_163_63.drop 20) (loc' := [.inr (12, 0, 0, 72), .inl (.int x1), .inl (.int x2), d3]) (st' := [.inl (.int (0 : Int32)), .inl (.int x2), .inr (20, 256, 0, (549 + 1 + x1.toNatClampNeg))]) (P1 := P) rfl ⟨trivial, trivial⟩ ?_
        refine tr_goto ?_
        refine tr_nil (rows2 := kb_163_106) rfl (List.cons_ne_nil _ _) ?_
        refine tr_gd (fun h11 => ?_)
        refine tr_blk 1 (pc' := 107) (rows' := kb_163_106.drop 1) (loc' := [.inr (12, 0, 0, 72), .inl (.int x1), .inl (.int x2), d3]) (st' := []) (P1 := (ab_pI P (549 + 1 + x1.toNatClampNeg) x2.toNatClampNeg (0 : Int32))) rfl ⟨h11, trivial⟩ ?_
        refine tr_lt (fun P12 => ?_)
        refine tr_blk 2 (pc' := 109) (rows' := kb_163_106.drop 3) (loc' := [.inr (12, 0, 0, 72), .inl (.int x1), .inl (.int x2), .inl (.int (0 : Int32))]) (st' := []) (P1 := P12) rfl ⟨trivial, trivial, trivial⟩ ?_
        exact t_163_109 _ ih N x1 x2 (0 : Int32) P12
      · refine tr_icT (cd := .ne) h32 ?_
        refine tr_nil (rows2 := kb_163_96) rfl (List.cons_ne_nil _ _) ?_
        refine tr_gd (fun h7 => ?_)
        refine tr_gd (fun h8 => ?_)
        refine tr_blk 8 (pc' := 106) (rows' := kb_163_96.drop 8) (loc' := [.inr (12, 0, 0, 72), .inl (.int x1), .inl (.int x2), d3]) (st' := [.inl (.int (P.1 (549 + 1 + ((x1 + (1 : Int32))).toNatClampNeg) x2.toNatClampNeg)), .inl (.int x2), .inr (20, 256, 0, (549 + 1 + x1.toNatClampNeg))]) (P1 := P) rfl ⟨trivial, trivial, trivial, trivial, trivial, ⟨h7, ab_grl h7⟩, trivial, h8, trivial⟩ ?_
        refine tr_nil (rows2 := kb_163_106) rfl (List.cons_ne_nil _ _) ?_
        refine tr_gd (fun h9 => ?_)
        refine tr_blk 1 (pc' := 107) (rows' := kb_163_106.drop 1) (loc' := [.inr (12, 0, 0, 72), .inl (.int x1), .inl (.int x2), d3]) (st' := []) (P1 := (ab_pI P (549 + 1 + x1.toNatClampNeg) x2.toNatClampNeg (P.1 (549 + 1 + ((x1 + (1 : Int32))).toNatClampNeg) x2.toNatClampNeg))) rfl ⟨h9, trivial⟩ ?_
        refine tr_lt (fun P10 => ?_)
        refine tr_blk 2 (pc' := 109) (rows' := kb_163_106.drop 3) (loc' := [.inr (12, 0, 0, 72), .inl (.int x1), .inl (.int x2), .inl (.int (0 : Int32))]) (st' := []) (P1 := P10) rfl ⟨trivial, trivial, trivial⟩ ?_
        exact t_163_109 _ ih N x1 x2 (0 : Int32) P10
    · refine tr_icT (cd := .ge) (Int32.not_lt.mp h31) ?_
      refine tr_nil (rows2 := kb_163_211) rfl (List.cons_ne_nil _ _) ?_
      refine tr_blk 1 (pc' := 214) (rows' := kb_163_211.drop 1) (loc' := [.inr (12, 0, 0, 72), .inl (.int (x1 + (-1))), .inl (.int x2), d3]) (st' := []) (P1 := P) rfl ⟨trivial, trivial⟩ ?_
      refine tr_goto ?_
      exact hH57 (x1 + (-1)) (.inl (.int x2)) (d3) P
def f_163_57 (N : Nat) : Nat → Int32 → ab_P → Option ab_P
  | 0, _, _ => none
  | n + 1, x1, P =>
    if x1 < (0 : Int32) then
      some P
    else
    f_163_63 N (fun y0 y1 => f_163_57 N n y0 y1) N x1 (0 : Int32) P
theorem t_163_57 {xs : Nat × (Nat → Int32)} {d : Nat} (N : Nat) : ∀ n : Nat, ∀ (x1 : Int32) (d2 : ab_V) (d3 : ab_V) (P : ab_P), ab_tr xs wV (d + 8) 163 57 [] [.inr (12, 0, 0, 72), .inl (.int x1), d2, d3] [] P (f_163_57 N n x1 P) := by
  intro n
  induction n with
  | zero => intro x1 d2 d3 P; exact tr_no
  | succ n ih =>
    intro x1 d2 d3 P
    refine tr_nil (rows2 := kb_163_57) rfl (List.cons_ne_nil _ _) ?_
    refine tr_blk 1 (pc' := 58) (rows' := kb_163_57.drop 1) (loc' := [.inr (12, 0, 0, 72), .inl (.int x1), d2, d3]) (st' := [.inl (.int x1)]) (P1 := P) rfl ⟨trivial, trivial⟩ ?_
    refine tr_if (fun h33 => ?_) (fun h33 => ?_)
    · refine tr_ifT (cd := .lt) h33 ?_
      refine tr_nil (rows2 := kb_163_217) rfl (List.cons_ne_nil _ _) ?_
      exact tr_reV (z := km_163) rfl rfl rfl
    · refine tr_ifF (cd := .lt) h33 ?_
      refine tr_blk 2 (pc' := 63) (rows' := kb_163_57.drop 4) (loc' := [.inr (12, 0, 0, 72), .inl (.int x1), .inl (.int (0 : Int32)), d3]) (st' := []) (P1 := P) rfl ⟨trivial, trivial, trivial⟩ ?_
      exact t_163_63 N _ ih N x1 (0 : Int32) (d3) P
def f_163_2 (N : Nat) : Nat → Int32 → ab_P → Option ab_P
  | 0, _, _ => none
  | n + 1, x1, P =>
    if x1 < (P.1 76 0) then
      f_163_14 N (fun y0 y1 => f_163_2 N n y0 y1) N x1 (0 : Int32) P
    else
    f_163_57 N N (P.1 76 0) P
theorem t_163_2 {xs : Nat × (Nat → Int32)} {d : Nat} (N : Nat) : ∀ n : Nat, ∀ (x1 : Int32) (d2 : ab_V) (P : ab_P), ab_tr xs wV (d + 8) 163 2 [] [.inr (12, 0, 0, 72), .inl (.int x1), d2, ab_top] [] P (f_163_2 N n x1 P) := by
  intro n
  induction n with
  | zero => intro x1 d2 P; exact tr_no
  | succ n ih =>
    intro x1 d2 P
    refine tr_nil (rows2 := kb_163_2) rfl (List.cons_ne_nil _ _) ?_
    refine tr_blk 5 (pc' := 9) (rows' := kb_163_2.drop 5) (loc' := [.inr (12, 0, 0, 72), .inl (.int x1), d2, ab_top]) (st' := [.inl (.int (P.1 76 0)), .inl (.int x1)]) (P1 := P) rfl ⟨trivial, trivial, trivial, trivial, (ab_vi (by decide)), trivial⟩ ?_
    refine tr_if (fun h34 => ?_) (fun h34 => ?_)
    · refine tr_icF (cd := .ge) (Int32.not_le.mpr h34) ?_
      refine tr_blk 2 (pc' := 14) (rows' := kb_163_2.drop 8) (loc' := [.inr (12, 0, 0, 72), .inl (.int x1), .inl (.int (0 : Int32)), ab_top]) (st' := []) (P1 := P) rfl ⟨trivial, trivial, trivial⟩ ?_
      exact t_163_14 N _ ih N x1 (0 : Int32) P
    · refine tr_icT (cd := .ge) (Int32.not_lt.mp h34) ?_
      refine tr_nil (rows2 := kb_163_50) rfl (List.cons_ne_nil _ _) ?_
      refine tr_blk 5 (pc' := 57) (rows' := kb_163_50.drop 5) (loc' := [.inr (12, 0, 0, 72), .inl (.int (P.1 76 0)), d2, ab_top]) (st' := []) (P1 := P) rfl ⟨trivial, trivial, trivial, (ab_vi (by decide)), trivial, trivial⟩ ?_
      exact t_163_57 N N (P.1 76 0) (d2) (ab_top) P
def f_163 (N : Nat) (P : ab_P) : Option ab_P :=
    f_163_2 N N (0 : Int32) P
theorem t_163 {xs : Nat × (Nat → Int32)} {d : Nat} (N : Nat) : ∀ (P : ab_P), ab_tr xs wV (d + 8) 163 0 [] [.inr (12, 0, 0, 72), ab_top, ab_top, ab_top] [] P (f_163 N P) := by
  intro P
  unfold f_163
  refine tr_nil (rows2 := kb_163_0) rfl (List.cons_ne_nil _ _) ?_
  refine tr_blk 2 (pc' := 2) (rows' := kb_163_0.drop 2) (loc' := [.inr (12, 0, 0, 72), .inl (.int (0 : Int32)), ab_top, ab_top]) (st' := []) (P1 := P) rfl ⟨trivial, trivial, trivial⟩ ?_
  exact t_163_2 N N (0 : Int32) (ab_top) P
def f_47 (N : Nat) (P : ab_P) : Option (Int32 × ab_P) :=
    ab_lt (ab_pI P 72 0 (0 : Int32)) fun P1 =>
    Option.bind (f_163 N P1) fun P2 =>
    some ((P2.1 550 0), P2)
theorem t_47 {xs : Nat × (Nat → Int32)} {d : Nat} (N : Nat) : ∀ (P : ab_P), ab_tr xs wI (d + 9) 47 0 [] [.inr (12, 0, 0, 72)] [] P (f_47 N P) := by
  intro P
  unfold f_47
  refine tr_nil (rows2 := kb_47_0) rfl (List.cons_ne_nil _ _) ?_
  refine tr_blk 3 (pc' := 5) (rows' := kb_47_0.drop 3) (loc' := [.inr (12, 0, 0, 72)]) (st' := []) (P1 := (ab_pI P 72 0 (0 : Int32))) rfl ⟨trivial, trivial, trivial, trivial⟩ ?_
  refine tr_lt (fun P1 => ?_)
  refine tr_blk 1 (pc' := 6) (rows' := kb_47_0.drop 4) (loc' := [.inr (12, 0, 0, 72)]) (st' := [.inr (12, 0, 0, 72)]) (P1 := P1) rfl ⟨trivial, trivial⟩ ?_
  refine tr_cWV (z := km_163) (av := [.inr (12, 0, 0, 72)]) (st' := []) rfl rfl rfl (Nat.le_of_ble_eq_true rfl) ⟨rfl, Or.inl (by decide)⟩ rfl (Nat.le_of_ble_eq_true rfl) (t_163 N P1) (fun P2 => ?_)
  refine tr_blk 6 (pc' := 17) (rows' := kb_47_0.drop 11) (loc' := [.inr (12, 0, 0, 72)]) (st' := [.inl (.int (P2.1 550 0))]) (P1 := P2) rfl ⟨trivial, trivial, trivial, ⟨(ab_vi (by decide)), rfl⟩, trivial, (ab_vi (by decide)), trivial⟩ ?_
  exact tr_reI (z := km_47) rfl ⟨_, rfl, rfl⟩ rfl
def f_257 (P : ab_P) (a1 : Int32) : Option Int32 :=
    if a1 < (0 : Int32) then
      some (-1 : Int32)
    else
    if a1 < (8 : Int32) then
      if ab_gi a1 8 then
      some (P.1 59 a1.toNatClampNeg)
      else none
    else
    some (-1 : Int32)
theorem t_257 {xs : Nat × (Nat → Int32)} {d : Nat} (P : ab_P) : ∀ (a1 : Int32), ab_tr xs (rI P) (d + 0) 257 0 [] [.inr (1, 0, 0, 54), .inl (.int a1)] [] P (f_257 P a1) := by
  intro a1
  unfold f_257
  refine tr_nil (rows2 := kb_257_0) rfl (List.cons_ne_nil _ _) ?_
  refine tr_blk 1 (pc' := 1) (rows' := kb_257_0.drop 1) (loc' := [.inr (1, 0, 0, 54), .inl (.int a1)]) (st' := [.inl (.int a1)]) (P1 := P) rfl ⟨trivial, trivial⟩ ?_
  refine tr_if (fun h2 => ?_) (fun h2 => ?_)
  · refine tr_ifT (cd := .lt) h2 ?_
    refine tr_nil (rows2 := kb_257_19) rfl (List.cons_ne_nil _ _) ?_
    refine tr_blk 1 (pc' := 20) (rows' := kb_257_19.drop 1) (loc' := [.inr (1, 0, 0, 54), .inl (.int a1)]) (st' := [.inl (.int (-1 : Int32))]) (P1 := P) rfl ⟨trivial, trivial⟩ ?_
    refine tr_nil (rows2 := kb_257_20) rfl (List.cons_ne_nil _ _) ?_
    exact tr_reI (z := km_257) rfl ⟨_, rfl, rfl⟩ rfl
  · refine tr_ifF (cd := .lt) h2 ?_
    refine tr_blk 2 (pc' := 7) (rows' := kb_257_0.drop 4) (loc' := [.inr (1, 0, 0, 54), .inl (.int a1)]) (st' := [.inl (.int (8 : Int32)), .inl (.int a1)]) (P1 := P) rfl ⟨trivial, trivial, trivial⟩ ?_
    refine tr_if (fun h3 => ?_) (fun h3 => ?_)
    · refine tr_icF (cd := .ge) (Int32.not_le.mpr h3) ?_
      refine tr_gd (fun h1 => ?_)
      refine tr_blk 4 (pc' := 16) (rows' := kb_257_0.drop 9) (loc' := [.inr (1, 0, 0, 54), .inl (.int a1)]) (st' := [.inl (.int (P.1 59 a1.toNatClampNeg))]) (P1 := P) rfl ⟨trivial, trivial, trivial, h1, trivial⟩ ?_
      refine tr_goto ?_
      refine tr_nil (rows2 := kb_257_20) rfl (List.cons_ne_nil _ _) ?_
      exact tr_reI (z := km_257) rfl ⟨_, rfl, rfl⟩ rfl
    · refine tr_icT (cd := .ge) (Int32.not_lt.mp h3) ?_
      refine tr_nil (rows2 := kb_257_19) rfl (List.cons_ne_nil _ _) ?_
      refine tr_blk 1 (pc' := 20) (rows' := kb_257_19.drop 1) (loc' := [.inr (1, 0, 0, 54), .inl (.int a1)]) (st' := [.inl (.int (-1 : Int32))]) (P1 := P) rfl ⟨trivial, trivial⟩ ?_
      refine tr_nil (rows2 := kb_257_20) rfl (List.cons_ne_nil _ _) ?_
      exact tr_reI (z := km_257) rfl ⟨_, rfl, rfl⟩ rfl
def f_164 (N : Nat) (a1 : Int32) (P : ab_P) : Option ((Int32 ⊕ Fin 3) × ab_P) :=
    ab_x2 (f_232 a1 P) (fun _ P1 =>
    Option.bind (f_161 N P1) fun P2 =>
    Option.bind (f_257 P2 a1) fun v3 =>
    some (.inl v3, P2)) (fun q => q)
theorem t_164 {xs : Nat × (Nat → Int32)} {d : Nat} (N : Nat) : ∀ (a1 : Int32) (P : ab_P), ab_tr xs xI (d + 7) 164 0 [] [.inr (11, 0, 0, 0), .inl (.int a1)] [] P (f_164 N a1 P) := by
  intro a1 P
  unfold f_164
  refine tr_nil (rows2 := kb_164_0) rfl (List.cons_ne_nil _ _) ?_
  refine tr_blk 2 (pc' := 2) (rows' := kb_164_0.drop 2) (loc' := [.inr (11, 0, 0, 0), .inl (.int a1)]) (st' := [.inl (.int a1), .inr (11, 0, 0, 0)]) (P1 := P) rfl ⟨trivial, trivial, trivial⟩ ?_
  refine tr_cax (fun _ => none) (zi := km_164) (fun _ => rfl) (fun _ _ => rfl) rfl rfl (z := km_232) (av := [.inr (11, 0, 0, 0), .inl (.int a1)]) (st' := []) rfl rfl rfl (Nat.le_of_ble_eq_true rfl) ⟨rfl, Or.inl (by decide)⟩ rfl (Nat.le_of_ble_eq_true rfl) (t_232 a1 P) (fun _ P1 => ?_)
  refine tr_blk 2 (pc' := 9) (rows' := kb_164_0.drop 5) (loc' := [.inr (11, 0, 0, 0), .inl (.int a1)]) (st' := [.inr (1, 0, 0, 54)]) (P1 := P1) rfl ⟨trivial, trivial, trivial⟩ ?_
  refine tr_cWV (z := km_161) (av := [.inr (1, 0, 0, 54)]) (st' := []) rfl rfl rfl (Nat.le_of_ble_eq_true rfl) ⟨rfl, Or.inl (by decide)⟩ rfl (Nat.le_of_ble_eq_true rfl) (t_161 N P1) (fun P2 => ?_)
  refine tr_blk 3 (pc' := 17) (rows' := kb_164_0.drop 9) (loc' := [.inr (11, 0, 0, 0), .inl (.int a1)]) (st' := [.inl (.int a1), .inr (1, 0, 0, 54)]) (P1 := P2) rfl ⟨trivial, trivial, trivial, trivial⟩ ?_
  refine tr_cRI (z := km_257) (av := [.inr (1, 0, 0, 54), .inl (.int a1)]) (st' := []) rfl rfl rfl (Nat.le_of_ble_eq_true rfl) ⟨rfl, Or.inl (by decide)⟩ rfl (Nat.le_of_ble_eq_true rfl) (t_257 P2 a1) (fun v3 => ?_)
  exact tr_reI (z := km_164) rfl ⟨_, rfl, rfl⟩ rfl
def f_48_1 (N : Nat) (a1 : Int32) (P : ab_P) : Option (Int32 × ab_P) :=
    ab_h2 (f_164 N a1 P) (fun v2 P1 =>
    ab_lt (ab_pL P1 570 0 (v2).toInt64) fun P3 =>
    some ((0 : Int32), P3))
    (fun P9 => some ((1 : Int32), P9)) (fun _ => none) (fun _ => none)
theorem t_48_1 {xs : Nat × (Nat → Int32)} {d : Nat} (N : Nat) : ∀ (a1 : Int32) (P : ab_P), ab_tr xs wI (d + 8) 48 0 [] [.inr (11, 0, 0, 0), .inl (.int a1), .inr (22, 1, 0, 570), ab_top] [] P (f_48_1 N a1 P) := by
  intro a1 P
  unfold f_48_1
  refine tr_nil (rows2 := kb_48_0) rfl (List.cons_ne_nil _ _) ?_
  refine tr_blk 4 (pc' := 4) (rows' := kb_48_0.drop 4) (loc' := [.inr (11, 0, 0, 0), .inl (.int a1), .inr (22, 1, 0, 570), ab_top]) (st' := [.inl (.int a1), .inr (11, 0, 0, 0), .inl (.int (0 : Int32)), .inr (22, 1, 0, 570)]) (P1 := P) rfl ⟨trivial, trivial, trivial, trivial, trivial⟩ ?_
  refine tr_cah (fun b => some (.inl (.int b))) (zi := km_48) (fun _ => rfl) rfl (z := km_164) (av := [.inr (11, 0, 0, 0), .inl (.int a1)]) (st' := [.inl (.int (0 : Int32)), .inr (22, 1, 0, 570)]) rfl rfl rfl (Nat.le_of_ble_eq_true rfl) ⟨rfl, Or.inl (by decide)⟩ rfl (Nat.le_of_ble_eq_true rfl) (t_164 N a1 P) (fun v2 P1 => ?_) ?_ ?_ ?_
  · refine tr_blk 2 (pc' := 9) (rows' := kb_48_0.drop 7) (loc' := [.inr (11, 0, 0, 0), .inl (.int a1), .inr (22, 1, 0, 570), ab_top]) (st' := []) (P1 := (ab_pL P1 570 0 (v2).toInt64)) rfl ⟨trivial, (ab_vi (by decide)), trivial⟩ ?_
    refine tr_lt (fun P3 => ?_)
    refine tr_goto ?_
    refine tr_nil (rows2 := kb_48_15) rfl (List.cons_ne_nil _ _) ?_
    refine tr_blk 1 (pc' := 16) (rows' := kb_48_15.drop 1) (loc' := [.inr (11, 0, 0, 0), .inl (.int a1), .inr (22, 1, 0, 570), ab_top]) (st' := [.inl (.int (0 : Int32))]) (P1 := P3) rfl ⟨trivial, trivial⟩ ?_
    exact tr_reI (z := km_48) rfl ⟨_, rfl, rfl⟩ rfl
  · exact fun _ => tr_han (rows2 := kb_48_12) (z := km_48) _ (fun q => [.inr (11, 0, 0, 0), .inl (.int a1), .inr (22, 1, 0, 570), .inr (40, 0, 0, q)]) rfl (List.cons_ne_nil _ _) (fun q => rfl) ⟨trivial, trivial, trivial⟩ rfl ⟨_, rfl, rfl⟩ rfl
  · exact fun _ => rfl
  · exact fun _ => rfl
def f_49_77 (H40 : Int32 → Int32 → Int32 → Int32 → ab_P → Option (Int32 × ab_P)) : Nat → Int32 → Int32 → Int32 → Int32 → ab_P → Option (Int32 × ab_P)
  | 0, _, _, _, _, _ => none
  | n + 1, x1, x2, x4, x5, P =>
    if ((x2 >>> (x5 &&& 31)) &&& (1 : Int32)) = (1 : Int32) then
      f_49_77 H40 n x1 x2 x4 (x5 + 1) P
    else
    if ab_gi x4 8 then
    if ab_gi x5 8 then
    if (P.1 (559 + 1 + x4.toNatClampNeg) x5.toNatClampNeg) = (-1 : Int32) then
      f_49_77 H40 n x1 x2 x4 (x5 + 1) P
    else
    if ab_gi x4 8 then
    if ab_gi x5 8 then
    Option.bind (f_135_366 477 P (P.1 (559 + 1 + x4.toNatClampNeg) x5.toNatClampNeg) (2 : Int32)) fun v14 =>
    if ab_gi (x4 + (1 : Int32)) 9 then
    if ab_gi (x2 ||| ((1 : Int32) <<< (x5 &&& 31))) 256 then
    if ab_gi x4 9 then
    if ab_gi x2 256 then
    if (v14 + (P.1 (549 + 1 + ((x4 + (1 : Int32))).toNatClampNeg) ((x2 ||| ((1 : Int32) <<< (x5 &&& 31)))).toNatClampNeg)) = (P.1 (549 + 1 + x4.toNatClampNeg) x2.toNatClampNeg) then
      if ab_gi x4 8 then
      if ab_gi x5 8 then
      H40 x1 (x2 ||| ((1 : Int32) <<< (x5 &&& 31))) (P.1 (559 + 1 + x4.toNatClampNeg) x5.toNatClampNeg) (x4 + 1) P
      else none
      else none
    else
    f_49_77 H40 n x1 x2 x4 (x5 + 1) P
    else none
    else none
    else none
    else none
    else none
    else none
    else none
    else none
theorem t_49_77 {xs : Nat × (Nat → Int32)} {d : Nat} (H40 : Int32 → Int32 → Int32 → Int32 → ab_P → Option (Int32 × ab_P)) (hH40 : ∀ (x1 : Int32) (x2 : Int32) (x3 : Int32) (x4 : Int32) (d5 : ab_V) (P : ab_P), ab_tr xs wI (d + 9) 49 40 [] [.inr (12, 0, 0, 72), .inl (.int x1), .inl (.int x2), .inl (.int x3), .inl (.int x4), d5] [] P (H40 x1 x2 x3 x4 P)) : ∀ n : Nat, ∀ (x1 : Int32) (x2 : Int32) (x4 : Int32) (x5 : Int32) (d3 : Int32) (P : ab_P), ab_tr xs wI (d + 9) 49 77 [] [.inr (12, 0, 0, 72), .inl (.int x1), .inl (.int x2), .inl (.int d3), .inl (.int x4), .inl (.int x5)] [] P (f_49_77 H40 n x1 x2 x4 x5 P) := by
  intro n
  induction n with
  | zero => intro x1 x2 x4 x5 d3 P; exact tr_no
  | succ n ih =>
    intro x1 x2 x4 x5 d3 P
    refine tr_nil (rows2 := kb_49_77) rfl (List.cons_ne_nil _ _) ?_
    refine tr_blk 6 (pc' := 84) (rows' := kb_49_77.drop 6) (loc' := [.inr (12, 0, 0, 72), .inl (.int x1), .inl (.int x2), .inl (.int d3), .inl (.int x4), .inl (.int x5)]) (st' := [.inl (.int (1 : Int32)), .inl (.int ((x2 >>> (x5 &&& 31)) &&& (1 : Int32)))]) (P1 := P) rfl ⟨trivial, trivial, trivial, trivial, trivial, trivial, trivial⟩ ?_
    refine tr_if (fun h21 => ?_) (fun h21 => ?_)
    · refine tr_icT (cd := .eq) h21 ?_
      refine tr_nil (rows2 := kb_49_148) rfl (List.cons_ne_nil _ _) ?_
      refine tr_blk 1 (pc' := 151) (rows' := kb_49_148.drop 1) (loc' := [.inr (12, 0, 0, 72), .inl (.int x1), .inl (.int x2), .inl (.int d3), .inl (.int x4), .inl (.int (x5 + 1))]) (st' := []) (P1 := P) rfl ⟨trivial, trivial⟩ ?_
      refine tr_goto ?_
      exact ih x1 x2 x4 (x5 + 1) (d3) P
    · refine tr_icF (cd := .eq) h21 ?_
      refine tr_gd (fun h10 => ?_)
      refine tr_gd (fun h11 => ?_)
      refine tr_blk 7 (pc' := 98) (rows' := kb_49_77.drop 14) (loc' := [.inr (12, 0, 0, 72), .inl (.int x1), .inl (.int x2), .inl (.int d3), .inl (.int x4), .inl (.int x5)]) (st' := [.inl (.int (-1 : Int32)), .inl (.int (P.1 (559 + 1 + x4.toNatClampNeg) x5.toNatClampNeg))]) (P1 := P) rfl ⟨trivial, trivial, trivial, ⟨h10, ab_grl h10⟩, trivial, h11, trivial, trivial⟩ ?_
      refine tr_if (fun h22 => ?_) (fun h22 => ?_)
      · refine tr_icT (cd := .eq) h22 ?_
        refine tr_nil (rows2 := kb_49_148) rfl (List.cons_ne_nil _ _) ?_
        refine tr_blk 1 (pc' := 151) (rows' := kb_49_148.drop 1) (loc' := [.inr (12, 0, 0, 72), .inl (.int x1), .inl (.int x2), .inl (.int d3), .inl (.int x4), .inl (.int (x5 + 1))]) (st' := []) (P1 := P) rfl ⟨trivial, trivial⟩ ?_
        refine tr_goto ?_
        exact ih x1 x2 x4 (x5 + 1) (d3) P
      · refine tr_icF (cd := .eq) h22 ?_
        refine tr_gd (fun h12 => ?_)
        refine tr_gd (fun h13 => ?_)
        refine tr_blk 9 (pc' := 116) (rows' := kb_49_77.drop 24) (loc' := [.inr (12, 0, 0, 72), .inl (.int x1), .inl (.int x2), .inl (.int d3), .inl (.int x4), .inl (.int x5)]) (st' := [.inl (.int (2 : Int32)), .inl (.int (P.1 (559 + 1 + x4.toNatClampNeg) x5.toNatClampNeg)), .inr (20, 366, 0, 477)]) (P1 := P) rfl ⟨trivial, trivial, trivial, trivial, trivial, ⟨h12, ab_grl h12⟩, trivial, h13, trivial, trivial⟩ ?_
        refine tr_cRI (z := km_135) (av := [.inr (20, 366, 0, 477), .inl (.int (P.1 (559 + 1 + x4.toNatClampNeg) x5.toNatClampNeg)), .inl (.int (2 : Int32))]) (st' := []) rfl rfl rfl (Nat.le_of_ble_eq_true rfl) trivial rfl (Nat.le_of_ble_eq_true rfl) (t_135_366 477 P (P.1 (559 + 1 + x4.toNatClampNeg) x5.toNatClampNeg) (2 : Int32)) (fun v14 => ?_)
        refine tr_gd (fun h15 => ?_)
        refine tr_gd (fun h16 => ?_)
        refine tr_gd (fun h17 => ?_)
        refine tr_gd (fun h18 => ?_)
        refine tr_blk 19 (pc' := 145) (rows' := kb_49_77.drop 44) (loc' := [.inr (12, 0, 0, 72), .inl (.int x1), .inl (.int x2), .inl (.int d3), .inl (.int x4), .inl (.int x5)]) (st' := [.inl (.int (P.1 (549 + 1 + x4.toNatClampNeg) x2.toNatClampNeg)), .inl (.int (v14 + (P.1 (549 + 1 + ((x4 + (1 : Int32))).toNatClampNeg) ((x2 ||| ((1 : Int32) <<< (x5 &&& 31)))).toNatClampNeg)))]) (P1 := P) rfl ⟨trivial, trivial, trivial, trivial, trivial, ⟨h15, ab_grl h15⟩, trivial, trivial, trivial, trivial, trivial, h16, trivial, trivial, trivial, trivial, ⟨h17, ab_grl h17⟩, trivial, h18, trivial⟩ ?_
        refine tr_if (fun h23 => ?_) (fun h23 => ?_)
        · refine tr_icT (cd := .eq) h23 ?_
          refine tr_nil (rows2 := kb_49_154) rfl (List.cons_ne_nil _ _) ?_
          refine tr_gd (fun h19 => ?_)
          refine tr_gd (fun h20 => ?_)
          refine tr_blk 13 (pc' := 172) (rows' := kb_49_154.drop 13) (loc' := [.inr (12, 0, 0, 72), .inl (.int x1), .inl (.int (x2 ||| ((1 : Int32) <<< (x5 &&& 31)))), .inl (.int (P.1 (559 + 1 + x4.toNatClampNeg) x5.toNatClampNeg)), .inl (.int x4), .inl (.int x5)]) (st' := []) (P1 := P) rfl ⟨trivial, trivial, trivial, ⟨h19, ab_grl h19⟩, trivial, h20, trivial, trivial, trivial, trivial, trivial, trivial, trivial, trivial⟩ ?_
          refine tr_nil (rows2 := kb_49_172) rfl (List.cons_ne_nil _ _) ?_
          refine tr_blk 1 (pc' := 175) (rows' := kb_49_172.drop 1) (loc' := [.inr (12, 0, 0, 72), .inl (.int x1), .inl (.int (x2 ||| ((1 : Int32) <<< (x5 &&& 31)))), .inl (.int (P.1 (559 + 1 + x4.toNatClampNeg) x5.toNatClampNeg)), .inl (.int (x4 + 1)), .inl (.int x5)]) (st' := []) (P1 := P) rfl ⟨trivial, trivial⟩ ?_
          refine tr_goto ?_
          exact hH40 x1 (x2 ||| ((1 : Int32) <<< (x5 &&& 31))) (P.1 (559 + 1 + x4.toNatClampNeg) x5.toNatClampNeg) (x4 + 1) (.inl (.int x5)) P
        · refine tr_icF (cd := .eq) h23 ?_
          refine tr_nil (rows2 := kb_49_148) rfl (List.cons_ne_nil _ _) ?_
          refine tr_blk 1 (pc' := 151) (rows' := kb_49_148.drop 1) (loc' := [.inr (12, 0, 0, 72), .inl (.int x1), .inl (.int x2), .inl (.int d3), .inl (.int x4), .inl (.int (x5 + 1))]) (st' := []) (P1 := P) rfl ⟨trivial, trivial⟩ ?_
          refine tr_goto ?_
          exact ih x1 x2 x4 (x5 + 1) (d3) P
def f_49_40 (N : Nat) : Nat → Int32 → Int32 → Int32 → Int32 → ab_P → Option (Int32 × ab_P)
  | 0, _, _, _, _, _ => none
  | n + 1, x1, x2, x3, x4, P =>
    if x1 < x4 then
      some (x3, P)
    else
    if ab_gi (x4 + (1 : Int32)) 9 then
    if ab_gi x2 256 then
    if ab_gi x4 9 then
    if ab_gi x2 256 then
    if (P.1 (549 + 1 + ((x4 + (1 : Int32))).toNatClampNeg) x2.toNatClampNeg) = (P.1 (549 + 1 + x4.toNatClampNeg) x2.toNatClampNeg) then
      f_49_40 N n x1 x2 (-1 : Int32) (x4 + 1) P
    else
    f_49_77 (fun y0 y1 y2 y3 y4 => f_49_40 N n y0 y1 y2 y3 y4) N x1 x2 x4 (0 : Int32) P
    else none
    else none
    else none
    else none
theorem t_49_40 {xs : Nat × (Nat → Int32)} {d : Nat} (N : Nat) : ∀ n : Nat, ∀ (x1 : Int32) (x2 : Int32) (x3 : Int32) (x4 : Int32) (d5 : ab_V) (P : ab_P), ab_tr xs wI (d + 9) 49 40 [] [.inr (12, 0, 0, 72), .inl (.int x1), .inl (.int x2), .inl (.int x3), .inl (.int x4), d5] [] P (f_49_40 N n x1 x2 x3 x4 P) := by
  intro n
  induction n with
  | zero => intro x1 x2 x3 x4 d5 P; exact tr_no
  | succ n ih =>
    intro x1 x2 x3 x4 d5 P
    refine tr_nil (rows2 := kb_49_40) rfl (List.cons_ne_nil _ _) ?_
    refine tr_blk 2 (pc' := 43) (rows' := kb_49_40.drop 2) (loc' := [.inr (12, 0, 0, 72), .inl (.int x1), .inl (.int x2), .inl (.int x3), .inl (.int x4), d5]) (st' := [.inl (.int x1), .inl (.int x4)]) (P1 := P) rfl ⟨trivial, trivial, trivial⟩ ?_
    refine tr_if (fun h24 => ?_) (fun h24 => ?_)
    · refine tr_icT (cd := .gt) h24 ?_
      refine tr_nil (rows2 := kb_49_178) rfl (List.cons_ne_nil _ _) ?_
      refine tr_blk 1 (pc' := 179) (rows' := kb_49_178.drop 1) (loc' := [.inr (12, 0, 0, 72), .inl (.int x1), .inl (.int x2), .inl (.int x3), .inl (.int x4), d5]) (st' := [.inl (.int x3)]) (P1 := P) rfl ⟨trivial, trivial⟩ ?_
      exact tr_reI (z := km_49) rfl ⟨_, rfl, rfl⟩ rfl
    · refine tr_icF (cd := .gt) h24 ?_
      refine tr_gd (fun h6 => ?_)
      refine tr_gd (fun h7 => ?_)
      refine tr_gd (fun h8 => ?_)
      refine tr_gd (fun h9 => ?_)
      refine tr_blk 16 (pc' := 68) (rows' := kb_49_40.drop 19) (loc' := [.inr (12, 0, 0, 72), .inl (.int x1), .inl (.int x2), .inl (.int (-1 : Int32)), .inl (.int x4), d5]) (st' := [.inl (.int (P.1 (549 + 1 + x4.toNatClampNeg) x2.toNatClampNeg)), .inl (.int (P.1 (549 + 1 + ((x4 + (1 : Int32))).toNatClampNeg) x2.toNatClampNeg))]) (P1 := P) rfl ⟨trivial, trivial, trivial, trivial, trivial, trivial, trivial, ⟨h6, ab_grl h6⟩, trivial, h7, trivial, trivial, trivial, ⟨h8, ab_grl h8⟩, trivial, h9, trivial⟩ ?_
      refine tr_if (fun h25 => ?_) (fun h25 => ?_)
      · refine tr_icF (cd := .ne) (fun q => q h25) ?_
        refine tr_goto ?_
        refine tr_nil (rows2 := kb_49_172) rfl (List.cons_ne_nil _ _) ?_
        refine tr_blk 1 (pc' := 175) (rows' := kb_49_172.drop 1) (loc' := [.inr (12, 0, 0, 72), .inl (.int x1), .inl (.int x2), .inl (.int (-1 : Int32)), .inl (.int (x4 + 1)), d5]) (st' := []) (P1 := P) rfl ⟨trivial, trivial⟩ ?_
        refine tr_goto ?_
        exact ih x1 x2 (-1 : Int32) (x4 + 1) (d5) P
      · refine tr_icT (cd := .ne) h25 ?_
        refine tr_nil (rows2 := kb_49_74) rfl (List.cons_ne_nil _ _) ?_
        refine tr_blk 2 (pc' := 77) (rows' := kb_49_74.drop 2) (loc' := [.inr (12, 0, 0, 72), .inl (.int x1), .inl (.int x2), .inl (.int (-1 : Int32)), .inl (.int x4), .inl (.int (0 : Int32))]) (st' := []) (P1 := P) rfl ⟨trivial, trivial, trivial⟩ ?_
        exact t_49_77 _ ih N x1 x2 x4 (0 : Int32) ((-1 : Int32)) P
def f_49_19 (N : Nat) (x1 : Int32) (s0 : Int32) (P : ab_P) : Option (Int32 × ab_P) :=
    ab_b2 (f_113 s0 (1 : Int32) (0 : Int32) P) fun v4 P3 =>
    if v4 = (0 : Int32) then
      Option.bind (f_163 N P3) fun P5 =>
      f_49_40 N N x1 (0 : Int32) (-1 : Int32) (0 : Int32) P5
    else
    some ((0 : Int32), P3)
theorem t_49_19 {xs : Nat × (Nat → Int32)} {d : Nat} (N : Nat) : ∀ (x1 : Int32) (s0 : Int32) (P : ab_P), ab_tr xs wI (d + 9) 49 19 [] [.inr (12, 0, 0, 72), .inl (.int x1), ab_top, ab_top, ab_top, ab_top] [.inl (.int s0), .inr (12, 0, 0, 72)] P (f_49_19 N x1 s0 P) := by
  intro x1 s0 P
  unfold f_49_19
  refine tr_nil (rows2 := kb_49_19) rfl (List.cons_ne_nil _ _) ?_
  refine tr_blk 2 (pc' := 21) (rows' := kb_49_19.drop 2) (loc' := [.inr (12, 0, 0, 72), .inl (.int x1), ab_top, ab_top, ab_top, ab_top]) (st' := [.inl (.int (0 : Int32)), .inl (.int (1 : Int32)), .inl (.int s0), .inr (12, 0, 0, 72)]) (P1 := P) rfl ⟨trivial, trivial, trivial⟩ ?_
  refine tr_cWI (z := km_113) (av := [.inr (12, 0, 0, 72), .inl (.int s0), .inl (.int (1 : Int32)), .inl (.int (0 : Int32))]) (st' := []) rfl rfl rfl (Nat.le_of_ble_eq_true rfl) ⟨rfl, Or.inl (by decide)⟩ rfl (Nat.le_of_ble_eq_true rfl) (t_113 s0 (1 : Int32) (0 : Int32) P) (fun v4 P3 => ?_)
  refine tr_if (fun h26 => ?_) (fun h26 => ?_)
  · refine tr_ifT (cd := .eq) h26 ?_
    refine tr_nil (rows2 := kb_49_29) rfl (List.cons_ne_nil _ _) ?_
    refine tr_blk 1 (pc' := 30) (rows' := kb_49_29.drop 1) (loc' := [.inr (12, 0, 0, 72), .inl (.int x1), ab_top, ab_top, ab_top, ab_top]) (st' := [.inr (12, 0, 0, 72)]) (P1 := P3) rfl ⟨trivial, trivial⟩ ?_
    refine tr_cWV (z := km_163) (av := [.inr (12, 0, 0, 72)]) (st' := []) rfl rfl rfl (Nat.le_of_ble_eq_true rfl) ⟨rfl, Or.inl (by decide)⟩ rfl (Nat.le_of_ble_eq_true rfl) (t_163 N P3) (fun P5 => ?_)
    refine tr_blk 6 (pc' := 40) (rows' := kb_49_29.drop 8) (loc' := [.inr (12, 0, 0, 72), .inl (.int x1), .inl (.int (0 : Int32)), .inl (.int (-1 : Int32)), .inl (.int (0 : Int32)), ab_top]) (st' := []) (P1 := P5) rfl ⟨trivial, trivial, trivial, trivial, trivial, trivial, trivial⟩ ?_
    exact t_49_40 N N x1 (0 : Int32) (-1 : Int32) (0 : Int32) (ab_top) P5
  · refine tr_ifF (cd := .eq) h26 ?_
    refine tr_blk 1 (pc' := 28) (rows' := kb_49_19.drop 5) (loc' := [.inr (12, 0, 0, 72), .inl (.int x1), ab_top, ab_top, ab_top, ab_top]) (st' := [.inl (.int (0 : Int32))]) (P1 := P3) rfl ⟨trivial, trivial⟩ ?_
    exact tr_reI (z := km_49) rfl ⟨_, rfl, rfl⟩ rfl
def f_49 (N : Nat) (a1 : Int32) (P : ab_P) : Option (Int32 × ab_P) :=
    ab_lt (ab_pI P 72 0 (0 : Int32)) fun P1 =>
    Option.bind (f_137 P1 a1) fun v2 =>
    if v2 = (0 : Int32) then
      f_49_19 N a1 (1 : Int32) P1
    else
    f_49_19 N a1 (0 : Int32) P1
theorem t_49 {xs : Nat × (Nat → Int32)} {d : Nat} (N : Nat) : ∀ (a1 : Int32) (P : ab_P), ab_tr xs wI (d + 9) 49 0 [] [.inr (12, 0, 0, 72), .inl (.int a1), ab_top, ab_top, ab_top, ab_top] [] P (f_49 N a1 P) := by
  intro a1 P
  unfold f_49
  refine tr_nil (rows2 := kb_49_0) rfl (List.cons_ne_nil _ _) ?_
  refine tr_blk 3 (pc' := 5) (rows' := kb_49_0.drop 3) (loc' := [.inr (12, 0, 0, 72), .inl (.int a1), ab_top, ab_top, ab_top, ab_top]) (st' := []) (P1 := (ab_pI P 72 0 (0 : Int32))) rfl ⟨trivial, trivial, trivial, trivial⟩ ?_
  refine tr_lt (fun P1 => ?_)
  refine tr_blk 3 (pc' := 8) (rows' := kb_49_0.drop 6) (loc' := [.inr (12, 0, 0, 72), .inl (.int a1), ab_top, ab_top, ab_top, ab_top]) (st' := [.inl (.int a1), .inr (12, 0, 0, 72), .inr (12, 0, 0, 72)]) (P1 := P1) rfl ⟨trivial, trivial, trivial, trivial⟩ ?_
  refine tr_cRI (z := km_137) (av := [.inr (12, 0, 0, 72), .inl (.int a1)]) (st' := [.inr (12, 0, 0, 72)]) rfl rfl rfl (Nat.le_of_ble_eq_true rfl) ⟨rfl, Or.inl (by decide)⟩ rfl (Nat.le_of_ble_eq_true rfl) (t_137 P1 a1) (fun v2 => ?_)
  refine tr_if (fun h27 => ?_) (fun h27 => ?_)
  · refine tr_ifF (cd := .ne) (fun q => q h27) ?_
    refine tr_blk 1 (pc' := 15) (rows' := kb_49_0.drop 9) (loc' := [.inr (12, 0, 0, 72), .inl (.int a1), ab_top, ab_top, ab_top, ab_top]) (st' := [.inl (.int (1 : Int32)), .inr (12, 0, 0, 72)]) (P1 := P1) rfl ⟨trivial, trivial⟩ ?_
    refine tr_goto ?_
    exact t_49_19 N a1 (1 : Int32) P1
  · refine tr_ifT (cd := .ne) h27 ?_
    refine tr_nil (rows2 := kb_49_18) rfl (List.cons_ne_nil _ _) ?_
    refine tr_blk 1 (pc' := 19) (rows' := kb_49_18.drop 1) (loc' := [.inr (12, 0, 0, 72), .inl (.int a1), ab_top, ab_top, ab_top, ab_top]) (st' := [.inl (.int (0 : Int32)), .inr (12, 0, 0, 72)]) (P1 := P1) rfl ⟨trivial, trivial⟩ ?_
    exact t_49_19 N a1 (0 : Int32) P1
def f_258 (a1 : Int32) (P : ab_P) : Option ((Unit ⊕ Fin 3) × ab_P) :=
    if a1 = (0 : Int32) then
      ab_lt (ab_pI P 71 2 ((P.1 71 2) + (1 : Int32))) fun P1 =>
      some (.inr 2, ab_ex P1)
    else
    some (.inl (), P)
theorem t_258 {xs : Nat × (Nat → Int32)} {d : Nat} : ∀ (a1 : Int32) (P : ab_P), ab_tr xs xV (d + 0) 258 0 [] [.inr (11, 0, 0, 0), .inl (.int a1)] [] P (f_258 a1 P) := by
  intro a1 P
  unfold f_258
  refine tr_nil (rows2 := kb_258_0) rfl (List.cons_ne_nil _ _) ?_
  refine tr_blk 1 (pc' := 1) (rows' := kb_258_0.drop 1) (loc' := [.inr (11, 0, 0, 0), .inl (.int a1)]) (st' := [.inl (.int a1)]) (P1 := P) rfl ⟨trivial, trivial⟩ ?_
  refine tr_if (fun h2 => ?_) (fun h2 => ?_)
  · refine tr_ifF (cd := .ne) (fun q => q h2) ?_
    refine tr_blk 8 (pc' := 14) (rows' := kb_258_0.drop 10) (loc' := [.inr (11, 0, 0, 0), .inl (.int a1)]) (st' := []) (P1 := (ab_pI P 71 2 ((P.1 71 2) + (1 : Int32)))) rfl ⟨trivial, trivial, trivial, trivial, (ab_vi (by decide)), trivial, trivial, (ab_vi (by decide)), trivial⟩ ?_
    refine tr_lt (fun P1 => ?_)
    exact tr_thr (z := km_258) rfl rfl rfl
  · refine tr_ifT (cd := .ne) h2 ?_
    refine tr_nil (rows2 := kb_258_25) rfl (List.cons_ne_nil _ _) ?_
    exact tr_reV (z := km_258) rfl rfl rfl
def f_311_7 (i0 : Nat) (i1 : Nat) : Nat → Int32 → ab_P → Option ab_P
  | 0, _, _ => none
  | n + 1, x2, P =>
    if x2 < (P.1 i1 2) then
      Option.bind (f_263 i1 P x2) fun v2 =>
      if v2 = (0 : Int32) then
        f_311_7 i0 i1 n (x2 + 1) P
      else
      if (P.1 i0 7) < (16 : Int32) then
        if ab_gi (P.1 i0 7) 16 then
        ab_lt (ab_pI P (i0 + 3) ((P.1 i0 7)).toNatClampNeg x2) fun P4 =>
        Option.bind (f_231 i1 P4 (0 : Int32) x2) fun v5 =>
        if ab_gi (P4.1 i0 7) 16 then
        ab_lt (ab_pI P4 (i0 + 4) ((P4.1 i0 7)).toNatClampNeg v5) fun P7 =>
        Option.bind (f_231 i1 P7 (1 : Int32) x2) fun v8 =>
        if ab_gi (P7.1 i0 7) 16 then
        ab_lt (ab_pI P7 (i0 + 5) ((P7.1 i0 7)).toNatClampNeg v8) fun P10 =>
        Option.bind (f_231 i1 P10 (2 : Int32) x2) fun v11 =>
        if ab_gi (P10.1 i0 7) 16 then
        ab_lt (ab_pI P10 (i0 + 6) ((P10.1 i0 7)).toNatClampNeg v11) fun P13 =>
        ab_lt (ab_pI P13 i0 7 ((P13.1 i0 7) + (1 : Int32))) fun P14 =>
        f_311_7 i0 i1 n (x2 + 1) P14
        else none
        else none
        else none
        else none
      else
      f_311_7 i0 i1 n (x2 + 1) P
    else
    some P
theorem t_311_7 {xs : Nat × (Nat → Int32)} {d : Nat} (i0 : Nat) (i1 : Nat) : ∀ n : Nat, ∀ (x2 : Int32) (P : ab_P), ab_tr xs wV (d + 2) 311 7 [] [.inr (0, 0, 0, i0), .inr (6, 0, 0, i1), .inl (.int x2)] [] P (f_311_7 i0 i1 n x2 P) := by
  intro n
  induction n with
  | zero => intro x2 P; exact tr_no
  | succ n ih =>
    intro x2 P
    refine tr_nil (rows2 := kb_311_7) rfl (List.cons_ne_nil _ _) ?_
    refine tr_blk 3 (pc' := 12) (rows' := kb_311_7.drop 3) (loc' := [.inr (0, 0, 0, i0), .inr (6, 0, 0, i1), .inl (.int x2)]) (st' := [.inl (.int (P.1 i1 2)), .inl (.int x2)]) (P1 := P) rfl ⟨trivial, trivial, trivial, trivial⟩ ?_
    refine tr_if (fun h15 => ?_) (fun h15 => ?_)
    · refine tr_icF (cd := .ge) (Int32.not_le.mpr h15) ?_
      refine tr_blk 2 (pc' := 17) (rows' := kb_311_7.drop 6) (loc' := [.inr (0, 0, 0, i0), .inr (6, 0, 0, i1), .inl (.int x2)]) (st' := [.inl (.int x2), .inr (6, 0, 0, i1)]) (P1 := P) rfl ⟨trivial, trivial, trivial⟩ ?_
      refine tr_cRI (z := km_263) (av := [.inr (6, 0, 0, i1), .inl (.int x2)]) (st' := []) rfl rfl rfl (Nat.le_of_ble_eq_true rfl) ⟨rfl, Or.inl (by decide)⟩ rfl (Nat.le_of_ble_eq_true rfl) (t_263 i1 P x2) (fun v2 => ?_)
      refine tr_if (fun h16 => ?_) (fun h16 => ?_)
      · refine tr_ifT (cd := .eq) h16 ?_
        refine tr_nil (rows2 := kb_311_97) rfl (List.cons_ne_nil _ _) ?_
        refine tr_blk 1 (pc' := 100) (rows' := kb_311_97.drop 1) (loc' := [.inr (0, 0, 0, i0), .inr (6, 0, 0, i1), .inl (.int (x2 + 1))]) (st' := []) (P1 := P) rfl ⟨trivial, trivial⟩ ?_
        refine tr_goto ?_
        exact ih (x2 + 1) P
      · refine tr_ifF (cd := .eq) h16 ?_
        refine tr_blk 3 (pc' := 29) (rows' := kb_311_7.drop 11) (loc' := [.inr (0, 0, 0, i0), .inr (6, 0, 0, i1), .inl (.int x2)]) (st' := [.inl (.int (16 : Int32)), .inl (.int (P.1 i0 7))]) (P1 := P) rfl ⟨trivial, trivial, trivial, trivial⟩ ?_
        refine tr_if (fun h17 => ?_) (fun h17 => ?_)
        · refine tr_icF (cd := .ge) (Int32.not_le.mpr h17) ?_
          refine tr_gd (fun h3 => ?_)
          refine tr_blk 6 (pc' := 42) (rows' := kb_311_7.drop 18) (loc' := [.inr (0, 0, 0, i0), .inr (6, 0, 0, i1), .inl (.int x2)]) (st' := []) (P1 := (ab_pI P (i0 + 3) ((P.1 i0 7)).toNatClampNeg x2)) rfl ⟨trivial, trivial, trivial, trivial, trivial, h3, trivial⟩ ?_
          refine tr_lt (fun P4 => ?_)
          refine tr_blk 7 (pc' := 53) (rows' := kb_311_7.drop 25) (loc' := [.inr (0, 0, 0, i0), .inr (6, 0, 0, i1), .inl (.int x2)]) (st' := [.inl (.int x2), .inl (.int (0 : Int32)), .inr (6, 0, 0, i1), .inl (.int (P4.1 i0 7)), .inr (20, 16, 0, (i0 + 4))]) (P1 := P4) rfl ⟨trivial, trivial, trivial, trivial, trivial, trivial, trivial, trivial⟩ ?_
          refine tr_cRI (z := km_231) (av := [.inr (6, 0, 0, i1), .inl (.int (0 : Int32)), .inl (.int x2)]) (st' := [.inl (.int (P4.1 i0 7)), .inr (20, 16, 0, (i0 + 4))]) rfl rfl rfl (Nat.le_of_ble_eq_true rfl) ⟨rfl, Or.inl (by decide)⟩ rfl (Nat.le_of_ble_eq_true rfl) (t_231 i1 P4 (0 : Int32) x2) (fun v5 => ?_)
          refine tr_gd (fun h6 => ?_)
          refine tr_blk 1 (pc' := 57) (rows' := kb_311_7.drop 27) (loc' := [.inr (0, 0, 0, i0), .inr (6, 0, 0, i1), .inl (.int x2)]) (st' := []) (P1 := (ab_pI P4 (i0 + 4) ((P4.1 i0 7)).toNatClampNeg v5)) rfl ⟨h6, trivial⟩ ?_
          refine tr_lt (fun P7 => ?_)
          refine tr_blk 7 (pc' := 68) (rows' := kb_311_7.drop 34) (loc' := [.inr (0, 0, 0, i0), .inr (6, 0, 0, i1), .inl (.int x2)]) (st' := [.inl (.int x2), .inl (.int (1 : Int32)), .inr (6, 0, 0, i1), .inl (.int (P7.1 i0 7)), .inr (20, 16, 0, (i0 + 5))]) (P1 := P7) rfl ⟨trivial, trivial, trivial, trivial, trivial, trivial, trivial, trivial⟩ ?_
          refine tr_cRI (z := km_231) (av := [.inr (6, 0, 0, i1), .inl (.int (1 : Int32)), .inl (.int x2)]) (st' := [.inl (.int (P7.1 i0 7)), .inr (20, 16, 0, (i0 + 5))]) rfl rfl rfl (Nat.le_of_ble_eq_true rfl) ⟨rfl, Or.inl (by decide)⟩ rfl (Nat.le_of_ble_eq_true rfl) (t_231 i1 P7 (1 : Int32) x2) (fun v8 => ?_)
          refine tr_gd (fun h9 => ?_)
          refine tr_blk 1 (pc' := 72) (rows' := kb_311_7.drop 36) (loc' := [.inr (0, 0, 0, i0), .inr (6, 0, 0, i1), .inl (.int x2)]) (st' := []) (P1 := (ab_pI P7 (i0 + 5) ((P7.1 i0 7)).toNatClampNeg v8)) rfl ⟨h9, trivial⟩ ?_
          refine tr_lt (fun P10 => ?_)
          refine tr_blk 7 (pc' := 83) (rows' := kb_311_7.drop 43) (loc' := [.inr (0, 0, 0, i0), .inr (6, 0, 0, i1), .inl (.int x2)]) (st' := [.inl (.int x2), .inl (.int (2 : Int32)), .inr (6, 0, 0, i1), .inl (.int (P10.1 i0 7)), .inr (20, 16, 0, (i0 + 6))]) (P1 := P10) rfl ⟨trivial, trivial, trivial, trivial, trivial, trivial, trivial, trivial⟩ ?_
          refine tr_cRI (z := km_231) (av := [.inr (6, 0, 0, i1), .inl (.int (2 : Int32)), .inl (.int x2)]) (st' := [.inl (.int (P10.1 i0 7)), .inr (20, 16, 0, (i0 + 6))]) rfl rfl rfl (Nat.le_of_ble_eq_true rfl) ⟨rfl, Or.inl (by decide)⟩ rfl (Nat.le_of_ble_eq_true rfl) (t_231 i1 P10 (2 : Int32) x2) (fun v11 => ?_)
          refine tr_gd (fun h12 => ?_)
          refine tr_blk 1 (pc' := 87) (rows' := kb_311_7.drop 45) (loc' := [.inr (0, 0, 0, i0), .inr (6, 0, 0, i1), .inl (.int x2)]) (st' := []) (P1 := (ab_pI P10 (i0 + 6) ((P10.1 i0 7)).toNatClampNeg v11)) rfl ⟨h12, trivial⟩ ?_
          refine tr_lt (fun P13 => ?_)
          refine tr_blk 6 (pc' := 97) (rows' := kb_311_7.drop 51) (loc' := [.inr (0, 0, 0, i0), .inr (6, 0, 0, i1), .inl (.int x2)]) (st' := []) (P1 := (ab_pI P13 i0 7 ((P13.1 i0 7) + (1 : Int32)))) rfl ⟨trivial, trivial, trivial, trivial, trivial, trivial, trivial⟩ ?_
          refine tr_lt (fun P14 => ?_)
          refine tr_nil (rows2 := kb_311_97) rfl (List.cons_ne_nil _ _) ?_
          refine tr_blk 1 (pc' := 100) (rows' := kb_311_97.drop 1) (loc' := [.inr (0, 0, 0, i0), .inr (6, 0, 0, i1), .inl (.int (x2 + 1))]) (st' := []) (P1 := P14) rfl ⟨trivial, trivial⟩ ?_
          refine tr_goto ?_
          exact ih (x2 + 1) P14
        · refine tr_icT (cd := .ge) (Int32.not_lt.mp h17) ?_
          refine tr_nil (rows2 := kb_311_97) rfl (List.cons_ne_nil _ _) ?_
          refine tr_blk 1 (pc' := 100) (rows' := kb_311_97.drop 1) (loc' := [.inr (0, 0, 0, i0), .inr (6, 0, 0, i1), .inl (.int (x2 + 1))]) (st' := []) (P1 := P) rfl ⟨trivial, trivial⟩ ?_
          refine tr_goto ?_
          exact ih (x2 + 1) P
    · refine tr_icT (cd := .ge) (Int32.not_lt.mp h15) ?_
      refine tr_nil (rows2 := kb_311_103) rfl (List.cons_ne_nil _ _) ?_
      exact tr_reV (z := km_311) rfl rfl rfl
def f_311 (i0 : Nat) (i1 : Nat) (N : Nat) (P : ab_P) : Option ab_P :=
    ab_lt (ab_pI P i0 7 (0 : Int32)) fun P1 =>
    f_311_7 i0 i1 N (0 : Int32) P1
theorem t_311 {xs : Nat × (Nat → Int32)} {d : Nat} (i0 : Nat) (i1 : Nat) (N : Nat) : ∀ (P : ab_P), ab_tr xs wV (d + 2) 311 0 [] [.inr (0, 0, 0, i0), .inr (6, 0, 0, i1), ab_top] [] P (f_311 i0 i1 N P) := by
  intro P
  unfold f_311
  refine tr_nil (rows2 := kb_311_0) rfl (List.cons_ne_nil _ _) ?_
  refine tr_blk 3 (pc' := 5) (rows' := kb_311_0.drop 3) (loc' := [.inr (0, 0, 0, i0), .inr (6, 0, 0, i1), ab_top]) (st' := []) (P1 := (ab_pI P i0 7 (0 : Int32))) rfl ⟨trivial, trivial, trivial, trivial⟩ ?_
  refine tr_lt (fun P1 => ?_)
  refine tr_blk 2 (pc' := 7) (rows' := kb_311_0.drop 5) (loc' := [.inr (0, 0, 0, i0), .inr (6, 0, 0, i1), .inl (.int (0 : Int32))]) (st' := []) (P1 := P1) rfl ⟨trivial, trivial, trivial⟩ ?_
  exact t_311_7 i0 i1 N (0 : Int32) P1
def f_312_31 (i0 : Nat) (i1 : Nat) (N : Nat) : Nat → Int32 → ab_P → Option (Int32 × ab_P)
  | 0, _, _ => none
  | n + 1, x2, P =>
    if x2 < (P.1 i0 2) then
      if x2 < (8 : Int32) then
        if ab_gi x2 8 then
        if (P.1 (i0 + 1) x2.toNatClampNeg) < (0 : Int32) then
          some ((0 : Int32), P)
        else
        if (P.1 (i0 + 1) x2.toNatClampNeg) < (8 : Int32) then
          Option.bind (f_186 i1 N P (P.1 (i0 + 1) x2.toNatClampNeg) (0 : Int32)) fun v5 =>
          if ab_gi x2 8 then
          if ab_gi (P.1 (i0 + 1) x2.toNatClampNeg) 8 then
          if (P.1 (i0 + 7) ((P.1 (i0 + 1) x2.toNatClampNeg)).toNatClampNeg) = (0 : Int32) then
            if ab_gi (P.1 (i0 + 1) x2.toNatClampNeg) 8 then
            ab_lt (ab_pI P (i0 + 7) ((P.1 (i0 + 1) x2.toNatClampNeg)).toNatClampNeg (1 : Int32)) fun P9 =>
            if ab_gi (P.1 (i0 + 1) x2.toNatClampNeg) 8 then
            ab_lt (ab_pI P9 (i0 + 8) ((P.1 (i0 + 1) x2.toNatClampNeg)).toNatClampNeg (v5 - (P.1 (i0 + 2) x2.toNatClampNeg))) fun P11 =>
            f_312_31 i0 i1 N n (x2 + 1) P11
            else none
            else none
          else
          if ab_gi (P.1 (i0 + 1) x2.toNatClampNeg) 8 then
          if (P.1 (i0 + 8) ((P.1 (i0 + 1) x2.toNatClampNeg)).toNatClampNeg) = (v5 - (P.1 (i0 + 2) x2.toNatClampNeg)) then
            if ab_gi (P.1 (i0 + 1) x2.toNatClampNeg) 8 then
            ab_lt (ab_pI P (i0 + 7) ((P.1 (i0 + 1) x2.toNatClampNeg)).toNatClampNeg (1 : Int32)) fun P14 =>
            if ab_gi (P.1 (i0 + 1) x2.toNatClampNeg) 8 then
            ab_lt (ab_pI P14 (i0 + 8) ((P.1 (i0 + 1) x2.toNatClampNeg)).toNatClampNeg (v5 - (P.1 (i0 + 2) x2.toNatClampNeg))) fun P16 =>
            f_312_31 i0 i1 N n (x2 + 1) P16
            else none
            else none
          else
          some ((0 : Int32), P)
          else none
          else none
          else none
        else
        some ((0 : Int32), P)
        else none
      else
      some ((1 : Int32), P)
    else
    some ((1 : Int32), P)
theorem t_312_31 {xs : Nat × (Nat → Int32)} {d : Nat} (i0 : Nat) (i1 : Nat) (N : Nat) : ∀ n : Nat, ∀ (x2 : Int32) (d3 : ab_V) (d4 : ab_V) (P : ab_P), ab_tr xs wI (d + 3) 312 31 [] [.inr (0, 0, 0, i0), .inr (6, 0, 0, i1), .inl (.int x2), d3, d4] [] P (f_312_31 i0 i1 N n x2 P) := by
  intro n
  induction n with
  | zero => intro x2 d3 d4 P; exact tr_no
  | succ n ih =>
    intro x2 d3 d4 P
    refine tr_nil (rows2 := kb_312_31) rfl (List.cons_ne_nil _ _) ?_
    refine tr_blk 3 (pc' := 36) (rows' := kb_312_31.drop 3) (loc' := [.inr (0, 0, 0, i0), .inr (6, 0, 0, i1), .inl (.int x2), d3, d4]) (st' := [.inl (.int (P.1 i0 2)), .inl (.int x2)]) (P1 := P) rfl ⟨trivial, trivial, trivial, trivial⟩ ?_
    refine tr_if (fun h17 => ?_) (fun h17 => ?_)
    · refine tr_icF (cd := .ge) (Int32.not_le.mpr h17) ?_
      refine tr_blk 2 (pc' := 42) (rows' := kb_312_31.drop 6) (loc' := [.inr (0, 0, 0, i0), .inr (6, 0, 0, i1), .inl (.int x2), d3, d4]) (st' := [.inl (.int (8 : Int32)), .inl (.int x2)]) (P1 := P) rfl ⟨trivial, trivial, trivial⟩ ?_
      refine tr_if (fun h18 => ?_) (fun h18 => ?_)
      · refine tr_icF (cd := .ge) (Int32.not_le.mpr h18) ?_
        refine tr_gd (fun h4 => ?_)
        refine tr_blk 6 (pc' := 53) (rows' := kb_312_31.drop 13) (loc' := [.inr (0, 0, 0, i0), .inr (6, 0, 0, i1), .inl (.int x2), .inl (.int (P.1 (i0 + 1) x2.toNatClampNeg)), d4]) (st' := [.inl (.int (P.1 (i0 + 1) x2.toNatClampNeg))]) (P1 := P) rfl ⟨trivial, trivial, trivial, h4, trivial, trivial, trivial⟩ ?_
        refine tr_if (fun h19 => ?_) (fun h19 => ?_)
        · refine tr_ifT (cd := .lt) h19 ?_
          refine tr_nil (rows2 := kb_312_62) rfl (List.cons_ne_nil _ _) ?_
          refine tr_blk 1 (pc' := 63) (rows' := kb_312_62.drop 1) (loc' := [.inr (0, 0, 0, i0), .inr (6, 0, 0, i1), .inl (.int x2), .inl (.int (P.1 (i0 + 1) x2.toNatClampNeg)), d4]) (st' := [.inl (.int (0 : Int32))]) (P1 := P) rfl ⟨trivial, trivial⟩ ?_
          exact tr_reI (z := km_312) rfl ⟨_, rfl, rfl⟩ rfl
        · refine tr_ifF (cd := .lt) h19 ?_
          refine tr_blk 2 (pc' := 59) (rows' := kb_312_31.drop 16) (loc' := [.inr (0, 0, 0, i0), .inr (6, 0, 0, i1), .inl (.int x2), .inl (.int (P.1 (i0 + 1) x2.toNatClampNeg)), d4]) (st' := [.inl (.int (8 : Int32)), .inl (.int (P.1 (i0 + 1) x2.toNatClampNeg))]) (P1 := P) rfl ⟨trivial, trivial, trivial⟩ ?_
          refine tr_if (fun h20 => ?_) (fun h20 => ?_)
          · refine tr_icT (cd := .lt) h20 ?_
            refine tr_nil (rows2 := kb_312_64) rfl (List.cons_ne_nil _ _) ?_
            refine tr_blk 3 (pc' := 67) (rows' := kb_312_64.drop 3) (loc' := [.inr (0, 0, 0, i0), .inr (6, 0, 0, i1), .inl (.int x2), .inl (.int (P.1 (i0 + 1) x2.toNatClampNeg)), d4]) (st' := [.inl (.int (0 : Int32)), .inl (.int (P.1 (i0 + 1) x2.toNatClampNeg)), .inr (6, 0, 0, i1)]) (P1 := P) rfl ⟨trivial, trivial, trivial, trivial⟩ ?_
            refine tr_cRI (z := km_186) (av := [.inr (6, 0, 0, i1), .inl (.int (P.1 (i0 + 1) x2.toNatClampNeg)), .inl (.int (0 : Int32))]) (st' := []) rfl rfl rfl (Nat.le_of_ble_eq_true rfl) ⟨rfl, Or.inl (by decide)⟩ rfl (Nat.le_of_ble_eq_true rfl) (t_186 i1 N P (P.1 (i0 + 1) x2.toNatClampNeg) (0 : Int32)) (fun v5 => ?_)
            refine tr_gd (fun h6 => ?_)
            refine tr_gd (fun h7 => ?_)
            refine tr_blk 10 (pc' := 85) (rows' := kb_312_64.drop 14) (loc' := [.inr (0, 0, 0, i0), .inr (6, 0, 0, i1), .inl (.int x2), .inl (.int (P.1 (i0 + 1) x2.toNatClampNeg)), .inl (.int (v5 - (P.1 (i0 + 2) x2.toNatClampNeg)))]) (st' := [.inl (.int (P.1 (i0 + 7) ((P.1 (i0 + 1) x2.toNatClampNeg)).toNatClampNeg))]) (P1 := P) rfl ⟨trivial, trivial, trivial, h6, trivial, trivial, trivial, trivial, trivial, h7, trivial⟩ ?_
            refine tr_if (fun h21 => ?_) (fun h21 => ?_)
            · refine tr_ifT (cd := .eq) h21 ?_
              refine tr_nil (rows2 := kb_312_101) rfl (List.cons_ne_nil _ _) ?_
              refine tr_gd (fun h8 => ?_)
              refine tr_blk 5 (pc' := 108) (rows' := kb_312_101.drop 5) (loc' := [.inr (0, 0, 0, i0), .inr (6, 0, 0, i1), .inl (.int x2), .inl (.int (P.1 (i0 + 1) x2.toNatClampNeg)), .inl (.int (v5 - (P.1 (i0 + 2) x2.toNatClampNeg)))]) (st' := []) (P1 := (ab_pI P (i0 + 7) ((P.1 (i0 + 1) x2.toNatClampNeg)).toNatClampNeg (1 : Int32))) rfl ⟨trivial, trivial, trivial, trivial, h8, trivial⟩ ?_
              refine tr_lt (fun P9 => ?_)
              refine tr_gd (fun h10 => ?_)
              refine tr_blk 5 (pc' := 116) (rows' := kb_312_101.drop 10) (loc' := [.inr (0, 0, 0, i0), .inr (6, 0, 0, i1), .inl (.int x2), .inl (.int (P.1 (i0 + 1) x2.toNatClampNeg)), .inl (.int (v5 - (P.1 (i0 + 2) x2.toNatClampNeg)))]) (st' := []) (P1 := (ab_pI P9 (i0 + 8) ((P.1 (i0 + 1) x2.toNatClampNeg)).toNatClampNeg (v5 - (P.1 (i0 + 2) x2.toNatClampNeg)))) rfl ⟨trivial, trivial, trivial, trivial, h10, trivial⟩ ?_
              refine tr_lt (fun P11 => ?_)
              refine tr_blk 1 (pc' := 119) (rows' := kb_312_101.drop 11) (loc' := [.inr (0, 0, 0, i0), .inr (6, 0, 0, i1), .inl (.int (x2 + 1)), .inl (.int (P.1 (i0 + 1) x2.toNatClampNeg)), .inl (.int (v5 - (P.1 (i0 + 2) x2.toNatClampNeg)))]) (st' := []) (P1 := P11) rfl ⟨trivial, trivial⟩ ?_
              refine tr_goto ?_
              exact ih (x2 + 1) (.inl (.int (P.1 (i0 + 1) x2.toNatClampNeg))) (.inl (.int (v5 - (P.1 (i0 + 2) x2.toNatClampNeg)))) P11
            · refine tr_ifF (cd := .eq) h21 ?_
              refine tr_gd (fun h12 => ?_)
              refine tr_blk 5 (pc' := 96) (rows' := kb_312_64.drop 20) (loc' := [.inr (0, 0, 0, i0), .inr (6, 0, 0, i1), .inl (.int x2), .inl (.int (P.1 (i0 + 1) x2.toNatClampNeg)), .inl (.int (v5 - (P.1 (i0 + 2) x2.toNatClampNeg)))]) (st' := [.inl (.int (v5 - (P.1 (i0 + 2) x2.toNatClampNeg))), .inl (.int (P.1 (i0 + 8) ((P.1 (i0 + 1) x2.toNatClampNeg)).toNatClampNeg))]) (P1 := P) rfl ⟨trivial, trivial, trivial, h12, trivial, trivial⟩ ?_
              refine tr_if (fun h22 => ?_) (fun h22 => ?_)
              · refine tr_icT (cd := .eq) h22 ?_
                refine tr_nil (rows2 := kb_312_101) rfl (List.cons_ne_nil _ _) ?_
                refine tr_gd (fun h13 => ?_)
                refine tr_blk 5 (pc' := 108) (rows' := kb_312_101.drop 5) (loc' := [.inr (0, 0, 0, i0), .inr (6, 0, 0, i1), .inl (.int x2), .inl (.int (P.1 (i0 + 1) x2.toNatClampNeg)), .inl (.int (v5 - (P.1 (i0 + 2) x2.toNatClampNeg)))]) (st' := []) (P1 := (ab_pI P (i0 + 7) ((P.1 (i0 + 1) x2.toNatClampNeg)).toNatClampNeg (1 : Int32))) rfl ⟨trivial, trivial, trivial, trivial, h13, trivial⟩ ?_
                refine tr_lt (fun P14 => ?_)
                refine tr_gd (fun h15 => ?_)
                refine tr_blk 5 (pc' := 116) (rows' := kb_312_101.drop 10) (loc' := [.inr (0, 0, 0, i0), .inr (6, 0, 0, i1), .inl (.int x2), .inl (.int (P.1 (i0 + 1) x2.toNatClampNeg)), .inl (.int (v5 - (P.1 (i0 + 2) x2.toNatClampNeg)))]) (st' := []) (P1 := (ab_pI P14 (i0 + 8) ((P.1 (i0 + 1) x2.toNatClampNeg)).toNatClampNeg (v5 - (P.1 (i0 + 2) x2.toNatClampNeg)))) rfl ⟨trivial, trivial, trivial, trivial, h15, trivial⟩ ?_
                refine tr_lt (fun P16 => ?_)
                refine tr_blk 1 (pc' := 119) (rows' := kb_312_101.drop 11) (loc' := [.inr (0, 0, 0, i0), .inr (6, 0, 0, i1), .inl (.int (x2 + 1)), .inl (.int (P.1 (i0 + 1) x2.toNatClampNeg)), .inl (.int (v5 - (P.1 (i0 + 2) x2.toNatClampNeg)))]) (st' := []) (P1 := P16) rfl ⟨trivial, trivial⟩ ?_
                refine tr_goto ?_
                exact ih (x2 + 1) (.inl (.int (P.1 (i0 + 1) x2.toNatClampNeg))) (.inl (.int (v5 - (P.1 (i0 + 2) x2.toNatClampNeg)))) P16
              · refine tr_icF (cd := .eq) h22 ?_
                refine tr_blk 1 (pc' := 100) (rows' := kb_312_64.drop 22) (loc' := [.inr (0, 0, 0, i0), .inr (6, 0, 0, i1), .inl (.int x2), .inl (.int (P.1 (i0 + 1) x2.toNatClampNeg)), .inl (.int (v5 - (P.1 (i0 + 2) x2.toNatClampNeg)))]) (st' := [.inl (.int (0 : Int32))]) (P1 := P) rfl ⟨trivial, trivial⟩ ?_
                exact tr_reI (z := km_312) rfl ⟨_, rfl, rfl⟩ rfl
          · refine tr_icF (cd := .lt) h20 ?_
            refine tr_nil (rows2 := kb_312_62) rfl (List.cons_ne_nil _ _) ?_
            refine tr_blk 1 (pc' := 63) (rows' := kb_312_62.drop 1) (loc' := [.inr (0, 0, 0, i0), .inr (6, 0, 0, i1), .inl (.int x2), .inl (.int (P.1 (i0 + 1) x2.toNatClampNeg)), d4]) (st' := [.inl (.int (0 : Int32))]) (P1 := P) rfl ⟨trivial, trivial⟩ ?_
            exact tr_reI (z := km_312) rfl ⟨_, rfl, rfl⟩ rfl
      · refine tr_icT (cd := .ge) (Int32.not_lt.mp h18) ?_
        refine tr_nil (rows2 := kb_312_122) rfl (List.cons_ne_nil _ _) ?_
        refine tr_blk 1 (pc' := 123) (rows' := kb_312_122.drop 1) (loc' := [.inr (0, 0, 0, i0), .inr (6, 0, 0, i1), .inl (.int x2), d3, d4]) (st' := [.inl (.int (1 : Int32))]) (P1 := P) rfl ⟨trivial, trivial⟩ ?_
        exact tr_reI (z := km_312) rfl ⟨_, rfl, rfl⟩ rfl
    · refine tr_icT (cd := .ge) (Int32.not_lt.mp h17) ?_
      refine tr_nil (rows2 := kb_312_122) rfl (List.cons_ne_nil _ _) ?_
      refine tr_blk 1 (pc' := 123) (rows' := kb_312_122.drop 1) (loc' := [.inr (0, 0, 0, i0), .inr (6, 0, 0, i1), .inl (.int x2), d3, d4]) (st' := [.inl (.int (1 : Int32))]) (P1 := P) rfl ⟨trivial, trivial⟩ ?_
      exact tr_reI (z := km_312) rfl ⟨_, rfl, rfl⟩ rfl
def f_312_10 (i0 : Nat) (i1 : Nat) (N : Nat) : Nat → Int32 → ab_P → Option (Int32 × ab_P)
  | 0, _, _ => none
  | n + 1, x2, P =>
    if x2 < (8 : Int32) then
      if ab_gi x2 8 then
      ab_lt (ab_pI P (i0 + 7) x2.toNatClampNeg (0 : Int32)) fun P3 =>
      f_312_10 i0 i1 N n (x2 + 1) P3
      else none
    else
    f_312_31 i0 i1 N N (0 : Int32) P
theorem t_312_10 {xs : Nat × (Nat → Int32)} {d : Nat} (i0 : Nat) (i1 : Nat) (N : Nat) : ∀ n : Nat, ∀ (x2 : Int32) (P : ab_P), ab_tr xs wI (d + 3) 312 10 [] [.inr (0, 0, 0, i0), .inr (6, 0, 0, i1), .inl (.int x2), ab_top, ab_top] [] P (f_312_10 i0 i1 N n x2 P) := by
  intro n
  induction n with
  | zero => intro x2 P; exact tr_no
  | succ n ih =>
    intro x2 P
    refine tr_nil (rows2 := kb_312_10) rfl (List.cons_ne_nil _ _) ?_
    refine tr_blk 2 (pc' := 13) (rows' := kb_312_10.drop 2) (loc' := [.inr (0, 0, 0, i0), .inr (6, 0, 0, i1), .inl (.int x2), ab_top, ab_top]) (st' := [.inl (.int (8 : Int32)), .inl (.int x2)]) (P1 := P) rfl ⟨trivial, trivial, trivial⟩ ?_
    refine tr_if (fun h23 => ?_) (fun h23 => ?_)
    · refine tr_icF (cd := .ge) (Int32.not_le.mpr h23) ?_
      refine tr_gd (fun h2 => ?_)
      refine tr_blk 5 (pc' := 23) (rows' := kb_312_10.drop 8) (loc' := [.inr (0, 0, 0, i0), .inr (6, 0, 0, i1), .inl (.int x2), ab_top, ab_top]) (st' := []) (P1 := (ab_pI P (i0 + 7) x2.toNatClampNeg (0 : Int32))) rfl ⟨trivial, trivial, trivial, trivial, h2, trivial⟩ ?_
      refine tr_lt (fun P3 => ?_)
      refine tr_blk 1 (pc' := 26) (rows' := kb_312_10.drop 9) (loc' := [.inr (0, 0, 0, i0), .inr (6, 0, 0, i1), .inl (.int (x2 + 1)), ab_top, ab_top]) (st' := []) (P1 := P3) rfl ⟨trivial, trivial⟩ ?_
      refine tr_goto ?_
      exact ih (x2 + 1) P3
    · refine tr_icT (cd := .ge) (Int32.not_lt.mp h23) ?_
      refine tr_nil (rows2 := kb_312_29) rfl (List.cons_ne_nil _ _) ?_
      refine tr_blk 2 (pc' := 31) (rows' := kb_312_29.drop 2) (loc' := [.inr (0, 0, 0, i0), .inr (6, 0, 0, i1), .inl (.int (0 : Int32)), ab_top, ab_top]) (st' := []) (P1 := P) rfl ⟨trivial, trivial, trivial⟩ ?_
      exact t_312_31 i0 i1 N N (0 : Int32) (ab_top) (ab_top) P
def f_312 (i0 : Nat) (i1 : Nat) (N : Nat) (P : ab_P) : Option (Int32 × ab_P) :=
    Option.bind (f_306_8 (i0 + 8) N (0 : Int32) P) fun P1 =>
    f_312_10 i0 i1 N N (0 : Int32) P1
theorem t_312 {xs : Nat × (Nat → Int32)} {d : Nat} (i0 : Nat) (i1 : Nat) (N : Nat) : ∀ (P : ab_P), ab_tr xs wI (d + 3) 312 0 [] [.inr (0, 0, 0, i0), .inr (6, 0, 0, i1), ab_top, ab_top, ab_top] [] P (f_312 i0 i1 N P) := by
  intro P
  unfold f_312
  refine tr_nil (rows2 := kb_312_0) rfl (List.cons_ne_nil _ _) ?_
  refine tr_blk 3 (pc' := 5) (rows' := kb_312_0.drop 3) (loc' := [.inr (0, 0, 0, i0), .inr (6, 0, 0, i1), ab_top, ab_top, ab_top]) (st' := [.inl (.int (0 : Int32)), .inr (20, 8, 0, (i0 + 8))]) (P1 := P) rfl ⟨trivial, trivial, trivial, trivial⟩ ?_
  refine tr_cWV (z := km_306) (av := [.inr (20, 8, 0, (i0 + 8)), .inl (.int (0 : Int32))]) (st' := []) rfl rfl rfl (Nat.le_of_ble_eq_true rfl) trivial rfl (Nat.le_of_ble_eq_true rfl) (t_306_8 (i0 + 8) N (0 : Int32) P) (fun P1 => ?_)
  refine tr_blk 2 (pc' := 10) (rows' := kb_312_0.drop 6) (loc' := [.inr (0, 0, 0, i0), .inr (6, 0, 0, i1), .inl (.int (0 : Int32)), ab_top, ab_top]) (st' := []) (P1 := P1) rfl ⟨trivial, trivial, trivial⟩ ?_
  exact t_312_10 i0 i1 N N (0 : Int32) P1
def f_253_136_10 (i0 : Nat) : Nat → Int32 → Int32 → Int32 → ab_P → Option ab_P
  | 0, _, _, _, _ => none
  | n + 1, x2, x3, x4, P =>
    if x4 < x2 then
      if ab_gi x4 136 then
      ab_lt (ab_pI P i0 x4.toNatClampNeg x3) fun P2 =>
      f_253_136_10 i0 n x2 x3 (x4 + 1) P2
      else none
    else
    some P
theorem t_253_136_10 {xs : Nat × (Nat → Int32)} {d : Nat} (i0 : Nat) : ∀ n : Nat, ∀ (x2 : Int32) (x3 : Int32) (x4 : Int32) (d1 : Int32) (P : ab_P), ab_tr xs wV (d + 1) 253 10 [] [.inr (20, 136, 0, i0), .inl (.int d1), .inl (.int x2), .inl (.int x3), .inl (.int x4)] [] P (f_253_136_10 i0 n x2 x3 x4 P) := by
  intro n
  induction n with
  | zero => intro x2 x3 x4 d1 P; exact tr_no
  | succ n ih =>
    intro x2 x3 x4 d1 P
    refine tr_nil (rows2 := kb_253_10) rfl (List.cons_ne_nil _ _) ?_
    refine tr_blk 2 (pc' := 13) (rows' := kb_253_10.drop 2) (loc' := [.inr (20, 136, 0, i0), .inl (.int d1), .inl (.int x2), .inl (.int x3), .inl (.int x4)]) (st' := [.inl (.int x2), .inl (.int x4)]) (P1 := P) rfl ⟨trivial, trivial, trivial⟩ ?_
    refine tr_if (fun h3 => ?_) (fun h3 => ?_)
    · refine tr_icF (cd := .ge) (Int32.not_le.mpr h3) ?_
      refine tr_gd (fun h1 => ?_)
      refine tr_blk 4 (pc' := 21) (rows' := kb_253_10.drop 7) (loc' := [.inr (20, 136, 0, i0), .inl (.int d1), .inl (.int x2), .inl (.int x3), .inl (.int x4)]) (st' := []) (P1 := (ab_pI P i0 x4.toNatClampNeg x3)) rfl ⟨trivial, trivial, trivial, h1, trivial⟩ ?_
      refine tr_lt (fun P2 => ?_)
      refine tr_blk 1 (pc' := 24) (rows' := kb_253_10.drop 8) (loc' := [.inr (20, 136, 0, i0), .inl (.int d1), .inl (.int x2), .inl (.int x3), .inl (.int (x4 + 1))]) (st' := []) (P1 := P2) rfl ⟨trivial, trivial⟩ ?_
      refine tr_goto ?_
      exact ih x2 x3 (x4 + 1) (d1) P2
    · refine tr_icT (cd := .ge) (Int32.not_lt.mp h3) ?_
      refine tr_nil (rows2 := kb_253_27) rfl (List.cons_ne_nil _ _) ?_
      exact tr_reV (z := km_253) rfl rfl rfl
def f_253_136 (i0 : Nat) (N : Nat) (a1 : Int32) (a2 : Int32) (a3 : Int32) (P : ab_P) : Option ab_P :=
    Option.bind (f_308 P (136 : Int32) a1 a2) fun _ =>
    f_253_136_10 i0 N a2 a3 a1 P
theorem t_253_136 {xs : Nat × (Nat → Int32)} {d : Nat} (i0 : Nat) (N : Nat) : ∀ (a1 : Int32) (a2 : Int32) (a3 : Int32) (P : ab_P), ab_tr xs wV (d + 1) 253 0 [] [.inr (20, 136, 0, i0), .inl (.int a1), .inl (.int a2), .inl (.int a3), ab_top] [] P (f_253_136 i0 N a1 a2 a3 P) := by
  intro a1 a2 a3 P
  unfold f_253_136
  refine tr_nil (rows2 := kb_253_0) rfl (List.cons_ne_nil _ _) ?_
  refine tr_blk 4 (pc' := 4) (rows' := kb_253_0.drop 4) (loc' := [.inr (20, 136, 0, i0), .inl (.int a1), .inl (.int a2), .inl (.int a3), ab_top]) (st' := [.inl (.int a2), .inl (.int a1), .inl (.int (136 : Int32))]) (P1 := P) rfl ⟨trivial, (Or.inl (by decide)), trivial, trivial, trivial⟩ ?_
  refine tr_cRV (z := km_308) (av := [.inl (.int (136 : Int32)), .inl (.int a1), .inl (.int a2)]) (st' := []) rfl rfl rfl (Nat.le_of_ble_eq_true rfl) trivial rfl (Nat.le_of_ble_eq_true rfl) (t_308 P (136 : Int32) a1 a2) (fun _ => ?_)
  refine tr_blk 2 (pc' := 10) (rows' := kb_253_0.drop 7) (loc' := [.inr (20, 136, 0, i0), .inl (.int a1), .inl (.int a2), .inl (.int a3), .inl (.int a1)]) (st' := []) (P1 := P) rfl ⟨trivial, trivial, trivial⟩ ?_
  exact t_253_136_10 i0 N a2 a3 a1 (a1) P
def f_313_91 (i0 : Nat) (H47 : Int32 → Int32 → Int32 → ab_P → Option ab_P) (x1 : Int32) (x2 : Int32) (x3 : Int32) (s0 : Int32) (s1 : Int32) (s2 : Int32) (P : ab_P) : Option ab_P :=
    if ab_gi s2 136 then
    ab_lt (ab_pI P (i0 + 9) s2.toNatClampNeg (s1 - s0)) fun P7 =>
    if ab_gi ((x2 + x3) - (8 : Int32)) 136 then
    if ab_gi x1 16 then
    if (P7.1 (i0 + 5) x1.toNatClampNeg) = x3 then
      if ab_gi x1 16 then
      if ab_gi (x2 + x3) 136 then
      ab_lt (ab_pI P7 (i0 + 10) ((x2 + x3)).toNatClampNeg ((P7.1 (i0 + 10) (((x2 + x3) - (8 : Int32))).toNatClampNeg) + (P7.1 (i0 + 6) x1.toNatClampNeg))) fun P14 =>
      H47 x1 x2 (x3 + 1) P14
      else none
      else none
    else
    if ab_gi (x2 + x3) 136 then
    ab_lt (ab_pI P7 (i0 + 10) ((x2 + x3)).toNatClampNeg ((P7.1 (i0 + 10) (((x2 + x3) - (8 : Int32))).toNatClampNeg) + (0 : Int32))) fun P11 =>
    H47 x1 x2 (x3 + 1) P11
    else none
    else none
    else none
    else none
theorem t_313_91 {xs : Nat × (Nat → Int32)} {d : Nat} (i0 : Nat) (H47 : Int32 → Int32 → Int32 → ab_P → Option ab_P) (hH47 : ∀ (x1 : Int32) (x2 : Int32) (x3 : Int32) (P : ab_P), ab_tr xs wV (d + 2) 313 47 [] [.inr (0, 0, 0, i0), .inl (.int x1), .inl (.int x2), .inl (.int x3)] [] P (H47 x1 x2 x3 P)) : ∀ (x1 : Int32) (x2 : Int32) (x3 : Int32) (s0 : Int32) (s1 : Int32) (s2 : Int32) (P : ab_P), ab_tr xs wV (d + 2) 313 91 [] [.inr (0, 0, 0, i0), .inl (.int x1), .inl (.int x2), .inl (.int x3)] [.inl (.int s0), .inl (.int s1), .inl (.int s2), .inr (20, 136, 0, (i0 + 9))] P (f_313_91 i0 H47 x1 x2 x3 s0 s1 s2 P) := by
  intro x1 x2 x3 s0 s1 s2 P
  unfold f_313_91
  refine tr_nil (rows2 := kb_313_91) rfl (List.cons_ne_nil _ _) ?_
  refine tr_gd (fun h6 => ?_)
  refine tr_blk 2 (pc' := 93) (rows' := kb_313_91.drop 2) (loc' := [.inr (0, 0, 0, i0), .inl (.int x1), .inl (.int x2), .inl (.int x3)]) (st' := []) (P1 := (ab_pI P (i0 + 9) s2.toNatClampNeg (s1 - s0))) rfl ⟨trivial, h6, trivial⟩ ?_
  refine tr_lt (fun P7 => ?_)
  refine tr_gd (fun h8 => ?_)
  refine tr_gd (fun h9 => ?_)
  refine tr_blk 18 (pc' := 118) (rows' := kb_313_91.drop 20) (loc' := [.inr (0, 0, 0, i0), .inl (.int x1), .inl (.int x2), .inl (.int x3)]) (st' := [.inl (.int x3), .inl (.int (P7.1 (i0 + 5) x1.toNatClampNeg)), .inl (.int (P7.1 (i0 + 10) (((x2 + x3) - (8 : Int32))).toNatClampNeg)), .inl (.int (x2 + x3)), .inr (20, 136, 0, (i0 + 10))]) (P1 := P7) rfl ⟨trivial, trivial, trivial, trivial, trivial, trivial, trivial, trivial, trivial, trivial, trivial, trivial, h8, trivial, trivial, trivial, h9, trivial, trivial⟩ ?_
  refine tr_if (fun h15 => ?_) (fun h15 => ?_)
  · refine tr_icF (cd := .ne) (fun q => q h15) ?_
    refine tr_gd (fun h12 => ?_)
    refine tr_blk 4 (pc' := 127) (rows' := kb_313_91.drop 25) (loc' := [.inr (0, 0, 0, i0), .inl (.int x1), .inl (.int x2), .inl (.int x3)]) (st' := [.inl (.int (P7.1 (i0 + 6) x1.toNatClampNeg)), .inl (.int (P7.1 (i0 + 10) (((x2 + x3) - (8 : Int32))).toNatClampNeg)), .inl (.int (x2 + x3)), .inr (20, 136, 0, (i0 + 10))]) (P1 := P7) rfl ⟨trivial, trivial, trivial, h12, trivial⟩ ?_
    refine tr_goto ?_
    refine tr_nil (rows2 := kb_313_131) rfl (List.cons_ne_nil _ _) ?_
    refine tr_gd (fun h13 => ?_)
    refine tr_blk 2 (pc' := 133) (rows' := kb_313_131.drop 2) (loc' := [.inr (0, 0, 0, i0), .inl (.int x1), .inl (.int x2), .inl (.int x3)]) (st' := []) (P1 := (ab_pI P7 (i0 + 10) ((x2 + x3)).toNatClampNeg ((P7.1 (i0 + 10) (((x2 + x3) - (8 : Int32))).toNatClampNeg) + (P7.1 (i0 + 6) x1.toNatClampNeg)))) rfl ⟨trivial, h13, trivial⟩ ?_
    refine tr_lt (fun P14 => ?_)
    refine tr_blk 1 (pc' := 136) (rows' := kb_313_131.drop 3) (loc' := [.inr (0, 0, 0, i0), .inl (.int x1), .inl (.int x2), .inl (.int (x3 + 1))]) (st' := []) (P1 := P14) rfl ⟨trivial, trivial⟩ ?_
    refine tr_goto ?_
    exact hH47 x1 x2 (x3 + 1) P14
  · refine tr_icT (cd := .ne) h15 ?_
    refine tr_nil (rows2 := kb_313_130) rfl (List.cons_ne_nil _ _) ?_
    refine tr_blk 1 (pc' := 131) (rows' := kb_313_130.drop 1) (loc' := [.inr (0, 0, 0, i0), .inl (.int x1), .inl (.int x2), .inl (.int x3)]) (st' := [.inl (.int (0 : Int32)), .inl (.int (P7.1 (i0 + 10) (((x2 + x3) - (8 : Int32))).toNatClampNeg)), .inl (.int (x2 + x3)), .inr (20, 136, 0, (i0 + 10))]) (P1 := P7) rfl ⟨trivial, trivial⟩ ?_
    refine tr_nil (rows2 := kb_313_131) rfl (List.cons_ne_nil _ _) ?_
    refine tr_gd (fun h10 => ?_)
    refine tr_blk 2 (pc' := 133) (rows' := kb_313_131.drop 2) (loc' := [.inr (0, 0, 0, i0), .inl (.int x1), .inl (.int x2), .inl (.int x3)]) (st' := []) (P1 := (ab_pI P7 (i0 + 10) ((x2 + x3)).toNatClampNeg ((P7.1 (i0 + 10) (((x2 + x3) - (8 : Int32))).toNatClampNeg) + (0 : Int32)))) rfl ⟨trivial, h10, trivial⟩ ?_
    refine tr_lt (fun P11 => ?_)
    refine tr_blk 1 (pc' := 136) (rows' := kb_313_131.drop 3) (loc' := [.inr (0, 0, 0, i0), .inl (.int x1), .inl (.int x2), .inl (.int (x3 + 1))]) (st' := []) (P1 := P11) rfl ⟨trivial, trivial⟩ ?_
    refine tr_goto ?_
    exact hH47 x1 x2 (x3 + 1) P11
def f_313_47 (i0 : Nat) (H24 : Int32 → ab_P → Option ab_P) : Nat → Int32 → Int32 → Int32 → ab_P → Option ab_P
  | 0, _, _, _, _ => none
  | n + 1, x1, x2, x3, P =>
    if x3 < (8 : Int32) then
      if ab_gi ((x2 + x3) - (8 : Int32)) 136 then
      if ab_gi x1 16 then
      if (P.1 (i0 + 4) x1.toNatClampNeg) = x3 then
        if ab_gi x1 16 then
        f_313_91 i0 (fun y0 y1 y2 y3 => f_313_47 i0 H24 n y0 y1 y2 y3) x1 x2 x3 (P.1 (i0 + 6) x1.toNatClampNeg) (P.1 (i0 + 9) (((x2 + x3) - (8 : Int32))).toNatClampNeg) (x2 + x3) P
        else none
      else
      f_313_91 i0 (fun y0 y1 y2 y3 => f_313_47 i0 H24 n y0 y1 y2 y3) x1 x2 x3 (0 : Int32) (P.1 (i0 + 9) (((x2 + x3) - (8 : Int32))).toNatClampNeg) (x2 + x3) P
      else none
      else none
    else
    H24 (x1 + 1) P
theorem t_313_47 {xs : Nat × (Nat → Int32)} {d : Nat} (i0 : Nat) (H24 : Int32 → ab_P → Option ab_P) (hH24 : ∀ (x1 : Int32) (d2 : ab_V) (d3 : ab_V) (P : ab_P), ab_tr xs wV (d + 2) 313 24 [] [.inr (0, 0, 0, i0), .inl (.int x1), d2, d3] [] P (H24 x1 P)) : ∀ n : Nat, ∀ (x1 : Int32) (x2 : Int32) (x3 : Int32) (P : ab_P), ab_tr xs wV (d + 2) 313 47 [] [.inr (0, 0, 0, i0), .inl (.int x1), .inl (.int x2), .inl (.int x3)] [] P (f_313_47 i0 H24 n x1 x2 x3 P) := by
  intro n
  induction n with
  | zero => intro x1 x2 x3 P; exact tr_no
  | succ n ih =>
    intro x1 x2 x3 P
    refine tr_nil (rows2 := kb_313_47) rfl (List.cons_ne_nil _ _) ?_
    refine tr_blk 2 (pc' := 50) (rows' := kb_313_47.drop 2) (loc' := [.inr (0, 0, 0, i0), .inl (.int x1), .inl (.int x2), .inl (.int x3)]) (st' := [.inl (.int (8 : Int32)), .inl (.int x3)]) (P1 := P) rfl ⟨trivial, trivial, trivial⟩ ?_
    refine tr_if (fun h16 => ?_) (fun h16 => ?_)
    · refine tr_icF (cd := .ge) (Int32.not_le.mpr h16) ?_
      refine tr_gd (fun h3 => ?_)
      refine tr_gd (fun h4 => ?_)
      refine tr_blk 18 (pc' := 78) (rows' := kb_313_47.drop 21) (loc' := [.inr (0, 0, 0, i0), .inl (.int x1), .inl (.int x2), .inl (.int x3)]) (st' := [.inl (.int x3), .inl (.int (P.1 (i0 + 4) x1.toNatClampNeg)), .inl (.int (P.1 (i0 + 9) (((x2 + x3) - (8 : Int32))).toNatClampNeg)), .inl (.int (x2 + x3)), .inr (20, 136, 0, (i0 + 9))]) (P1 := P) rfl ⟨trivial, trivial, trivial, trivial, trivial, trivial, trivial, trivial, trivial, trivial, trivial, trivial, h3, trivial, trivial, trivial, h4, trivial, trivial⟩ ?_
      refine tr_if (fun h17 => ?_) (fun h17 => ?_)
      · refine tr_icF (cd := .ne) (fun q => q h17) ?_
        refine tr_gd (fun h5 => ?_)
        refine tr_blk 4 (pc' := 87) (rows' := kb_313_47.drop 26) (loc' := [.inr (0, 0, 0, i0), .inl (.int x1), .inl (.int x2), .inl (.int x3)]) (st' := [.inl (.int (P.1 (i0 + 6) x1.toNatClampNeg)), .inl (.int (P.1 (i0 + 9) (((x2 + x3) - (8 : Int32))).toNatClampNeg)), .inl (.int (x2 + x3)), .inr (20, 136, 0, (i0 + 9))]) (P1 := P) rfl ⟨trivial, trivial, trivial, h5, trivial⟩ ?_
        refine tr_goto ?_
        exact t_313_91 i0 _ ih x1 x2 x3 (P.1 (i0 + 6) x1.toNatClampNeg) (P.1 (i0 + 9) (((x2 + x3) - (8 : Int32))).toNatClampNeg) (x2 + x3) P
      · refine tr_icT (cd := .ne) h17 ?_
        refine tr_nil (rows2 := kb_313_90) rfl (List.cons_ne_nil _ _) ?_
        refine tr_blk 1 (pc' := 91) (rows' := kb_313_90.drop 1) (loc' := [.inr (0, 0, 0, i0), .inl (.int x1), .inl (.int x2), .inl (.int x3)]) (st' := [.inl (.int (0 : Int32)), .inl (.int (P.1 (i0 + 9) (((x2 + x3) - (8 : Int32))).toNatClampNeg)), .inl (.int (x2 + x3)), .inr (20, 136, 0, (i0 + 9))]) (P1 := P) rfl ⟨trivial, trivial⟩ ?_
        exact t_313_91 i0 _ ih x1 x2 x3 (0 : Int32) (P.1 (i0 + 9) (((x2 + x3) - (8 : Int32))).toNatClampNeg) (x2 + x3) P
    · refine tr_icT (cd := .ge) (Int32.not_lt.mp h16) ?_
      refine tr_nil (rows2 := kb_313_139) rfl (List.cons_ne_nil _ _) ?_
      refine tr_blk 1 (pc' := 142) (rows' := kb_313_139.drop 1) (loc' := [.inr (0, 0, 0, i0), .inl (.int (x1 + 1)), .inl (.int x2), .inl (.int x3)]) (st' := []) (P1 := P) rfl ⟨trivial, trivial⟩ ?_
      refine tr_goto ?_
      exact hH24 (x1 + 1) (.inl (.int x2)) (.inl (.int x3)) P
def f_313_24 (i0 : Nat) (N : Nat) : Nat → Int32 → ab_P → Option ab_P
  | 0, _, _ => none
  | n + 1, x1, P =>
    if x1 < (P.1 i0 7) then
      if x1 < (16 : Int32) then
        f_313_47 i0 (fun y0 y1 => f_313_24 i0 N n y0 y1) N x1 ((x1 + (1 : Int32)) * (8 : Int32)) (0 : Int32) P
      else
      some P
    else
    some P
theorem t_313_24 {xs : Nat × (Nat → Int32)} {d : Nat} (i0 : Nat) (N : Nat) : ∀ n : Nat, ∀ (x1 : Int32) (d2 : ab_V) (d3 : ab_V) (P : ab_P), ab_tr xs wV (d + 2) 313 24 [] [.inr (0, 0, 0, i0), .inl (.int x1), d2, d3] [] P (f_313_24 i0 N n x1 P) := by
  intro n
  induction n with
  | zero => intro x1 d2 d3 P; exact tr_no
  | succ n ih =>
    intro x1 d2 d3 P
    refine tr_nil (rows2 := kb_313_24) rfl (List.cons_ne_nil _ _) ?_
    refine tr_blk 3 (pc' := 29) (rows' := kb_313_24.drop 3) (loc' := [.inr (0, 0, 0, i0), .inl (.int x1), d2, d3]) (st' := [.inl (.int (P.1 i0 7)), .inl (.int x1)]) (P1 := P) rfl ⟨trivial, trivial, trivial, trivial⟩ ?_
    refine tr_if (fun h18 => ?_) (fun h18 => ?_)
    · refine tr_icF (cd := .ge) (Int32.not_le.mpr h18) ?_
      refine tr_blk 2 (pc' := 35) (rows' := kb_313_24.drop 6) (loc' := [.inr (0, 0, 0, i0), .inl (.int x1), d2, d3]) (st' := [.inl (.int (16 : Int32)), .inl (.int x1)]) (P1 := P) rfl ⟨trivial, trivial, trivial⟩ ?_
      refine tr_if (fun h19 => ?_) (fun h19 => ?_)
      · refine tr_icF (cd := .ge) (Int32.not_le.mpr h19) ?_
        refine tr_blk 8 (pc' := 47) (rows' := kb_313_24.drop 15) (loc' := [.inr (0, 0, 0, i0), .inl (.int x1), .inl (.int ((x1 + (1 : Int32)) * (8 : Int32))), .inl (.int (0 : Int32))]) (st' := []) (P1 := P) rfl ⟨trivial, trivial, trivial, trivial, trivial, trivial, trivial, trivial, trivial⟩ ?_
        exact t_313_47 i0 _ ih N x1 ((x1 + (1 : Int32)) * (8 : Int32)) (0 : Int32) P
      · refine tr_icT (cd := .ge) (Int32.not_lt.mp h19) ?_
        refine tr_nil (rows2 := kb_313_145) rfl (List.cons_ne_nil _ _) ?_
        exact tr_reV (z := km_313) rfl rfl rfl
    · refine tr_icT (cd := .ge) (Int32.not_lt.mp h18) ?_
      refine tr_nil (rows2 := kb_313_145) rfl (List.cons_ne_nil _ _) ?_
      exact tr_reV (z := km_313) rfl rfl rfl
def f_313 (i0 : Nat) (N : Nat) (P : ab_P) : Option ab_P :=
    Option.bind (f_253_136 (i0 + 9) N (0 : Int32) (8 : Int32) (0 : Int32) P) fun P1 =>
    Option.bind (f_253_136 (i0 + 10) N (0 : Int32) (8 : Int32) (0 : Int32) P1) fun P2 =>
    f_313_24 i0 N N (0 : Int32) P2
theorem t_313 {xs : Nat × (Nat → Int32)} {d : Nat} (i0 : Nat) (N : Nat) : ∀ (P : ab_P), ab_tr xs wV (d + 2) 313 0 [] [.inr (0, 0, 0, i0), ab_top, ab_top, ab_top] [] P (f_313 i0 N P) := by
  intro P
  unfold f_313
  refine tr_nil (rows2 := kb_313_0) rfl (List.cons_ne_nil _ _) ?_
  refine tr_blk 5 (pc' := 8) (rows' := kb_313_0.drop 5) (loc' := [.inr (0, 0, 0, i0), ab_top, ab_top, ab_top]) (st' := [.inl (.int (0 : Int32)), .inl (.int (8 : Int32)), .inl (.int (0 : Int32)), .inr (20, 136, 0, (i0 + 9))]) (P1 := P) rfl ⟨trivial, trivial, trivial, trivial, trivial, trivial⟩ ?_
  refine tr_cWV (z := km_253) (av := [.inr (20, 136, 0, (i0 + 9)), .inl (.int (0 : Int32)), .inl (.int (8 : Int32)), .inl (.int (0 : Int32))]) (st' := []) rfl rfl rfl (Nat.le_of_ble_eq_true rfl) trivial rfl (Nat.le_of_ble_eq_true rfl) (t_253_136 (i0 + 9) N (0 : Int32) (8 : Int32) (0 : Int32) P) (fun P1 => ?_)
  refine tr_blk 5 (pc' := 19) (rows' := kb_313_0.drop 11) (loc' := [.inr (0, 0, 0, i0), ab_top, ab_top, ab_top]) (st' := [.inl (.int (0 : Int32)), .inl (.int (8 : Int32)), .inl (.int (0 : Int32)), .inr (20, 136, 0, (i0 + 10))]) (P1 := P1) rfl ⟨trivial, trivial, trivial, trivial, trivial, trivial⟩ ?_
  refine tr_cWV (z := km_253) (av := [.inr (20, 136, 0, (i0 + 10)), .inl (.int (0 : Int32)), .inl (.int (8 : Int32)), .inl (.int (0 : Int32))]) (st' := []) rfl rfl rfl (Nat.le_of_ble_eq_true rfl) trivial rfl (Nat.le_of_ble_eq_true rfl) (t_253_136 (i0 + 10) N (0 : Int32) (8 : Int32) (0 : Int32) P1) (fun P2 => ?_)
  refine tr_blk 2 (pc' := 24) (rows' := kb_313_0.drop 14) (loc' := [.inr (0, 0, 0, i0), .inl (.int (0 : Int32)), ab_top, ab_top]) (st' := []) (P1 := P2) rfl ⟨trivial, trivial, trivial⟩ ?_
  exact t_313_24 i0 N N (0 : Int32) (ab_top) (ab_top) P2
def f_314 (i0 : Nat) (P : ab_P) (a1 : Int32) (a2 : Int32) : Option Int32 :=
    Option.bind (f_240 P a2 (0 : Int32) (7 : Int32)) fun v1 =>
    if v1 = (0 : Int32) then
      some (0 : Int32)
    else
    Option.bind (f_240 P a1 (0 : Int32) (16 : Int32)) fun v2 =>
    if v2 = (0 : Int32) then
      some (0 : Int32)
    else
    if ab_gi a2 8 then
    if (P.1 (i0 + 7) a2.toNatClampNeg) = (0 : Int32) then
      some (1 : Int32)
    else
    if ab_gi ((a1 * (8 : Int32)) + a2) 136 then
    if ab_gi a2 8 then
    if (P.1 (i0 + 8) a2.toNatClampNeg) < (P.1 (i0 + 9) (((a1 * (8 : Int32)) + a2)).toNatClampNeg) then
      some (0 : Int32)
    else
    if ab_gi a2 8 then
    if ab_gi ((a1 * (8 : Int32)) + a2) 136 then
    if (P.1 (i0 + 10) (((a1 * (8 : Int32)) + a2)).toNatClampNeg) < (P.1 (i0 + 8) a2.toNatClampNeg) then
      some (0 : Int32)
    else
    some (1 : Int32)
    else none
    else none
    else none
    else none
    else none
theorem t_314 {xs : Nat × (Nat → Int32)} {d : Nat} (i0 : Nat) (P : ab_P) : ∀ (a1 : Int32) (a2 : Int32), ab_tr xs (rI P) (d + 1) 314 0 [] [.inr (0, 0, 0, i0), .inl (.int a1), .inl (.int a2), ab_top] [] P (f_314 i0 P a1 a2) := by
  intro a1 a2
  unfold f_314
  refine tr_nil (rows2 := kb_314_0) rfl (List.cons_ne_nil _ _) ?_
  refine tr_blk 3 (pc' := 4) (rows' := kb_314_0.drop 3) (loc' := [.inr (0, 0, 0, i0), .inl (.int a1), .inl (.int a2), ab_top]) (st' := [.inl (.int (7 : Int32)), .inl (.int (0 : Int32)), .inl (.int a2)]) (P1 := P) rfl ⟨trivial, trivial, trivial, trivial⟩ ?_
  refine tr_cRI (z := km_240) (av := [.inl (.int a2), .inl (.int (0 : Int32)), .inl (.int (7 : Int32))]) (st' := []) rfl rfl rfl (Nat.le_of_ble_eq_true rfl) trivial rfl (Nat.le_of_ble_eq_true rfl) (t_240 P a2 (0 : Int32) (7 : Int32)) (fun v1 => ?_)
  refine tr_if (fun h8 => ?_) (fun h8 => ?_)
  · refine tr_ifT (cd := .eq) h8 ?_
    refine tr_nil (rows2 := kb_314_20) rfl (List.cons_ne_nil _ _) ?_
    refine tr_blk 1 (pc' := 21) (rows' := kb_314_20.drop 1) (loc' := [.inr (0, 0, 0, i0), .inl (.int a1), .inl (.int a2), ab_top]) (st' := [.inl (.int (0 : Int32))]) (P1 := P) rfl ⟨trivial, trivial⟩ ?_
    exact tr_reI (z := km_314) rfl ⟨_, rfl, rfl⟩ rfl
  · refine tr_ifF (cd := .eq) h8 ?_
    refine tr_blk 3 (pc' := 14) (rows' := kb_314_0.drop 8) (loc' := [.inr (0, 0, 0, i0), .inl (.int a1), .inl (.int a2), ab_top]) (st' := [.inl (.int (16 : Int32)), .inl (.int (0 : Int32)), .inl (.int a1)]) (P1 := P) rfl ⟨trivial, trivial, trivial, trivial⟩ ?_
    refine tr_cRI (z := km_240) (av := [.inl (.int a1), .inl (.int (0 : Int32)), .inl (.int (16 : Int32))]) (st' := []) rfl rfl rfl (Nat.le_of_ble_eq_true rfl) trivial rfl (Nat.le_of_ble_eq_true rfl) (t_240 P a1 (0 : Int32) (16 : Int32)) (fun v2 => ?_)
    refine tr_if (fun h9 => ?_) (fun h9 => ?_)
    · refine tr_ifF (cd := .ne) (fun q => q h9) ?_
      refine tr_nil (rows2 := kb_314_20) rfl (List.cons_ne_nil _ _) ?_
      refine tr_blk 1 (pc' := 21) (rows' := kb_314_20.drop 1) (loc' := [.inr (0, 0, 0, i0), .inl (.int a1), .inl (.int a2), ab_top]) (st' := [.inl (.int (0 : Int32))]) (P1 := P) rfl ⟨trivial, trivial⟩ ?_
      exact tr_reI (z := km_314) rfl ⟨_, rfl, rfl⟩ rfl
    · refine tr_ifT (cd := .ne) h9 ?_
      refine tr_nil (rows2 := kb_314_22) rfl (List.cons_ne_nil _ _) ?_
      refine tr_gd (fun h3 => ?_)
      refine tr_blk 10 (pc' := 35) (rows' := kb_314_22.drop 10) (loc' := [.inr (0, 0, 0, i0), .inl (.int a1), .inl (.int a2), .inl (.int ((a1 * (8 : Int32)) + a2))]) (st' := [.inl (.int (P.1 (i0 + 7) a2.toNatClampNeg))]) (P1 := P) rfl ⟨trivial, trivial, trivial, trivial, trivial, trivial, trivial, trivial, trivial, h3, trivial⟩ ?_
      refine tr_if (fun h10 => ?_) (fun h10 => ?_)
      · refine tr_ifT (cd := .eq) h10 ?_
        refine tr_nil (rows2 := kb_314_68) rfl (List.cons_ne_nil _ _) ?_
        refine tr_blk 1 (pc' := 69) (rows' := kb_314_68.drop 1) (loc' := [.inr (0, 0, 0, i0), .inl (.int a1), .inl (.int a2), .inl (.int ((a1 * (8 : Int32)) + a2))]) (st' := [.inl (.int (1 : Int32))]) (P1 := P) rfl ⟨trivial, trivial⟩ ?_
        refine tr_goto ?_
        refine tr_nil (rows2 := kb_314_73) rfl (List.cons_ne_nil _ _) ?_
        exact tr_reI (z := km_314) rfl ⟨_, rfl, rfl⟩ rfl
      · refine tr_ifF (cd := .eq) h10 ?_
        refine tr_gd (fun h4 => ?_)
        refine tr_gd (fun h5 => ?_)
        refine tr_blk 8 (pc' := 50) (rows' := kb_314_22.drop 19) (loc' := [.inr (0, 0, 0, i0), .inl (.int a1), .inl (.int a2), .inl (.int ((a1 * (8 : Int32)) + a2))]) (st' := [.inl (.int (P.1 (i0 + 8) a2.toNatClampNeg)), .inl (.int (P.1 (i0 + 9) (((a1 * (8 : Int32)) + a2)).toNatClampNeg))]) (P1 := P) rfl ⟨trivial, trivial, trivial, h4, trivial, trivial, trivial, h5, trivial⟩ ?_
        refine tr_if (fun h11 => ?_) (fun h11 => ?_)
        · refine tr_icT (cd := .gt) h11 ?_
          refine tr_nil (rows2 := kb_314_72) rfl (List.cons_ne_nil _ _) ?_
          refine tr_blk 1 (pc' := 73) (rows' := kb_314_72.drop 1) (loc' := [.inr (0, 0, 0, i0), .inl (.int a1), .inl (.int a2), .inl (.int ((a1 * (8 : Int32)) + a2))]) (st' := [.inl (.int (0 : Int32))]) (P1 := P) rfl ⟨trivial, trivial⟩ ?_
          refine tr_nil (rows2 := kb_314_73) rfl (List.cons_ne_nil _ _) ?_
          exact tr_reI (z := km_314) rfl ⟨_, rfl, rfl⟩ rfl
        · refine tr_icF (cd := .gt) h11 ?_
          refine tr_gd (fun h6 => ?_)
          refine tr_gd (fun h7 => ?_)
          refine tr_blk 8 (pc' := 65) (rows' := kb_314_22.drop 28) (loc' := [.inr (0, 0, 0, i0), .inl (.int a1), .inl (.int a2), .inl (.int ((a1 * (8 : Int32)) + a2))]) (st' := [.inl (.int (P.1 (i0 + 10) (((a1 * (8 : Int32)) + a2)).toNatClampNeg)), .inl (.int (P.1 (i0 + 8) a2.toNatClampNeg))]) (P1 := P) rfl ⟨trivial, trivial, trivial, h6, trivial, trivial, trivial, h7, trivial⟩ ?_
          refine tr_if (fun h12 => ?_) (fun h12 => ?_)
          · refine tr_icT (cd := .gt) h12 ?_
            refine tr_nil (rows2 := kb_314_72) rfl (List.cons_ne_nil _ _) ?_
            refine tr_blk 1 (pc' := 73) (rows' := kb_314_72.drop 1) (loc' := [.inr (0, 0, 0, i0), .inl (.int a1), .inl (.int a2), .inl (.int ((a1 * (8 : Int32)) + a2))]) (st' := [.inl (.int (0 : Int32))]) (P1 := P) rfl ⟨trivial, trivial⟩ ?_
            refine tr_nil (rows2 := kb_314_73) rfl (List.cons_ne_nil _ _) ?_
            exact tr_reI (z := km_314) rfl ⟨_, rfl, rfl⟩ rfl
          · refine tr_icF (cd := .gt) h12 ?_
            refine tr_nil (rows2 := kb_314_68) rfl (List.cons_ne_nil _ _) ?_
            refine tr_blk 1 (pc' := 69) (rows' := kb_314_68.drop 1) (loc' := [.inr (0, 0, 0, i0), .inl (.int a1), .inl (.int a2), .inl (.int ((a1 * (8 : Int32)) + a2))]) (st' := [.inl (.int (1 : Int32))]) (P1 := P) rfl ⟨trivial, trivial⟩ ?_
            refine tr_goto ?_
            refine tr_nil (rows2 := kb_314_73) rfl (List.cons_ne_nil _ _) ?_
            exact tr_reI (z := km_314) rfl ⟨_, rfl, rfl⟩ rfl
def f_345 (i0 : Nat) (a1 : Int32) (a2 : Int32) (P : ab_P) : Option ab_P :=
    if ab_gi a1 16 then
    if ab_gi a1 16 then
    Option.bind (f_240 P (P.1 (i0 + 4) a1.toNatClampNeg) (0 : Int32) (7 : Int32)) fun v3 =>
    if v3 = (0 : Int32) then
      some P
    else
    Option.bind (f_240 P (P.1 (i0 + 5) a1.toNatClampNeg) (0 : Int32) (7 : Int32)) fun v4 =>
    if v4 = (0 : Int32) then
      some P
    else
    if ab_gi (P.1 (i0 + 4) a1.toNatClampNeg) 8 then
    if ab_gi a1 16 then
    if ab_gi (P.1 (i0 + 4) a1.toNatClampNeg) 8 then
    ab_lt (ab_pI P (i0 + 8) ((P.1 (i0 + 4) a1.toNatClampNeg)).toNatClampNeg ((P.1 (i0 + 8) ((P.1 (i0 + 4) a1.toNatClampNeg)).toNatClampNeg) + (a2 * (P.1 (i0 + 6) a1.toNatClampNeg)))) fun P8 =>
    if ab_gi (P.1 (i0 + 5) a1.toNatClampNeg) 8 then
    if ab_gi a1 16 then
    if ab_gi (P.1 (i0 + 5) a1.toNatClampNeg) 8 then
    ab_lt (ab_pI P8 (i0 + 8) ((P.1 (i0 + 5) a1.toNatClampNeg)).toNatClampNeg ((P8.1 (i0 + 8) ((P.1 (i0 + 5) a1.toNatClampNeg)).toNatClampNeg) - (a2 * (P8.1 (i0 + 6) a1.toNatClampNeg)))) fun P12 =>
    some P12
    else none
    else none
    else none
    else none
    else none
    else none
    else none
    else none
theorem t_345 {xs : Nat × (Nat → Int32)} {d : Nat} (i0 : Nat) : ∀ (a1 : Int32) (a2 : Int32) (P : ab_P), ab_tr xs wV (d + 1) 345 0 [] [.inr (0, 0, 0, i0), .inl (.int a1), .inl (.int a2), ab_top, ab_top] [] P (f_345 i0 a1 a2 P) := by
  intro a1 a2 P
  unfold f_345
  refine tr_nil (rows2 := kb_345_0) rfl (List.cons_ne_nil _ _) ?_
  refine tr_gd (fun h1 => ?_)
  refine tr_gd (fun h2 => ?_)
  refine tr_blk 13 (pc' := 19) (rows' := kb_345_0.drop 13) (loc' := [.inr (0, 0, 0, i0), .inl (.int a1), .inl (.int a2), .inl (.int (P.1 (i0 + 4) a1.toNatClampNeg)), .inl (.int (P.1 (i0 + 5) a1.toNatClampNeg))]) (st' := [.inl (.int (7 : Int32)), .inl (.int (0 : Int32)), .inl (.int (P.1 (i0 + 4) a1.toNatClampNeg))]) (P1 := P) rfl ⟨trivial, trivial, trivial, h1, trivial, trivial, trivial, trivial, h2, trivial, trivial, trivial, trivial, trivial⟩ ?_
  refine tr_cRI (z := km_240) (av := [.inl (.int (P.1 (i0 + 4) a1.toNatClampNeg)), .inl (.int (0 : Int32)), .inl (.int (7 : Int32))]) (st' := []) rfl rfl rfl (Nat.le_of_ble_eq_true rfl) trivial rfl (Nat.le_of_ble_eq_true rfl) (t_240 P (P.1 (i0 + 4) a1.toNatClampNeg) (0 : Int32) (7 : Int32)) (fun v3 => ?_)
  refine tr_if (fun h13 => ?_) (fun h13 => ?_)
  · refine tr_ifT (cd := .eq) h13 ?_
    refine tr_nil (rows2 := kb_345_71) rfl (List.cons_ne_nil _ _) ?_
    exact tr_reV (z := km_345) rfl rfl rfl
  · refine tr_ifF (cd := .eq) h13 ?_
    refine tr_blk 3 (pc' := 30) (rows' := kb_345_0.drop 18) (loc' := [.inr (0, 0, 0, i0), .inl (.int a1), .inl (.int a2), .inl (.int (P.1 (i0 + 4) a1.toNatClampNeg)), .inl (.int (P.1 (i0 + 5) a1.toNatClampNeg))]) (st' := [.inl (.int (7 : Int32)), .inl (.int (0 : Int32)), .inl (.int (P.1 (i0 + 5) a1.toNatClampNeg))]) (P1 := P) rfl ⟨trivial, trivial, trivial, trivial⟩ ?_
    refine tr_cRI (z := km_240) (av := [.inl (.int (P.1 (i0 + 5) a1.toNatClampNeg)), .inl (.int (0 : Int32)), .inl (.int (7 : Int32))]) (st' := []) rfl rfl rfl (Nat.le_of_ble_eq_true rfl) trivial rfl (Nat.le_of_ble_eq_true rfl) (t_240 P (P.1 (i0 + 5) a1.toNatClampNeg) (0 : Int32) (7 : Int32)) (fun v4 => ?_)
    refine tr_if (fun h14 => ?_) (fun h14 => ?_)
    · refine tr_ifT (cd := .eq) h14 ?_
      refine tr_nil (rows2 := kb_345_71) rfl (List.cons_ne_nil _ _) ?_
      exact tr_reV (z := km_345) rfl rfl rfl
    · refine tr_ifF (cd := .eq) h14 ?_
      refine tr_gd (fun h5 => ?_)
      refine tr_gd (fun h6 => ?_)
      refine tr_gd (fun h7 => ?_)
      refine tr_blk 13 (pc' := 53) (rows' := kb_345_0.drop 33) (loc' := [.inr (0, 0, 0, i0), .inl (.int a1), .inl (.int a2), .inl (.int (P.1 (i0 + 4) a1.toNatClampNeg)), .inl (.int (P.1 (i0 + 5) a1.toNatClampNeg))]) (st' := []) (P1 := (ab_pI P (i0 + 8) ((P.1 (i0 + 4) a1.toNatClampNeg)).toNatClampNeg ((P.1 (i0 + 8) ((P.1 (i0 + 4) a1.toNatClampNeg)).toNatClampNeg) + (a2 * (P.1 (i0 + 6) a1.toNatClampNeg))))) rfl ⟨trivial, trivial, trivial, trivial, h5, trivial, trivial, trivial, trivial, h6, trivial, trivial, h7, trivial⟩ ?_
      refine tr_lt (fun P8 => ?_)
      refine tr_gd (fun h9 => ?_)
      refine tr_gd (fun h10 => ?_)
      refine tr_gd (fun h11 => ?_)
      refine tr_blk 13 (pc' := 71) (rows' := kb_345_0.drop 46) (loc' := [.inr (0, 0, 0, i0), .inl (.int a1), .inl (.int a2), .inl (.int (P.1 (i0 + 4) a1.toNatClampNeg)), .inl (.int (P.1 (i0 + 5) a1.toNatClampNeg))]) (st' := []) (P1 := (ab_pI P8 (i0 + 8) ((P.1 (i0 + 5) a1.toNatClampNeg)).toNatClampNeg ((P8.1 (i0 + 8) ((P.1 (i0 + 5) a1.toNatClampNeg)).toNatClampNeg) - (a2 * (P8.1 (i0 + 6) a1.toNatClampNeg))))) rfl ⟨trivial, trivial, trivial, trivial, h9, trivial, trivial, trivial, trivial, h10, trivial, trivial, h11, trivial⟩ ?_
      refine tr_lt (fun P12 => ?_)
      refine tr_nil (rows2 := kb_345_71) rfl (List.cons_ne_nil _ _) ?_
      exact tr_reV (z := km_345) rfl rfl rfl
def f_315_75 (i0 : Nat) (R : Int32 → Int32 → Int64 → ab_P → Option ab_P) (x2 : Int32) (x3 : Int64) (x5 : Int32) (P : ab_P) : Option ab_P :=
    Option.bind (f_345 i0 x5 (1 : Int32) P) fun P8 =>
    if ab_gi x5 16 then
    Option.bind (f_314 i0 P8 x5 (P8.1 (i0 + 4) x5.toNatClampNeg)) fun v10 =>
    if v10 = (0 : Int32) then
      Option.bind (f_345 i0 x5 (-1 : Int32) P8) fun P11 =>
      some P11
    else
    if ab_gi x5 16 then
    Option.bind (f_314 i0 P8 x5 (P8.1 (i0 + 5) x5.toNatClampNeg)) fun v13 =>
    if v13 = (0 : Int32) then
      Option.bind (f_345 i0 x5 (-1 : Int32) P8) fun P14 =>
      some P14
    else
    if ab_gi x5 16 then
    Option.bind (R x5 (x2 + (1 : Int32)) (x3 ||| ((1 : Int64) <<< (((P8.1 (i0 + 3) x5.toNatClampNeg)).toInt64 &&& 63))) P8) fun P16 =>
    Option.bind (f_345 i0 x5 (-1 : Int32) P16) fun P17 =>
    some P17
    else none
    else none
    else none
theorem t_315_75 {xs : Nat × (Nat → Int32)} {d : Nat} (i0 : Nat) (R : Int32 → Int32 → Int64 → ab_P → Option ab_P) (hR : ∀ (a1 : Int32) (a2 : Int32) (a3 : Int64) (P : ab_P), ab_tr xs wV (d + 3) 315 0 [] [.inr (0, 0, 0, i0), .inl (.int a1), .inl (.int a2), .inl (.long a3), ab_top, ab_top] [] P (R a1 a2 a3 P)) : ∀ (x2 : Int32) (x3 : Int64) (x5 : Int32) (d1 : Int32) (P : ab_P), ab_tr xs wV (d + 4) 315 75 [] [.inr (0, 0, 0, i0), .inl (.int d1), .inl (.int x2), .inl (.long x3), ab_top, .inl (.int x5)] [] P (f_315_75 i0 R x2 x3 x5 P) := by
  intro x2 x3 x5 d1 P
  unfold f_315_75
  refine tr_nil (rows2 := kb_315_75) rfl (List.cons_ne_nil _ _) ?_
  refine tr_blk 3 (pc' := 79) (rows' := kb_315_75.drop 3) (loc' := [.inr (0, 0, 0, i0), .inl (.int d1), .inl (.int x2), .inl (.long x3), ab_top, .inl (.int x5)]) (st' := [.inl (.int (1 : Int32)), .inl (.int x5), .inr (0, 0, 0, i0)]) (P1 := P) rfl ⟨trivial, trivial, trivial, trivial⟩ ?_
  refine tr_cWV (z := km_345) (av := [.inr (0, 0, 0, i0), .inl (.int x5), .inl (.int (1 : Int32))]) (st' := []) rfl rfl rfl (Nat.le_of_ble_eq_true rfl) ⟨rfl, Or.inl (by decide)⟩ rfl (Nat.le_of_ble_eq_true rfl) (t_345 i0 x5 (1 : Int32) P) (fun P8 => ?_)
  refine tr_gd (fun h9 => ?_)
  refine tr_blk 6 (pc' := 92) (rows' := kb_315_75.drop 10) (loc' := [.inr (0, 0, 0, i0), .inl (.int d1), .inl (.int x2), .inl (.long x3), ab_top, .inl (.int x5)]) (st' := [.inl (.int (P8.1 (i0 + 4) x5.toNatClampNeg)), .inl (.int x5), .inr (0, 0, 0, i0)]) (P1 := P8) rfl ⟨trivial, trivial, trivial, trivial, trivial, h9, trivial⟩ ?_
  refine tr_cRI (z := km_314) (av := [.inr (0, 0, 0, i0), .inl (.int x5), .inl (.int (P8.1 (i0 + 4) x5.toNatClampNeg))]) (st' := []) rfl rfl rfl (Nat.le_of_ble_eq_true rfl) ⟨rfl, Or.inl (by decide)⟩ rfl (Nat.le_of_ble_eq_true rfl) (t_314 i0 P8 x5 (P8.1 (i0 + 4) x5.toNatClampNeg)) (fun v10 => ?_)
  refine tr_if (fun h18 => ?_) (fun h18 => ?_)
  · refine tr_ifT (cd := .eq) h18 ?_
    refine tr_nil (rows2 := kb_315_134) rfl (List.cons_ne_nil _ _) ?_
    refine tr_blk 3 (pc' := 138) (rows' := kb_315_134.drop 3) (loc' := [.inr (0, 0, 0, i0), .inl (.int d1), .inl (.int x2), .inl (.long x3), ab_top, .inl (.int x5)]) (st' := [.inl (.int (-1 : Int32)), .inl (.int x5), .inr (0, 0, 0, i0)]) (P1 := P8) rfl ⟨trivial, trivial, trivial, trivial⟩ ?_
    refine tr_cWV (z := km_345) (av := [.inr (0, 0, 0, i0), .inl (.int x5), .inl (.int (-1 : Int32))]) (st' := []) rfl rfl rfl (Nat.le_of_ble_eq_true rfl) ⟨rfl, Or.inl (by decide)⟩ rfl (Nat.le_of_ble_eq_true rfl) (t_345 i0 x5 (-1 : Int32) P8) (fun P11 => ?_)
    exact tr_reV (z := km_315) rfl rfl rfl
  · refine tr_ifF (cd := .eq) h18 ?_
    refine tr_gd (fun h12 => ?_)
    refine tr_blk 6 (pc' := 108) (rows' := kb_315_75.drop 18) (loc' := [.inr (0, 0, 0, i0), .inl (.int d1), .inl (.int x2), .inl (.long x3), ab_top, .inl (.int x5)]) (st' := [.inl (.int (P8.1 (i0 + 5) x5.toNatClampNeg)), .inl (.int x5), .inr (0, 0, 0, i0)]) (P1 := P8) rfl ⟨trivial, trivial, trivial, trivial, trivial, h12, trivial⟩ ?_
    refine tr_cRI (z := km_314) (av := [.inr (0, 0, 0, i0), .inl (.int x5), .inl (.int (P8.1 (i0 + 5) x5.toNatClampNeg))]) (st' := []) rfl rfl rfl (Nat.le_of_ble_eq_true rfl) ⟨rfl, Or.inl (by decide)⟩ rfl (Nat.le_of_ble_eq_true rfl) (t_314 i0 P8 x5 (P8.1 (i0 + 5) x5.toNatClampNeg)) (fun v13 => ?_)
    refine tr_if (fun h19 => ?_) (fun h19 => ?_)
    · refine tr_ifT (cd := .eq) h19 ?_
      refine tr_nil (rows2 := kb_315_134) rfl (List.cons_ne_nil _ _) ?_
      refine tr_blk 3 (pc' := 138) (rows' := kb_315_134.drop 3) (loc' := [.inr (0, 0, 0, i0), .inl (.int d1), .inl (.int x2), .inl (.long x3), ab_top, .inl (.int x5)]) (st' := [.inl (.int (-1 : Int32)), .inl (.int x5), .inr (0, 0, 0, i0)]) (P1 := P8) rfl ⟨trivial, trivial, trivial, trivial⟩ ?_
      refine tr_cWV (z := km_345) (av := [.inr (0, 0, 0, i0), .inl (.int x5), .inl (.int (-1 : Int32))]) (st' := []) rfl rfl rfl (Nat.le_of_ble_eq_true rfl) ⟨rfl, Or.inl (by decide)⟩ rfl (Nat.le_of_ble_eq_true rfl) (t_345 i0 x5 (-1 : Int32) P8) (fun P14 => ?_)
      exact tr_reV (z := km_315) rfl rfl rfl
    · refine tr_ifF (cd := .eq) h19 ?_
      refine tr_gd (fun h15 => ?_)
      refine tr_blk 13 (pc' := 131) (rows' := kb_315_75.drop 33) (loc' := [.inr (0, 0, 0, i0), .inl (.int d1), .inl (.int x2), .inl (.long x3), ab_top, .inl (.int x5)]) (st' := [.inl (.long (x3 ||| ((1 : Int64) <<< (((P8.1 (i0 + 3) x5.toNatClampNeg)).toInt64 &&& 63)))), .inl (.int (x2 + (1 : Int32))), .inl (.int x5), .inr (0, 0, 0, i0)]) (P1 := P8) rfl ⟨trivial, trivial, trivial, trivial, trivial, trivial, trivial, trivial, trivial, trivial, h15, trivial, trivial, trivial⟩ ?_
      refine tr_cWV (z := km_315) (av := [.inr (0, 0, 0, i0), .inl (.int x5), .inl (.int (x2 + (1 : Int32))), .inl (.long (x3 ||| ((1 : Int64) <<< (((P8.1 (i0 + 3) x5.toNatClampNeg)).toInt64 &&& 63))))]) (st' := []) rfl rfl rfl (Nat.le_of_ble_eq_true rfl) trivial rfl (Nat.le_of_ble_eq_true rfl) (hR x5 (x2 + (1 : Int32)) (x3 ||| ((1 : Int64) <<< (((P8.1 (i0 + 3) x5.toNatClampNeg)).toInt64 &&& 63))) P8) (fun P16 => ?_)
      refine tr_nil (rows2 := kb_315_134) rfl (List.cons_ne_nil _ _) ?_
      refine tr_blk 3 (pc' := 138) (rows' := kb_315_134.drop 3) (loc' := [.inr (0, 0, 0, i0), .inl (.int d1), .inl (.int x2), .inl (.long x3), ab_top, .inl (.int x5)]) (st' := [.inl (.int (-1 : Int32)), .inl (.int x5), .inr (0, 0, 0, i0)]) (P1 := P16) rfl ⟨trivial, trivial, trivial, trivial⟩ ?_
      refine tr_cWV (z := km_345) (av := [.inr (0, 0, 0, i0), .inl (.int x5), .inl (.int (-1 : Int32))]) (st' := []) rfl rfl rfl (Nat.le_of_ble_eq_true rfl) ⟨rfl, Or.inl (by decide)⟩ rfl (Nat.le_of_ble_eq_true rfl) (t_345 i0 x5 (-1 : Int32) P16) (fun P17 => ?_)
      exact tr_reV (z := km_315) rfl rfl rfl
def f_315 (i0 : Nat) : Nat → Int32 → Int32 → Int64 → ab_P → Option ab_P
  | 0, _, _, _, _ => none
  | n + 1, a1, a2, a3, P =>
    if a2 < (P.1 i0 12) then
      if (16 : Int32) < a1 then
        some P
      else
      if (0 : Int32) < a1 then
        if ab_gi (a1 - (1 : Int32)) 16 then
        Option.bind (f_314 i0 P (a1 - (1 : Int32)) (P.1 (i0 + 4) ((a1 - (1 : Int32))).toNatClampNeg)) fun v2 =>
        if v2 = (0 : Int32) then
          f_315_75 i0 (fun y0 y1 y2 y3 => f_315 i0 n y0 y1 y2 y3) a2 a3 (a1 - (1 : Int32)) P
        else
        if ab_gi (a1 - (1 : Int32)) 16 then
        Option.bind (f_314 i0 P (a1 - (1 : Int32)) (P.1 (i0 + 5) ((a1 - (1 : Int32))).toNatClampNeg)) fun v4 =>
        if v4 = (0 : Int32) then
          f_315_75 i0 (fun y0 y1 y2 y3 => f_315 i0 n y0 y1 y2 y3) a2 a3 (a1 - (1 : Int32)) P
        else
        Option.bind (f_315 i0 n (a1 - (1 : Int32)) a2 a3 P) fun P5 =>
        f_315_75 i0 (fun y0 y1 y2 y3 => f_315 i0 n y0 y1 y2 y3) a2 a3 (a1 - (1 : Int32)) P5
        else none
        else none
      else
      ab_lt (ab_pI P i0 12 a2) fun P6 =>
      ab_lt (ab_pL P6 i0 13 a3) fun P7 =>
      some P7
    else
    some P
theorem t_315 {xs : Nat × (Nat → Int32)} (i0 : Nat) : ∀ (n d : Nat) (a1 : Int32) (a2 : Int32) (a3 : Int64) (P : ab_P), ab_tr xs wV (d + 3 * n + 3) 315 0 [] [.inr (0, 0, 0, i0), .inl (.int a1), .inl (.int a2), .inl (.long a3), ab_top, ab_top] [] P (f_315 i0 n a1 a2 a3 P) := by
  intro n
  induction n with
  | zero => intro d a1 a2 a3 P; exact tr_no
  | succ n ih =>
    intro d a1 a2 a3 P
    refine tr_up (d1 := (d + 3 * n) + 4) (by omega) ?_
    refine tr_nil (rows2 := kb_315_0) rfl (List.cons_ne_nil _ _) ?_
    refine tr_blk 3 (pc' := 5) (rows' := kb_315_0.drop 3) (loc' := [.inr (0, 0, 0, i0), .inl (.int a1), .inl (.int a2), .inl (.long a3), ab_top, ab_top]) (st' := [.inl (.int (P.1 i0 12)), .inl (.int a2)]) (P1 := P) rfl ⟨trivial, trivial, trivial, trivial⟩ ?_
    refine tr_if (fun h20 => ?_) (fun h20 => ?_)
    · refine tr_icF (cd := .ge) (Int32.not_le.mpr h20) ?_
      refine tr_blk 2 (pc' := 11) (rows' := kb_315_0.drop 6) (loc' := [.inr (0, 0, 0, i0), .inl (.int a1), .inl (.int a2), .inl (.long a3), ab_top, ab_top]) (st' := [.inl (.int (16 : Int32)), .inl (.int a1)]) (P1 := P) rfl ⟨trivial, trivial, trivial⟩ ?_
      refine tr_if (fun h21 => ?_) (fun h21 => ?_)
      · refine tr_icF (cd := .le) (Int32.not_le.mpr h21) ?_
        refine tr_nil (rows2 := kb_315_14) rfl (List.cons_ne_nil _ _) ?_
        exact tr_reV (z := km_315) rfl rfl rfl
      · refine tr_icT (cd := .le) (Int32.not_lt.mp h21) ?_
        refine tr_nil (rows2 := kb_315_15) rfl (List.cons_ne_nil _ _) ?_
        refine tr_blk 1 (pc' := 16) (rows' := kb_315_15.drop 1) (loc' := [.inr (0, 0, 0, i0), .inl (.int a1), .inl (.int a2), .inl (.long a3), ab_top, ab_top]) (st' := [.inl (.int a1)]) (P1 := P) rfl ⟨trivial, trivial⟩ ?_
        refine tr_if (fun h22 => ?_) (fun h22 => ?_)
        · refine tr_ifT (cd := .gt) h22 ?_
          refine tr_nil (rows2 := kb_315_30) rfl (List.cons_ne_nil _ _) ?_
          refine tr_gd (fun h1 => ?_)
          refine tr_blk 10 (pc' := 45) (rows' := kb_315_30.drop 10) (loc' := [.inr (0, 0, 0, i0), .inl (.int a1), .inl (.int a2), .inl (.long a3), ab_top, .inl (.int (a1 - (1 : Int32)))]) (st' := [.inl (.int (P.1 (i0 + 4) ((a1 - (1 : Int32))).toNatClampNeg)), .inl (.int (a1 - (1 : Int32))), .inr (0, 0, 0, i0)]) (P1 := P) rfl ⟨trivial, trivial, trivial, trivial, trivial, trivial, trivial, trivial, trivial, h1, trivial⟩ ?_
          refine tr_cRI (z := km_314) (av := [.inr (0, 0, 0, i0), .inl (.int (a1 - (1 : Int32))), .inl (.int (P.1 (i0 + 4) ((a1 - (1 : Int32))).toNatClampNeg))]) (st' := []) rfl rfl rfl (Nat.le_of_ble_eq_true rfl) ⟨rfl, Or.inl (by decide)⟩ rfl (Nat.le_of_ble_eq_true rfl) (t_314 i0 P (a1 - (1 : Int32)) (P.1 (i0 + 4) ((a1 - (1 : Int32))).toNatClampNeg)) (fun v2 => ?_)
          refine tr_if (fun h23 => ?_) (fun h23 => ?_)
          · refine tr_ifT (cd := .eq) h23 ?_
            exact t_315_75 i0 (fun y0 y1 y2 y3 => f_315 i0 n y0 y1 y2 y3) (ih d) a2 a3 (a1 - (1 : Int32)) (a1) P
          · refine tr_ifF (cd := .eq) h23 ?_
            refine tr_gd (fun h3 => ?_)
            refine tr_blk 6 (pc' := 61) (rows' := kb_315_30.drop 18) (loc' := [.inr (0, 0, 0, i0), .inl (.int a1), .inl (.int a2), .inl (.long a3), ab_top, .inl (.int (a1 - (1 : Int32)))]) (st' := [.inl (.int (P.1 (i0 + 5) ((a1 - (1 : Int32))).toNatClampNeg)), .inl (.int (a1 - (1 : Int32))), .inr (0, 0, 0, i0)]) (P1 := P) rfl ⟨trivial, trivial, trivial, trivial, trivial, h3, trivial⟩ ?_
            refine tr_cRI (z := km_314) (av := [.inr (0, 0, 0, i0), .inl (.int (a1 - (1 : Int32))), .inl (.int (P.1 (i0 + 5) ((a1 - (1 : Int32))).toNatClampNeg))]) (st' := []) rfl rfl rfl (Nat.le_of_ble_eq_true rfl) ⟨rfl, Or.inl (by decide)⟩ rfl (Nat.le_of_ble_eq_true rfl) (t_314 i0 P (a1 - (1 : Int32)) (P.1 (i0 + 5) ((a1 - (1 : Int32))).toNatClampNeg)) (fun v4 => ?_)
            refine tr_if (fun h24 => ?_) (fun h24 => ?_)
            · refine tr_ifT (cd := .eq) h24 ?_
              exact t_315_75 i0 (fun y0 y1 y2 y3 => f_315 i0 n y0 y1 y2 y3) (ih d) a2 a3 (a1 - (1 : Int32)) (a1) P
            · refine tr_ifF (cd := .eq) h24 ?_
              refine tr_blk 4 (pc' := 72) (rows' := kb_315_30.drop 24) (loc' := [.inr (0, 0, 0, i0), .inl (.int a1), .inl (.int a2), .inl (.long a3), ab_top, .inl (.int (a1 - (1 : Int32)))]) (st' := [.inl (.long a3), .inl (.int a2), .inl (.int (a1 - (1 : Int32))), .inr (0, 0, 0, i0)]) (P1 := P) rfl ⟨trivial, trivial, trivial, trivial, trivial⟩ ?_
              refine tr_cWV (z := km_315) (av := [.inr (0, 0, 0, i0), .inl (.int (a1 - (1 : Int32))), .inl (.int a2), .inl (.long a3)]) (st' := []) rfl rfl rfl (Nat.le_of_ble_eq_true rfl) trivial rfl (Nat.le_of_ble_eq_true rfl) ((ih d) (a1 - (1 : Int32)) a2 a3 P) (fun P5 => ?_)
              exact t_315_75 i0 (fun y0 y1 y2 y3 => f_315 i0 n y0 y1 y2 y3) (ih d) a2 a3 (a1 - (1 : Int32)) (a1) P5
        · refine tr_ifF (cd := .gt) h22 ?_
          refine tr_blk 3 (pc' := 24) (rows' := kb_315_15.drop 5) (loc' := [.inr (0, 0, 0, i0), .inl (.int a1), .inl (.int a2), .inl (.long a3), ab_top, ab_top]) (st' := []) (P1 := (ab_pI P i0 12 a2)) rfl ⟨trivial, trivial, trivial, trivial⟩ ?_
          refine tr_lt (fun P6 => ?_)
          refine tr_blk 3 (pc' := 29) (rows' := kb_315_15.drop 8) (loc' := [.inr (0, 0, 0, i0), .inl (.int a1), .inl (.int a2), .inl (.long a3), ab_top, ab_top]) (st' := []) (P1 := (ab_pL P6 i0 13 a3)) rfl ⟨trivial, trivial, trivial, trivial⟩ ?_
          refine tr_lt (fun P7 => ?_)
          exact tr_reV (z := km_315) rfl rfl rfl
    · refine tr_icT (cd := .ge) (Int32.not_lt.mp h20) ?_
      refine tr_nil (rows2 := kb_315_14) rfl (List.cons_ne_nil _ _) ?_
      exact tr_reV (z := km_315) rfl rfl rfl
theorem tq_315 {xs : Nat × (Nat → Int32)} {d : Nat} (i0 : Nat) (K : Nat) (hd : 3 * K ≤ d) (a1 : Int32) (a2 : Int32) (a3 : Int64) (P : ab_P) : ab_tr xs wV (d + 3) 315 0 [] [.inr (0, 0, 0, i0), .inl (.int a1), .inl (.int a2), .inl (.long a3), ab_top, ab_top] [] P (f_315 i0 K a1 a2 a3 P) := by
  have h := t_315 (xs := xs) i0 K (d - 3 * K) a1 a2 a3 P
  rw [Nat.sub_add_cancel hd] at h
  exact h
def f_259_31 (i0 : Nat) (i1 : Nat) (K : Nat) : Nat → Int32 → ab_P → Option ab_P
  | 0, _, _ => none
  | n + 1, x2, P =>
    if x2 < (8 : Int32) then
      Option.bind (f_314 i0 P (P.1 i0 7) x2) fun v8 =>
      if v8 = (0 : Int32) then
        some P
      else
      f_259_31 i0 i1 K n (x2 + 1) P
    else
    Option.bind (f_315 i0 K (P.1 i0 7) (0 : Int32) (0 : Int64) P) fun P7 =>
    some P7
theorem t_259_31 {xs : Nat × (Nat → Int32)} {d : Nat} (i0 : Nat) (i1 : Nat) (K : Nat) (hd : 3 * K ≤ d) : ∀ n : Nat, ∀ (x2 : Int32) (P : ab_P), ab_tr xs wV (d + 4) 259 31 [] [.inr (0, 0, 0, i0), .inr (6, 0, 0, i1), .inl (.int x2)] [] P (f_259_31 i0 i1 K n x2 P) := by
  intro n
  induction n with
  | zero => intro x2 P; exact tr_no
  | succ n ih =>
    intro x2 P
    refine tr_nil (rows2 := kb_259_31) rfl (List.cons_ne_nil _ _) ?_
    refine tr_blk 2 (pc' := 34) (rows' := kb_259_31.drop 2) (loc' := [.inr (0, 0, 0, i0), .inr (6, 0, 0, i1), .inl (.int x2)]) (st' := [.inl (.int (8 : Int32)), .inl (.int x2)]) (P1 := P) rfl ⟨trivial, trivial, trivial⟩ ?_
    refine tr_if (fun h9 => ?_) (fun h9 => ?_)
    · refine tr_icF (cd := .ge) (Int32.not_le.mpr h9) ?_
      refine tr_blk 4 (pc' := 43) (rows' := kb_259_31.drop 7) (loc' := [.inr (0, 0, 0, i0), .inr (6, 0, 0, i1), .inl (.int x2)]) (st' := [.inl (.int x2), .inl (.int (P.1 i0 7)), .inr (0, 0, 0, i0)]) (P1 := P) rfl ⟨trivial, trivial, trivial, trivial, trivial⟩ ?_
      refine tr_cRI (z := km_314) (av := [.inr (0, 0, 0, i0), .inl (.int (P.1 i0 7)), .inl (.int x2)]) (st' := []) rfl rfl rfl (Nat.le_of_ble_eq_true rfl) ⟨rfl, Or.inl (by decide)⟩ rfl (Nat.le_of_ble_eq_true rfl) (t_314 i0 P (P.1 i0 7) x2) (fun v8 => ?_)
      refine tr_if (fun h10 => ?_) (fun h10 => ?_)
      · refine tr_ifF (cd := .ne) (fun q => q h10) ?_
        exact tr_reV (z := km_259) rfl rfl rfl
      · refine tr_ifT (cd := .ne) h10 ?_
        refine tr_nil (rows2 := kb_259_50) rfl (List.cons_ne_nil _ _) ?_
        refine tr_blk 1 (pc' := 53) (rows' := kb_259_50.drop 1) (loc' := [.inr (0, 0, 0, i0), .inr (6, 0, 0, i1), .inl (.int (x2 + 1))]) (st' := []) (P1 := P) rfl ⟨trivial, trivial⟩ ?_
        refine tr_goto ?_
        exact ih (x2 + 1) P
    · refine tr_icT (cd := .ge) (Int32.not_lt.mp h9) ?_
      refine tr_nil (rows2 := kb_259_56) rfl (List.cons_ne_nil _ _) ?_
      refine tr_blk 5 (pc' := 63) (rows' := kb_259_56.drop 5) (loc' := [.inr (0, 0, 0, i0), .inr (6, 0, 0, i1), .inl (.int x2)]) (st' := [.inl (.long (0 : Int64)), .inl (.int (0 : Int32)), .inl (.int (P.1 i0 7)), .inr (0, 0, 0, i0)]) (P1 := P) rfl ⟨trivial, trivial, trivial, trivial, trivial, trivial⟩ ?_
      refine tr_cWV (z := km_315) (av := [.inr (0, 0, 0, i0), .inl (.int (P.1 i0 7)), .inl (.int (0 : Int32)), .inl (.long (0 : Int64))]) (st' := []) rfl rfl rfl (Nat.le_of_ble_eq_true rfl) trivial rfl (Nat.le_of_ble_eq_true rfl) (tq_315 i0 K (by omega) (P.1 i0 7) (0 : Int32) (0 : Int64) P) (fun P7 => ?_)
      exact tr_reV (z := km_259) rfl rfl rfl
def f_259 (i0 : Nat) (i1 : Nat) (K : Nat) (N : Nat) (P : ab_P) : Option ab_P :=
    ab_lt (ab_pI P i0 12 (17 : Int32)) fun P1 =>
    ab_lt (ab_pL P1 i0 13 (0 : Int64)) fun P2 =>
    Option.bind (f_311 i0 i1 N P2) fun P3 =>
    ab_b2 (f_312 i0 i1 N P3) fun v5 P4 =>
    if v5 = (0 : Int32) then
      some P4
    else
    Option.bind (f_313 i0 N P4) fun P6 =>
    f_259_31 i0 i1 K N (0 : Int32) P6
theorem t_259 {xs : Nat × (Nat → Int32)} {d : Nat} (i0 : Nat) (i1 : Nat) (K : Nat) (N : Nat) (hd : 3 * K ≤ d) : ∀ (P : ab_P), ab_tr xs wV (d + 4) 259 0 [] [.inr (0, 0, 0, i0), .inr (6, 0, 0, i1), ab_top] [] P (f_259 i0 i1 K N P) := by
  intro P
  unfold f_259
  refine tr_nil (rows2 := kb_259_0) rfl (List.cons_ne_nil _ _) ?_
  refine tr_blk 3 (pc' := 6) (rows' := kb_259_0.drop 3) (loc' := [.inr (0, 0, 0, i0), .inr (6, 0, 0, i1), ab_top]) (st' := []) (P1 := (ab_pI P i0 12 (17 : Int32))) rfl ⟨trivial, trivial, trivial, trivial⟩ ?_
  refine tr_lt (fun P1 => ?_)
  refine tr_blk 3 (pc' := 11) (rows' := kb_259_0.drop 6) (loc' := [.inr (0, 0, 0, i0), .inr (6, 0, 0, i1), ab_top]) (st' := []) (P1 := (ab_pL P1 i0 13 (0 : Int64))) rfl ⟨trivial, trivial, trivial, trivial⟩ ?_
  refine tr_lt (fun P2 => ?_)
  refine tr_blk 2 (pc' := 13) (rows' := kb_259_0.drop 8) (loc' := [.inr (0, 0, 0, i0), .inr (6, 0, 0, i1), ab_top]) (st' := [.inr (6, 0, 0, i1), .inr (0, 0, 0, i0)]) (P1 := P2) rfl ⟨trivial, trivial, trivial⟩ ?_
  refine tr_cWV (z := km_311) (av := [.inr (0, 0, 0, i0), .inr (6, 0, 0, i1)]) (st' := []) rfl rfl rfl (Nat.le_of_ble_eq_true rfl) ⟨rfl, Or.inl (by decide)⟩ rfl (Nat.le_of_ble_eq_true rfl) (t_311 i0 i1 N P2) (fun P3 => ?_)
  refine tr_blk 2 (pc' := 18) (rows' := kb_259_0.drop 11) (loc' := [.inr (0, 0, 0, i0), .inr (6, 0, 0, i1), ab_top]) (st' := [.inr (6, 0, 0, i1), .inr (0, 0, 0, i0)]) (P1 := P3) rfl ⟨trivial, trivial, trivial⟩ ?_
  refine tr_cWI (z := km_312) (av := [.inr (0, 0, 0, i0), .inr (6, 0, 0, i1)]) (st' := []) rfl rfl rfl (Nat.le_of_ble_eq_true rfl) ⟨rfl, Or.inl (by decide)⟩ rfl (Nat.le_of_ble_eq_true rfl) (t_312 i0 i1 N P3) (fun v5 P4 => ?_)
  refine tr_if (fun h11 => ?_) (fun h11 => ?_)
  · refine tr_ifF (cd := .ne) (fun q => q h11) ?_
    exact tr_reV (z := km_259) rfl rfl rfl
  · refine tr_ifT (cd := .ne) h11 ?_
    refine tr_nil (rows2 := kb_259_25) rfl (List.cons_ne_nil _ _) ?_
    refine tr_blk 1 (pc' := 26) (rows' := kb_259_25.drop 1) (loc' := [.inr (0, 0, 0, i0), .inr (6, 0, 0, i1), ab_top]) (st' := [.inr (0, 0, 0, i0)]) (P1 := P4) rfl ⟨trivial, trivial⟩ ?_
    refine tr_cWV (z := km_313) (av := [.inr (0, 0, 0, i0)]) (st' := []) rfl rfl rfl (Nat.le_of_ble_eq_true rfl) ⟨rfl, Or.inl (by decide)⟩ rfl (Nat.le_of_ble_eq_true rfl) (t_313 i0 N P4) (fun P6 => ?_)
    refine tr_blk 2 (pc' := 31) (rows' := kb_259_25.drop 4) (loc' := [.inr (0, 0, 0, i0), .inr (6, 0, 0, i1), .inl (.int (0 : Int32))]) (st' := []) (P1 := P6) rfl ⟨trivial, trivial, trivial⟩ ?_
    exact t_259_31 i0 i1 K hd N (0 : Int32) P6
def f_260 (i0 : Nat) (P : ab_P) : Option Int32 :=
    if (16 : Int32) < (P.1 i0 12) then
      some (0 : Int32)
    else
    some (1 : Int32)
theorem t_260 {xs : Nat × (Nat → Int32)} {d : Nat} (i0 : Nat) (P : ab_P) : ab_tr xs (rI P) (d + 0) 260 0 [] [.inr (0, 0, 0, i0)] [] P (f_260 i0 P) := by
  unfold f_260
  refine tr_nil (rows2 := kb_260_0) rfl (List.cons_ne_nil _ _) ?_
  refine tr_blk 3 (pc' := 6) (rows' := kb_260_0.drop 3) (loc' := [.inr (0, 0, 0, i0)]) (st' := [.inl (.int (16 : Int32)), .inl (.int (P.1 i0 12))]) (P1 := P) rfl ⟨trivial, trivial, trivial, trivial⟩ ?_
  refine tr_if (fun h1 => ?_) (fun h1 => ?_)
  · refine tr_icT (cd := .gt) h1 ?_
    refine tr_nil (rows2 := kb_260_13) rfl (List.cons_ne_nil _ _) ?_
    refine tr_blk 1 (pc' := 14) (rows' := kb_260_13.drop 1) (loc' := [.inr (0, 0, 0, i0)]) (st' := [.inl (.int (0 : Int32))]) (P1 := P) rfl ⟨trivial, trivial⟩ ?_
    refine tr_nil (rows2 := kb_260_14) rfl (List.cons_ne_nil _ _) ?_
    exact tr_reI (z := km_260) rfl ⟨_, rfl, rfl⟩ rfl
  · refine tr_icF (cd := .gt) h1 ?_
    refine tr_blk 1 (pc' := 10) (rows' := kb_260_0.drop 5) (loc' := [.inr (0, 0, 0, i0)]) (st' := [.inl (.int (1 : Int32))]) (P1 := P) rfl ⟨trivial, trivial⟩ ?_
    refine tr_goto ?_
    refine tr_nil (rows2 := kb_260_14) rfl (List.cons_ne_nil _ _) ?_
    exact tr_reI (z := km_260) rfl ⟨_, rfl, rfl⟩ rfl
def f_165_36 (K : Nat) (N : Nat) (x1 : Int32) (s0 : Int32) (P : ab_P) : Option ((Int64 ⊕ Fin 3) × ab_P) :=
    ab_x2 (f_258 s0 P) (fun _ P3 =>
    Option.bind (f_259 21 43 K N P3) fun P4 =>
    Option.bind (f_260 21 P4) fun v5 =>
    if v5 = (0 : Int32) then
      some (.inl (-1 : Int64), P4)
    else
    if x1 = (0 : Int32) then
      some (.inl ((P4.1 21 12)).toInt64, P4)
    else
    some (.inl (P4.2.1 21 13), P4)) (fun q => q)
theorem t_165_36 {xs : Nat × (Nat → Int32)} {d : Nat} (K : Nat) (N : Nat) (hd : 3 * K ≤ d) : ∀ (x1 : Int32) (s0 : Int32) (P : ab_P), ab_tr xs xL (d + 5) 165 36 [] [.inr (11, 0, 0, 0), .inl (.int x1)] [.inl (.int s0), .inr (11, 0, 0, 0)] P (f_165_36 K N x1 s0 P) := by
  intro x1 s0 P
  unfold f_165_36
  refine tr_nil (rows2 := kb_165_36) rfl (List.cons_ne_nil _ _) ?_
  refine tr_cax (fun _ => none) (zi := km_165) (fun _ => rfl) (fun _ _ => rfl) rfl rfl (z := km_258) (av := [.inr (11, 0, 0, 0), .inl (.int s0)]) (st' := []) rfl rfl rfl (Nat.le_of_ble_eq_true rfl) ⟨rfl, Or.inl (by decide)⟩ rfl (Nat.le_of_ble_eq_true rfl) (t_258 s0 P) (fun _ P3 => ?_)
  refine tr_blk 4 (pc' := 47) (rows' := kb_165_36.drop 5) (loc' := [.inr (11, 0, 0, 0), .inl (.int x1)]) (st' := [.inr (6, 0, 0, 43), .inr (0, 0, 0, 21)]) (P1 := P3) rfl ⟨trivial, trivial, trivial, trivial, trivial⟩ ?_
  refine tr_cWV (z := km_259) (av := [.inr (0, 0, 0, 21), .inr (6, 0, 0, 43)]) (st' := []) rfl rfl rfl (Nat.le_of_ble_eq_true rfl) ⟨rfl, Or.inl (by decide)⟩ rfl (Nat.le_of_ble_eq_true rfl) (t_259 21 43 K N (by omega) P3) (fun P4 => ?_)
  refine tr_blk 2 (pc' := 54) (rows' := kb_165_36.drop 8) (loc' := [.inr (11, 0, 0, 0), .inl (.int x1)]) (st' := [.inr (0, 0, 0, 21)]) (P1 := P4) rfl ⟨trivial, trivial, trivial⟩ ?_
  refine tr_cRI (z := km_260) (av := [.inr (0, 0, 0, 21)]) (st' := []) rfl rfl rfl (Nat.le_of_ble_eq_true rfl) ⟨rfl, Or.inl (by decide)⟩ rfl (Nat.le_of_ble_eq_true rfl) (t_260 21 P4) (fun v5 => ?_)
  refine tr_if (fun h6 => ?_) (fun h6 => ?_)
  · refine tr_ifF (cd := .ne) (fun q => q h6) ?_
    refine tr_blk 1 (pc' := 63) (rows' := kb_165_36.drop 11) (loc' := [.inr (11, 0, 0, 0), .inl (.int x1)]) (st' := [.inl (.long (-1 : Int64))]) (P1 := P4) rfl ⟨trivial, trivial⟩ ?_
    exact tr_reL (z := km_165) rfl rfl rfl
  · refine tr_ifT (cd := .ne) h6 ?_
    refine tr_nil (rows2 := kb_165_64) rfl (List.cons_ne_nil _ _) ?_
    refine tr_blk 1 (pc' := 65) (rows' := kb_165_64.drop 1) (loc' := [.inr (11, 0, 0, 0), .inl (.int x1)]) (st' := [.inl (.int x1)]) (P1 := P4) rfl ⟨trivial, trivial⟩ ?_
    refine tr_if (fun h7 => ?_) (fun h7 => ?_)
    · refine tr_ifF (cd := .ne) (fun q => q h7) ?_
      refine tr_blk 4 (pc' := 76) (rows' := kb_165_64.drop 6) (loc' := [.inr (11, 0, 0, 0), .inl (.int x1)]) (st' := [.inl (.long ((P4.1 21 12)).toInt64)]) (P1 := P4) rfl ⟨trivial, trivial, trivial, trivial, trivial⟩ ?_
      refine tr_goto ?_
      refine tr_nil (rows2 := kb_165_86) rfl (List.cons_ne_nil _ _) ?_
      exact tr_reL (z := km_165) rfl rfl rfl
    · refine tr_ifT (cd := .ne) h7 ?_
      refine tr_nil (rows2 := kb_165_79) rfl (List.cons_ne_nil _ _) ?_
      refine tr_blk 3 (pc' := 86) (rows' := kb_165_79.drop 3) (loc' := [.inr (11, 0, 0, 0), .inl (.int x1)]) (st' := [.inl (.long (P4.2.1 21 13))]) (P1 := P4) rfl ⟨trivial, trivial, trivial, trivial⟩ ?_
      refine tr_nil (rows2 := kb_165_86) rfl (List.cons_ne_nil _ _) ?_
      exact tr_reL (z := km_165) rfl rfl rfl
def f_165_15 (K : Nat) (N : Nat) (x1 : Int32) (s0 : Int32) (P : ab_P) : Option ((Int64 ⊕ Fin 3) × ab_P) :=
    ab_x2 (f_228 s0 P) (fun _ P1 =>
    Option.bind (f_229 43 N P1) fun v2 =>
    if (16 : Int32) < v2 then
      f_165_36 K N x1 (0 : Int32) P1
    else
    f_165_36 K N x1 (1 : Int32) P1) (fun q => q)
theorem t_165_15 {xs : Nat × (Nat → Int32)} {d : Nat} (K : Nat) (N : Nat) (hd : 3 * K ≤ d) : ∀ (x1 : Int32) (s0 : Int32) (P : ab_P), ab_tr xs xL (d + 5) 165 15 [] [.inr (11, 0, 0, 0), .inl (.int x1)] [.inl (.int s0), .inr (11, 0, 0, 0)] P (f_165_15 K N x1 s0 P) := by
  intro x1 s0 P
  unfold f_165_15
  refine tr_nil (rows2 := kb_165_15) rfl (List.cons_ne_nil _ _) ?_
  refine tr_cax (fun _ => none) (zi := km_165) (fun _ => rfl) (fun _ _ => rfl) rfl rfl (z := km_228) (av := [.inr (11, 0, 0, 0), .inl (.int s0)]) (st' := []) rfl rfl rfl (Nat.le_of_ble_eq_true rfl) ⟨rfl, Or.inl (by decide)⟩ rfl (Nat.le_of_ble_eq_true rfl) (t_228 s0 P) (fun _ P1 => ?_)
  refine tr_blk 3 (pc' := 23) (rows' := kb_165_15.drop 4) (loc' := [.inr (11, 0, 0, 0), .inl (.int x1)]) (st' := [.inr (6, 0, 0, 43), .inr (11, 0, 0, 0)]) (P1 := P1) rfl ⟨trivial, trivial, trivial, trivial⟩ ?_
  refine tr_cRI (z := km_229) (av := [.inr (6, 0, 0, 43)]) (st' := [.inr (11, 0, 0, 0)]) rfl rfl rfl (Nat.le_of_ble_eq_true rfl) ⟨rfl, Or.inl (by decide)⟩ rfl (Nat.le_of_ble_eq_true rfl) (t_229 43 N P1) (fun v2 => ?_)
  refine tr_blk 1 (pc' := 28) (rows' := kb_165_15.drop 6) (loc' := [.inr (11, 0, 0, 0), .inl (.int x1)]) (st' := [.inl (.int (16 : Int32)), .inl (.int v2), .inr (11, 0, 0, 0)]) (P1 := P1) rfl ⟨trivial, trivial⟩ ?_
  refine tr_if (fun h8 => ?_) (fun h8 => ?_)
  · refine tr_icT (cd := .gt) h8 ?_
    refine tr_nil (rows2 := kb_165_35) rfl (List.cons_ne_nil _ _) ?_
    refine tr_blk 1 (pc' := 36) (rows' := kb_165_35.drop 1) (loc' := [.inr (11, 0, 0, 0), .inl (.int x1)]) (st' := [.inl (.int (0 : Int32)), .inr (11, 0, 0, 0)]) (P1 := P1) rfl ⟨trivial, trivial⟩ ?_
    exact t_165_36 K N hd x1 (0 : Int32) P1
  · refine tr_icF (cd := .gt) h8 ?_
    refine tr_blk 1 (pc' := 32) (rows' := kb_165_15.drop 8) (loc' := [.inr (11, 0, 0, 0), .inl (.int x1)]) (st' := [.inl (.int (1 : Int32)), .inr (11, 0, 0, 0)]) (P1 := P1) rfl ⟨trivial, trivial⟩ ?_
    refine tr_goto ?_
    exact t_165_36 K N hd x1 (1 : Int32) P1
def f_165 (K : Nat) (N : Nat) (a1 : Int32) (P : ab_P) : Option ((Int64 ⊕ Fin 3) × ab_P) :=
    if a1 = (0 : Int32) then
      f_165_15 K N a1 (1 : Int32) P
    else
    if a1 = (1 : Int32) then
      f_165_15 K N a1 (1 : Int32) P
    else
    f_165_15 K N a1 (0 : Int32) P
theorem t_165 {xs : Nat × (Nat → Int32)} {d : Nat} (K : Nat) (N : Nat) (hd : 3 * K ≤ d) : ∀ (a1 : Int32) (P : ab_P), ab_tr xs xL (d + 5) 165 0 [] [.inr (11, 0, 0, 0), .inl (.int a1)] [] P (f_165 K N a1 P) := by
  intro a1 P
  unfold f_165
  refine tr_nil (rows2 := kb_165_0) rfl (List.cons_ne_nil _ _) ?_
  refine tr_blk 2 (pc' := 2) (rows' := kb_165_0.drop 2) (loc' := [.inr (11, 0, 0, 0), .inl (.int a1)]) (st' := [.inl (.int a1), .inr (11, 0, 0, 0)]) (P1 := P) rfl ⟨trivial, trivial, trivial⟩ ?_
  refine tr_if (fun h9 => ?_) (fun h9 => ?_)
  · refine tr_ifT (cd := .eq) h9 ?_
    refine tr_nil (rows2 := kb_165_10) rfl (List.cons_ne_nil _ _) ?_
    refine tr_blk 1 (pc' := 11) (rows' := kb_165_10.drop 1) (loc' := [.inr (11, 0, 0, 0), .inl (.int a1)]) (st' := [.inl (.int (1 : Int32)), .inr (11, 0, 0, 0)]) (P1 := P) rfl ⟨trivial, trivial⟩ ?_
    refine tr_goto ?_
    exact t_165_15 K N hd a1 (1 : Int32) P
  · refine tr_ifF (cd := .eq) h9 ?_
    refine tr_blk 2 (pc' := 7) (rows' := kb_165_0.drop 5) (loc' := [.inr (11, 0, 0, 0), .inl (.int a1)]) (st' := [.inl (.int (1 : Int32)), .inl (.int a1), .inr (11, 0, 0, 0)]) (P1 := P) rfl ⟨trivial, trivial, trivial⟩ ?_
    refine tr_if (fun h10 => ?_) (fun h10 => ?_)
    · refine tr_icF (cd := .ne) (fun q => q h10) ?_
      refine tr_nil (rows2 := kb_165_10) rfl (List.cons_ne_nil _ _) ?_
      refine tr_blk 1 (pc' := 11) (rows' := kb_165_10.drop 1) (loc' := [.inr (11, 0, 0, 0), .inl (.int a1)]) (st' := [.inl (.int (1 : Int32)), .inr (11, 0, 0, 0)]) (P1 := P) rfl ⟨trivial, trivial⟩ ?_
      refine tr_goto ?_
      exact t_165_15 K N hd a1 (1 : Int32) P
    · refine tr_icT (cd := .ne) h10 ?_
      refine tr_nil (rows2 := kb_165_14) rfl (List.cons_ne_nil _ _) ?_
      refine tr_blk 1 (pc' := 15) (rows' := kb_165_14.drop 1) (loc' := [.inr (11, 0, 0, 0), .inl (.int a1)]) (st' := [.inl (.int (0 : Int32)), .inr (11, 0, 0, 0)]) (P1 := P) rfl ⟨trivial, trivial⟩ ?_
      exact t_165_15 K N hd a1 (0 : Int32) P
def f_50_1 (K : Nat) (N : Nat) (a1 : Int32) (P : ab_P) : Option (Int32 × ab_P) :=
    ab_h2 (f_165 K N a1 P) (fun v2 P1 =>
    ab_lt (ab_pL P1 570 0 v2) fun P3 =>
    some ((0 : Int32), P3))
    (fun _ => none) (fun P9 => some ((1 : Int32), P9)) (fun P9 => some ((2 : Int32), P9))
theorem t_50_1 {xs : Nat × (Nat → Int32)} {d : Nat} (K : Nat) (N : Nat) (hd : 3 * K ≤ d) : ∀ (a1 : Int32) (P : ab_P), ab_tr xs wI (d + 6) 50 0 [] [.inr (11, 0, 0, 0), .inl (.int a1), .inr (22, 1, 0, 570), ab_top] [] P (f_50_1 K N a1 P) := by
  intro a1 P
  unfold f_50_1
  refine tr_nil (rows2 := kb_50_0) rfl (List.cons_ne_nil _ _) ?_
  refine tr_blk 4 (pc' := 4) (rows' := kb_50_0.drop 4) (loc' := [.inr (11, 0, 0, 0), .inl (.int a1), .inr (22, 1, 0, 570), ab_top]) (st' := [.inl (.int a1), .inr (11, 0, 0, 0), .inl (.int (0 : Int32)), .inr (22, 1, 0, 570)]) (P1 := P) rfl ⟨trivial, trivial, trivial, trivial, trivial⟩ ?_
  refine tr_cah (fun b => some (.inl (.long b))) (zi := km_50) (fun _ => rfl) rfl (z := km_165) (av := [.inr (11, 0, 0, 0), .inl (.int a1)]) (st' := [.inl (.int (0 : Int32)), .inr (22, 1, 0, 570)]) rfl rfl rfl (Nat.le_of_ble_eq_true rfl) ⟨rfl, Or.inl (by decide)⟩ rfl (Nat.le_of_ble_eq_true rfl) (t_165 K N (by omega) a1 P) (fun v2 P1 => ?_) ?_ ?_ ?_
  · refine tr_blk 1 (pc' := 8) (rows' := kb_50_0.drop 6) (loc' := [.inr (11, 0, 0, 0), .inl (.int a1), .inr (22, 1, 0, 570), ab_top]) (st' := []) (P1 := (ab_pL P1 570 0 v2)) rfl ⟨(ab_vi (by decide)), trivial⟩ ?_
    refine tr_lt (fun P3 => ?_)
    refine tr_goto ?_
    refine tr_nil (rows2 := kb_50_17) rfl (List.cons_ne_nil _ _) ?_
    refine tr_blk 1 (pc' := 18) (rows' := kb_50_17.drop 1) (loc' := [.inr (11, 0, 0, 0), .inl (.int a1), .inr (22, 1, 0, 570), ab_top]) (st' := [.inl (.int (0 : Int32))]) (P1 := P3) rfl ⟨trivial, trivial⟩ ?_
    exact tr_reI (z := km_50) rfl ⟨_, rfl, rfl⟩ rfl
  · exact fun _ => rfl
  · exact fun _ => tr_han (rows2 := kb_50_11) (z := km_50) _ (fun q => [.inr (11, 0, 0, 0), .inl (.int a1), .inr (22, 1, 0, 570), .inr (40, 1, 0, q)]) rfl (List.cons_ne_nil _ _) (fun q => rfl) ⟨trivial, trivial, trivial⟩ rfl ⟨_, rfl, rfl⟩ rfl
  · exact fun _ => tr_han (rows2 := kb_50_14) (z := km_50) _ (fun q => [.inr (11, 0, 0, 0), .inl (.int a1), .inr (22, 1, 0, 570), .inr (40, 2, 0, q)]) rfl (List.cons_ne_nil _ _) (fun q => rfl) ⟨trivial, trivial, trivial⟩ rfl ⟨_, rfl, rfl⟩ rfl
def f_166_82 (P : ab_P) (H16 : Int32 → Int32 → Int32 → Int32 → Int32 → Option Int32) (x1 : Int32) (x2 : Int32) (x3 : Int32) (x5 : Int32) (s0 : Int32) (s1 : Int32) : Option Int32 :=
    if ab_gi x5 16 then
    Option.bind (f_135_366 477 P (P.1 568 x5.toNatClampNeg) (0 : Int32)) fun v8 =>
    if ab_gi x3 8 then
    if v8 = (P.1 (426 + 1 + x3.toNatClampNeg) 0) then
      if ab_gi x5 16 then
      Option.bind (f_135_366 477 P (P.1 568 x5.toNatClampNeg) (2 : Int32)) fun v11 =>
      H16 x1 x2 x3 ((s1 + s0) - v11) (x5 + 1)
      else none
    else
    H16 x1 x2 x3 ((s1 + s0) - (0 : Int32)) (x5 + 1)
    else none
    else none
theorem t_166_82 {xs : Nat × (Nat → Int32)} {d : Nat} (P : ab_P) (H16 : Int32 → Int32 → Int32 → Int32 → Int32 → Option Int32) (hH16 : ∀ (x1 : Int32) (x2 : Int32) (x3 : Int32) (x4 : Int32) (x5 : Int32), ab_tr xs (rI P) (d + 1) 166 16 [] [.inr (12, 0, 0, 72), .inl (.int x1), .inl (.int x2), .inl (.int x3), .inl (.int x4), .inl (.int x5)] [] P (H16 x1 x2 x3 x4 x5)) : ∀ (x1 : Int32) (x2 : Int32) (x3 : Int32) (x5 : Int32) (s0 : Int32) (s1 : Int32) (d4 : Int32), ab_tr xs (rI P) (d + 1) 166 82 [] [.inr (12, 0, 0, 72), .inl (.int x1), .inl (.int x2), .inl (.int x3), .inl (.int d4), .inl (.int x5)] [.inl (.int s0), .inl (.int s1)] P (f_166_82 P H16 x1 x2 x3 x5 s0 s1) := by
  intro x1 x2 x3 x5 s0 s1 d4
  unfold f_166_82
  refine tr_nil (rows2 := kb_166_82) rfl (List.cons_ne_nil _ _) ?_
  refine tr_gd (fun h7 => ?_)
  refine tr_blk 10 (pc' := 99) (rows' := kb_166_82.drop 10) (loc' := [.inr (12, 0, 0, 72), .inl (.int x1), .inl (.int x2), .inl (.int x3), .inl (.int (s1 + s0)), .inl (.int x5)]) (st' := [.inl (.int (0 : Int32)), .inl (.int (P.1 568 x5.toNatClampNeg)), .inr (20, 366, 0, 477), .inl (.int (s1 + s0))]) (P1 := P) rfl ⟨trivial, trivial, trivial, trivial, trivial, trivial, trivial, trivial, h7, trivial, trivial⟩ ?_
  refine tr_cRI (z := km_135) (av := [.inr (20, 366, 0, 477), .inl (.int (P.1 568 x5.toNatClampNeg)), .inl (.int (0 : Int32))]) (st' := [.inl (.int (s1 + s0))]) rfl rfl rfl (Nat.le_of_ble_eq_true rfl) trivial rfl (Nat.le_of_ble_eq_true rfl) (t_135_366 477 P (P.1 568 x5.toNatClampNeg) (0 : Int32)) (fun v8 => ?_)
  refine tr_gd (fun h9 => ?_)
  refine tr_blk 6 (pc' := 110) (rows' := kb_166_82.drop 17) (loc' := [.inr (12, 0, 0, 72), .inl (.int x1), .inl (.int x2), .inl (.int x3), .inl (.int (s1 + s0)), .inl (.int x5)]) (st' := [.inl (.int (P.1 (426 + 1 + x3.toNatClampNeg) 0)), .inl (.int v8), .inl (.int (s1 + s0))]) (P1 := P) rfl ⟨trivial, trivial, trivial, ⟨h9, ab_grl h9⟩, trivial, (ab_vi (by decide)), trivial⟩ ?_
  refine tr_if (fun h12 => ?_) (fun h12 => ?_)
  · refine tr_icF (cd := .ne) (fun q => q h12) ?_
    refine tr_gd (fun h10 => ?_)
    refine tr_blk 7 (pc' := 125) (rows' := kb_166_82.drop 25) (loc' := [.inr (12, 0, 0, 72), .inl (.int x1), .inl (.int x2), .inl (.int x3), .inl (.int (s1 + s0)), .inl (.int x5)]) (st' := [.inl (.int (2 : Int32)), .inl (.int (P.1 568 x5.toNatClampNeg)), .inr (20, 366, 0, 477), .inl (.int (s1 + s0))]) (P1 := P) rfl ⟨trivial, trivial, trivial, trivial, trivial, h10, trivial, trivial⟩ ?_
    refine tr_cRI (z := km_135) (av := [.inr (20, 366, 0, 477), .inl (.int (P.1 568 x5.toNatClampNeg)), .inl (.int (2 : Int32))]) (st' := [.inl (.int (s1 + s0))]) rfl rfl rfl (Nat.le_of_ble_eq_true rfl) trivial rfl (Nat.le_of_ble_eq_true rfl) (t_135_366 477 P (P.1 568 x5.toNatClampNeg) (2 : Int32)) (fun v11 => ?_)
    refine tr_goto ?_
    refine tr_nil (rows2 := kb_166_132) rfl (List.cons_ne_nil _ _) ?_
    refine tr_blk 2 (pc' := 135) (rows' := kb_166_132.drop 2) (loc' := [.inr (12, 0, 0, 72), .inl (.int x1), .inl (.int x2), .inl (.int x3), .inl (.int ((s1 + s0) - v11)), .inl (.int x5)]) (st' := []) (P1 := P) rfl ⟨trivial, trivial, trivial⟩ ?_
    refine tr_nil (rows2 := kb_166_135) rfl (List.cons_ne_nil _ _) ?_
    refine tr_blk 1 (pc' := 138) (rows' := kb_166_135.drop 1) (loc' := [.inr (12, 0, 0, 72), .inl (.int x1), .inl (.int x2), .inl (.int x3), .inl (.int ((s1 + s0) - v11)), .inl (.int (x5 + 1))]) (st' := []) (P1 := P) rfl ⟨trivial, trivial⟩ ?_
    refine tr_goto ?_
    exact hH16 x1 x2 x3 ((s1 + s0) - v11) (x5 + 1)
  · refine tr_icT (cd := .ne) h12 ?_
    refine tr_nil (rows2 := kb_166_131) rfl (List.cons_ne_nil _ _) ?_
    refine tr_blk 1 (pc' := 132) (rows' := kb_166_131.drop 1) (loc' := [.inr (12, 0, 0, 72), .inl (.int x1), .inl (.int x2), .inl (.int x3), .inl (.int (s1 + s0)), .inl (.int x5)]) (st' := [.inl (.int (0 : Int32)), .inl (.int (s1 + s0))]) (P1 := P) rfl ⟨trivial, trivial⟩ ?_
    refine tr_nil (rows2 := kb_166_132) rfl (List.cons_ne_nil _ _) ?_
    refine tr_blk 2 (pc' := 135) (rows' := kb_166_132.drop 2) (loc' := [.inr (12, 0, 0, 72), .inl (.int x1), .inl (.int x2), .inl (.int x3), .inl (.int ((s1 + s0) - (0 : Int32))), .inl (.int x5)]) (st' := []) (P1 := P) rfl ⟨trivial, trivial, trivial⟩ ?_
    refine tr_nil (rows2 := kb_166_135) rfl (List.cons_ne_nil _ _) ?_
    refine tr_blk 1 (pc' := 138) (rows' := kb_166_135.drop 1) (loc' := [.inr (12, 0, 0, 72), .inl (.int x1), .inl (.int x2), .inl (.int x3), .inl (.int ((s1 + s0) - (0 : Int32))), .inl (.int (x5 + 1))]) (st' := []) (P1 := P) rfl ⟨trivial, trivial⟩ ?_
    refine tr_goto ?_
    exact hH16 x1 x2 x3 ((s1 + s0) - (0 : Int32)) (x5 + 1)
def f_166_16 (P : ab_P) (H2 : Int32 → Int32 → Int32 → Option Int32) : Nat → Int32 → Int32 → Int32 → Int32 → Int32 → Option Int32
  | 0, _, _, _, _, _ => none
  | n + 1, x1, x2, x3, x4, x5 =>
    if x5 < x2 then
      if ((x1 >>> (x5 &&& 31)) &&& (1 : Int32)) = (1 : Int32) then
        f_166_16 P H2 n x1 x2 x3 x4 (x5 + 1)
      else
      if ab_gi x5 16 then
      Option.bind (f_135_366 477 P (P.1 568 x5.toNatClampNeg) (1 : Int32)) fun v3 =>
      if ab_gi x3 8 then
      if v3 = (P.1 (426 + 1 + x3.toNatClampNeg) 0) then
        if ab_gi x5 16 then
        Option.bind (f_135_366 477 P (P.1 568 x5.toNatClampNeg) (2 : Int32)) fun v6 =>
        f_166_82 P (fun y0 y1 y2 y3 y4 => f_166_16 P H2 n y0 y1 y2 y3 y4) x1 x2 x3 x5 v6 x4
        else none
      else
      f_166_82 P (fun y0 y1 y2 y3 y4 => f_166_16 P H2 n y0 y1 y2 y3 y4) x1 x2 x3 x5 (0 : Int32) x4
      else none
      else none
    else
    if ab_gi x3 8 then
    if x4 = (P.1 (426 + 1 + x3.toNatClampNeg) 1) then
      H2 x1 x2 (x3 + 1)
    else
    some (0 : Int32)
    else none
theorem t_166_16 {xs : Nat × (Nat → Int32)} {d : Nat} (P : ab_P) (H2 : Int32 → Int32 → Int32 → Option Int32) (hH2 : ∀ (x1 : Int32) (x2 : Int32) (x3 : Int32) (d4 : ab_V) (d5 : ab_V), ab_tr xs (rI P) (d + 1) 166 2 [] [.inr (12, 0, 0, 72), .inl (.int x1), .inl (.int x2), .inl (.int x3), d4, d5] [] P (H2 x1 x2 x3)) : ∀ n : Nat, ∀ (x1 : Int32) (x2 : Int32) (x3 : Int32) (x4 : Int32) (x5 : Int32), ab_tr xs (rI P) (d + 1) 166 16 [] [.inr (12, 0, 0, 72), .inl (.int x1), .inl (.int x2), .inl (.int x3), .inl (.int x4), .inl (.int x5)] [] P (f_166_16 P H2 n x1 x2 x3 x4 x5) := by
  intro n
  induction n with
  | zero => intro x1 x2 x3 x4 x5; exact tr_no
  | succ n ih =>
    intro x1 x2 x3 x4 x5
    refine tr_nil (rows2 := kb_166_16) rfl (List.cons_ne_nil _ _) ?_
    refine tr_blk 2 (pc' := 19) (rows' := kb_166_16.drop 2) (loc' := [.inr (12, 0, 0, 72), .inl (.int x1), .inl (.int x2), .inl (.int x3), .inl (.int x4), .inl (.int x5)]) (st' := [.inl (.int x2), .inl (.int x5)]) (P1 := P) rfl ⟨trivial, trivial, trivial⟩ ?_
    refine tr_if (fun h13 => ?_) (fun h13 => ?_)
    · refine tr_icF (cd := .ge) (Int32.not_le.mpr h13) ?_
      refine tr_blk 6 (pc' := 29) (rows' := kb_166_16.drop 9) (loc' := [.inr (12, 0, 0, 72), .inl (.int x1), .inl (.int x2), .inl (.int x3), .inl (.int x4), .inl (.int x5)]) (st' := [.inl (.int (1 : Int32)), .inl (.int ((x1 >>> (x5 &&& 31)) &&& (1 : Int32)))]) (P1 := P) rfl ⟨trivial, trivial, trivial, trivial, trivial, trivial, trivial⟩ ?_
      refine tr_if (fun h15 => ?_) (fun h15 => ?_)
      · refine tr_icF (cd := .ne) (fun q => q h15) ?_
        refine tr_goto ?_
        refine tr_nil (rows2 := kb_166_135) rfl (List.cons_ne_nil _ _) ?_
        refine tr_blk 1 (pc' := 138) (rows' := kb_166_135.drop 1) (loc' := [.inr (12, 0, 0, 72), .inl (.int x1), .inl (.int x2), .inl (.int x3), .inl (.int x4), .inl (.int (x5 + 1))]) (st' := []) (P1 := P) rfl ⟨trivial, trivial⟩ ?_
        refine tr_goto ?_
        exact ih x1 x2 x3 x4 (x5 + 1)
      · refine tr_icT (cd := .ne) h15 ?_
        refine tr_nil (rows2 := kb_166_35) rfl (List.cons_ne_nil _ _) ?_
        refine tr_gd (fun h2 => ?_)
        refine tr_blk 8 (pc' := 49) (rows' := kb_166_35.drop 8) (loc' := [.inr (12, 0, 0, 72), .inl (.int x1), .inl (.int x2), .inl (.int x3), .inl (.int x4), .inl (.int x5)]) (st' := [.inl (.int (1 : Int32)), .inl (.int (P.1 568 x5.toNatClampNeg)), .inr (20, 366, 0, 477), .inl (.int x4)]) (P1 := P) rfl ⟨trivial, trivial, trivial, trivial, trivial, trivial, h2, trivial, trivial⟩ ?_
        refine tr_cRI (z := km_135) (av := [.inr (20, 366, 0, 477), .inl (.int (P.1 568 x5.toNatClampNeg)), .inl (.int (1 : Int32))]) (st' := [.inl (.int x4)]) rfl rfl rfl (Nat.le_of_ble_eq_true rfl) trivial rfl (Nat.le_of_ble_eq_true rfl) (t_135_366 477 P (P.1 568 x5.toNatClampNeg) (1 : Int32)) (fun v3 => ?_)
        refine tr_gd (fun h4 => ?_)
        refine tr_blk 6 (pc' := 60) (rows' := kb_166_35.drop 15) (loc' := [.inr (12, 0, 0, 72), .inl (.int x1), .inl (.int x2), .inl (.int x3), .inl (.int x4), .inl (.int x5)]) (st' := [.inl (.int (P.1 (426 + 1 + x3.toNatClampNeg) 0)), .inl (.int v3), .inl (.int x4)]) (P1 := P) rfl ⟨trivial, trivial, trivial, ⟨h4, ab_grl h4⟩, trivial, (ab_vi (by decide)), trivial⟩ ?_
        refine tr_if (fun h16 => ?_) (fun h16 => ?_)
        · refine tr_icF (cd := .ne) (fun q => q h16) ?_
          refine tr_gd (fun h5 => ?_)
          refine tr_blk 7 (pc' := 75) (rows' := kb_166_35.drop 23) (loc' := [.inr (12, 0, 0, 72), .inl (.int x1), .inl (.int x2), .inl (.int x3), .inl (.int x4), .inl (.int x5)]) (st' := [.inl (.int (2 : Int32)), .inl (.int (P.1 568 x5.toNatClampNeg)), .inr (20, 366, 0, 477), .inl (.int x4)]) (P1 := P) rfl ⟨trivial, trivial, trivial, trivial, trivial, h5, trivial, trivial⟩ ?_
          refine tr_cRI (z := km_135) (av := [.inr (20, 366, 0, 477), .inl (.int (P.1 568 x5.toNatClampNeg)), .inl (.int (2 : Int32))]) (st' := [.inl (.int x4)]) rfl rfl rfl (Nat.le_of_ble_eq_true rfl) trivial rfl (Nat.le_of_ble_eq_true rfl) (t_135_366 477 P (P.1 568 x5.toNatClampNeg) (2 : Int32)) (fun v6 => ?_)
          refine tr_goto ?_
          exact t_166_82 P _ ih x1 x2 x3 x5 v6 x4 (x4)
        · refine tr_icT (cd := .ne) h16 ?_
          refine tr_nil (rows2 := kb_166_81) rfl (List.cons_ne_nil _ _) ?_
          refine tr_blk 1 (pc' := 82) (rows' := kb_166_81.drop 1) (loc' := [.inr (12, 0, 0, 72), .inl (.int x1), .inl (.int x2), .inl (.int x3), .inl (.int x4), .inl (.int x5)]) (st' := [.inl (.int (0 : Int32)), .inl (.int x4)]) (P1 := P) rfl ⟨trivial, trivial⟩ ?_
          exact t_166_82 P _ ih x1 x2 x3 x5 (0 : Int32) x4 (x4)
    · refine tr_icT (cd := .ge) (Int32.not_lt.mp h13) ?_
      refine tr_nil (rows2 := kb_166_141) rfl (List.cons_ne_nil _ _) ?_
      refine tr_gd (fun h1 => ?_)
      refine tr_blk 7 (pc' := 151) (rows' := kb_166_141.drop 7) (loc' := [.inr (12, 0, 0, 72), .inl (.int x1), .inl (.int x2), .inl (.int x3), .inl (.int x4), .inl (.int x5)]) (st' := [.inl (.int (P.1 (426 + 1 + x3.toNatClampNeg) 1)), .inl (.int x4)]) (P1 := P) rfl ⟨trivial, trivial, trivial, trivial, ⟨h1, ab_grl h1⟩, trivial, (ab_vi (by decide)), trivial⟩ ?_
      refine tr_if (fun h14 => ?_) (fun h14 => ?_)
      · refine tr_icT (cd := .eq) h14 ?_
        refine tr_nil (rows2 := kb_166_156) rfl (List.cons_ne_nil _ _) ?_
        refine tr_blk 1 (pc' := 159) (rows' := kb_166_156.drop 1) (loc' := [.inr (12, 0, 0, 72), .inl (.int x1), .inl (.int x2), .inl (.int (x3 + 1)), .inl (.int x4), .inl (.int x5)]) (st' := []) (P1 := P) rfl ⟨trivial, trivial⟩ ?_
        refine tr_goto ?_
        exact hH2 x1 x2 (x3 + 1) (.inl (.int x4)) (.inl (.int x5))
      · refine tr_icF (cd := .eq) h14 ?_
        refine tr_blk 1 (pc' := 155) (rows' := kb_166_141.drop 9) (loc' := [.inr (12, 0, 0, 72), .inl (.int x1), .inl (.int x2), .inl (.int x3), .inl (.int x4), .inl (.int x5)]) (st' := [.inl (.int (0 : Int32))]) (P1 := P) rfl ⟨trivial, trivial⟩ ?_
        exact tr_reI (z := km_166) rfl ⟨_, rfl, rfl⟩ rfl
def f_166_2 (N : Nat) (P : ab_P) : Nat → Int32 → Int32 → Int32 → Option Int32
  | 0, _, _, _ => none
  | n + 1, x1, x2, x3 =>
    if x3 < (P.1 72 29) then
      f_166_16 P (fun y0 y1 y2 => f_166_2 N P n y0 y1 y2) N x1 x2 x3 (0 : Int32) (0 : Int32)
    else
    some (1 : Int32)
theorem t_166_2 {xs : Nat × (Nat → Int32)} {d : Nat} (N : Nat) (P : ab_P) : ∀ n : Nat, ∀ (x1 : Int32) (x2 : Int32) (x3 : Int32) (d4 : ab_V) (d5 : ab_V), ab_tr xs (rI P) (d + 1) 166 2 [] [.inr (12, 0, 0, 72), .inl (.int x1), .inl (.int x2), .inl (.int x3), d4, d5] [] P (f_166_2 N P n x1 x2 x3) := by
  intro n
  induction n with
  | zero => intro x1 x2 x3 d4 d5; exact tr_no
  | succ n ih =>
    intro x1 x2 x3 d4 d5
    refine tr_nil (rows2 := kb_166_2) rfl (List.cons_ne_nil _ _) ?_
    refine tr_blk 3 (pc' := 7) (rows' := kb_166_2.drop 3) (loc' := [.inr (12, 0, 0, 72), .inl (.int x1), .inl (.int x2), .inl (.int x3), d4, d5]) (st' := [.inl (.int (P.1 72 29)), .inl (.int x3)]) (P1 := P) rfl ⟨trivial, trivial, trivial, trivial⟩ ?_
    refine tr_if (fun h17 => ?_) (fun h17 => ?_)
    · refine tr_icF (cd := .ge) (Int32.not_le.mpr h17) ?_
      refine tr_blk 4 (pc' := 16) (rows' := kb_166_2.drop 8) (loc' := [.inr (12, 0, 0, 72), .inl (.int x1), .inl (.int x2), .inl (.int x3), .inl (.int (0 : Int32)), .inl (.int (0 : Int32))]) (st' := []) (P1 := P) rfl ⟨trivial, trivial, trivial, trivial, trivial⟩ ?_
      exact t_166_16 P _ ih N x1 x2 x3 (0 : Int32) (0 : Int32)
    · refine tr_icT (cd := .ge) (Int32.not_lt.mp h17) ?_
      refine tr_nil (rows2 := kb_166_162) rfl (List.cons_ne_nil _ _) ?_
      refine tr_blk 1 (pc' := 163) (rows' := kb_166_162.drop 1) (loc' := [.inr (12, 0, 0, 72), .inl (.int x1), .inl (.int x2), .inl (.int x3), d4, d5]) (st' := [.inl (.int (1 : Int32))]) (P1 := P) rfl ⟨trivial, trivial⟩ ?_
      exact tr_reI (z := km_166) rfl ⟨_, rfl, rfl⟩ rfl
def f_166 (N : Nat) (P : ab_P) (a1 : Int32) (a2 : Int32) : Option Int32 :=
    f_166_2 N P N a1 a2 (0 : Int32)
theorem t_166 {xs : Nat × (Nat → Int32)} {d : Nat} (N : Nat) (P : ab_P) : ∀ (a1 : Int32) (a2 : Int32), ab_tr xs (rI P) (d + 1) 166 0 [] [.inr (12, 0, 0, 72), .inl (.int a1), .inl (.int a2), ab_top, ab_top, ab_top] [] P (f_166 N P a1 a2) := by
  intro a1 a2
  unfold f_166
  refine tr_nil (rows2 := kb_166_0) rfl (List.cons_ne_nil _ _) ?_
  refine tr_blk 2 (pc' := 2) (rows' := kb_166_0.drop 2) (loc' := [.inr (12, 0, 0, 72), .inl (.int a1), .inl (.int a2), .inl (.int (0 : Int32)), ab_top, ab_top]) (st' := []) (P1 := P) rfl ⟨trivial, trivial, trivial⟩ ?_
  exact t_166_2 N P N a1 a2 (0 : Int32) (ab_top) (ab_top)
def f_51_137 (N : Nat) (H112 : Int32 → Int32 → Int32 → Int32 → ab_P → Option (Int64 × ab_P)) (x1 : Int32) (x2 : Int32) (x3 : Int32) (x4 : Int32) (P : ab_P) : Option (Int64 × ab_P) :=
    Option.bind (f_166 N P x4 x2) fun v15 =>
    if v15 = (0 : Int32) then
      H112 x1 x2 x3 (x4 + 1) P
    else
    H112 x1 x2 x4 (x4 + 1) P
theorem t_51_137 {xs : Nat × (Nat → Int32)} {d : Nat} (N : Nat) (H112 : Int32 → Int32 → Int32 → Int32 → ab_P → Option (Int64 × ab_P)) (hH112 : ∀ (x1 : Int32) (x2 : Int32) (x3 : Int32) (x4 : Int32) (P : ab_P), ab_tr xs wL (d + 3) 51 112 [] [.inr (12, 0, 0, 72), .inl (.int x1), .inl (.int x2), .inl (.int x3), .inl (.int x4), ab_top, ab_top] [] P (H112 x1 x2 x3 x4 P)) : ∀ (x1 : Int32) (x2 : Int32) (x3 : Int32) (x4 : Int32) (P : ab_P), ab_tr xs wL (d + 3) 51 137 [] [.inr (12, 0, 0, 72), .inl (.int x1), .inl (.int x2), .inl (.int x3), .inl (.int x4), ab_top, ab_top] [] P (f_51_137 N H112 x1 x2 x3 x4 P) := by
  intro x1 x2 x3 x4 P
  unfold f_51_137
  refine tr_nil (rows2 := kb_51_137) rfl (List.cons_ne_nil _ _) ?_
  refine tr_blk 3 (pc' := 141) (rows' := kb_51_137.drop 3) (loc' := [.inr (12, 0, 0, 72), .inl (.int x1), .inl (.int x2), .inl (.int x3), .inl (.int x4), ab_top, ab_top]) (st' := [.inl (.int x2), .inl (.int x4), .inr (12, 0, 0, 72)]) (P1 := P) rfl ⟨trivial, trivial, trivial, trivial⟩ ?_
  refine tr_cRI (z := km_166) (av := [.inr (12, 0, 0, 72), .inl (.int x4), .inl (.int x2)]) (st' := []) rfl rfl rfl (Nat.le_of_ble_eq_true rfl) ⟨rfl, Or.inl (by decide)⟩ rfl (Nat.le_of_ble_eq_true rfl) (t_166 N P x4 x2) (fun v15 => ?_)
  refine tr_if (fun h16 => ?_) (fun h16 => ?_)
  · refine tr_ifT (cd := .eq) h16 ?_
    refine tr_nil (rows2 := kb_51_150) rfl (List.cons_ne_nil _ _) ?_
    refine tr_blk 1 (pc' := 153) (rows' := kb_51_150.drop 1) (loc' := [.inr (12, 0, 0, 72), .inl (.int x1), .inl (.int x2), .inl (.int x3), .inl (.int (x4 + 1)), ab_top, ab_top]) (st' := []) (P1 := P) rfl ⟨trivial, trivial⟩ ?_
    refine tr_goto ?_
    exact hH112 x1 x2 x3 (x4 + 1) P
  · refine tr_ifF (cd := .eq) h16 ?_
    refine tr_blk 2 (pc' := 150) (rows' := kb_51_137.drop 7) (loc' := [.inr (12, 0, 0, 72), .inl (.int x1), .inl (.int x2), .inl (.int x4), .inl (.int x4), ab_top, ab_top]) (st' := []) (P1 := P) rfl ⟨trivial, trivial, trivial⟩ ?_
    refine tr_nil (rows2 := kb_51_150) rfl (List.cons_ne_nil _ _) ?_
    refine tr_blk 1 (pc' := 153) (rows' := kb_51_150.drop 1) (loc' := [.inr (12, 0, 0, 72), .inl (.int x1), .inl (.int x2), .inl (.int x4), .inl (.int (x4 + 1)), ab_top, ab_top]) (st' := []) (P1 := P) rfl ⟨trivial, trivial⟩ ?_
    refine tr_goto ?_
    exact hH112 x1 x2 x4 (x4 + 1) P
def f_51_171 (N : Nat) : Nat → Int32 → Int32 → Int32 → Int64 → Int32 → ab_P → Option (Int64 × ab_P)
  | 0, _, _, _, _, _, _ => none
  | n + 1, x1, x2, x3, x4, x6, P =>
    if x6 < x2 then
      if ((x3 >>> (x6 &&& 31)) &&& (1 : Int32)) = (1 : Int32) then
        if ab_gi x6 16 then
        f_51_171 N n x1 x2 x3 (x4 ||| ((1 : Int64) <<< (((P.1 568 x6.toNatClampNeg)).toInt64 &&& 63))) (x6 + 1) P
        else none
      else
      f_51_171 N n x1 x2 x3 (x4 ||| (0 : Int64)) (x6 + 1) P
    else
    if x1 = (0 : Int32) then
      Option.bind (f_158 N P x3) fun v13 =>
      some ((v13).toInt64, P)
    else
    some (x4, P)
theorem t_51_171 {xs : Nat × (Nat → Int32)} {d : Nat} (N : Nat) : ∀ n : Nat, ∀ (x1 : Int32) (x2 : Int32) (x3 : Int32) (x4 : Int64) (x6 : Int32) (P : ab_P), ab_tr xs wL (d + 3) 51 171 [] [.inr (12, 0, 0, 72), .inl (.int x1), .inl (.int x2), .inl (.int x3), .inl (.long x4), ab_top, .inl (.int x6)] [] P (f_51_171 N n x1 x2 x3 x4 x6 P) := by
  intro n
  induction n with
  | zero => intro x1 x2 x3 x4 x6 P; exact tr_no
  | succ n ih =>
    intro x1 x2 x3 x4 x6 P
    refine tr_nil (rows2 := kb_51_171) rfl (List.cons_ne_nil _ _) ?_
    refine tr_blk 2 (pc' := 174) (rows' := kb_51_171.drop 2) (loc' := [.inr (12, 0, 0, 72), .inl (.int x1), .inl (.int x2), .inl (.int x3), .inl (.long x4), ab_top, .inl (.int x6)]) (st' := [.inl (.int x2), .inl (.int x6)]) (P1 := P) rfl ⟨trivial, trivial, trivial⟩ ?_
    refine tr_if (fun h17 => ?_) (fun h17 => ?_)
    · refine tr_icF (cd := .ge) (Int32.not_le.mpr h17) ?_
      refine tr_blk 7 (pc' := 186) (rows' := kb_51_171.drop 10) (loc' := [.inr (12, 0, 0, 72), .inl (.int x1), .inl (.int x2), .inl (.int x3), .inl (.long x4), ab_top, .inl (.int x6)]) (st' := [.inl (.int (1 : Int32)), .inl (.int ((x3 >>> (x6 &&& 31)) &&& (1 : Int32))), .inl (.long x4)]) (P1 := P) rfl ⟨trivial, trivial, trivial, trivial, trivial, trivial, trivial, trivial⟩ ?_
      refine tr_if (fun h19 => ?_) (fun h19 => ?_)
      · refine tr_icF (cd := .ne) (fun q => q h19) ?_
        refine tr_gd (fun h14 => ?_)
        refine tr_blk 6 (pc' := 198) (rows' := kb_51_171.drop 17) (loc' := [.inr (12, 0, 0, 72), .inl (.int x1), .inl (.int x2), .inl (.int x3), .inl (.long x4), ab_top, .inl (.int x6)]) (st' := [.inl (.long ((1 : Int64) <<< (((P.1 568 x6.toNatClampNeg)).toInt64 &&& 63))), .inl (.long x4)]) (P1 := P) rfl ⟨trivial, trivial, trivial, trivial, h14, trivial, trivial⟩ ?_
        refine tr_goto ?_
        refine tr_nil (rows2 := kb_51_202) rfl (List.cons_ne_nil _ _) ?_
        refine tr_blk 3 (pc' := 208) (rows' := kb_51_202.drop 3) (loc' := [.inr (12, 0, 0, 72), .inl (.int x1), .inl (.int x2), .inl (.int x3), .inl (.long (x4 ||| ((1 : Int64) <<< (((P.1 568 x6.toNatClampNeg)).toInt64 &&& 63)))), ab_top, .inl (.int (x6 + 1))]) (st' := []) (P1 := P) rfl ⟨trivial, trivial, trivial, trivial⟩ ?_
        refine tr_goto ?_
        exact ih x1 x2 x3 (x4 ||| ((1 : Int64) <<< (((P.1 568 x6.toNatClampNeg)).toInt64 &&& 63))) (x6 + 1) P
      · refine tr_icT (cd := .ne) h19 ?_
        refine tr_nil (rows2 := kb_51_201) rfl (List.cons_ne_nil _ _) ?_
        refine tr_blk 1 (pc' := 202) (rows' := kb_51_201.drop 1) (loc' := [.inr (12, 0, 0, 72), .inl (.int x1), .inl (.int x2), .inl (.int x3), .inl (.long x4), ab_top, .inl (.int x6)]) (st' := [.inl (.long (0 : Int64)), .inl (.long x4)]) (P1 := P) rfl ⟨trivial, trivial⟩ ?_
        refine tr_nil (rows2 := kb_51_202) rfl (List.cons_ne_nil _ _) ?_
        refine tr_blk 3 (pc' := 208) (rows' := kb_51_202.drop 3) (loc' := [.inr (12, 0, 0, 72), .inl (.int x1), .inl (.int x2), .inl (.int x3), .inl (.long (x4 ||| (0 : Int64))), ab_top, .inl (.int (x6 + 1))]) (st' := []) (P1 := P) rfl ⟨trivial, trivial, trivial, trivial⟩ ?_
        refine tr_goto ?_
        exact ih x1 x2 x3 (x4 ||| (0 : Int64)) (x6 + 1) P
    · refine tr_icT (cd := .ge) (Int32.not_lt.mp h17) ?_
      refine tr_nil (rows2 := kb_51_211) rfl (List.cons_ne_nil _ _) ?_
      refine tr_blk 1 (pc' := 212) (rows' := kb_51_211.drop 1) (loc' := [.inr (12, 0, 0, 72), .inl (.int x1), .inl (.int x2), .inl (.int x3), .inl (.long x4), ab_top, .inl (.int x6)]) (st' := [.inl (.int x1)]) (P1 := P) rfl ⟨trivial, trivial⟩ ?_
      refine tr_if (fun h18 => ?_) (fun h18 => ?_)
      · refine tr_ifF (cd := .ne) (fun q => q h18) ?_
        refine tr_blk 1 (pc' := 216) (rows' := kb_51_211.drop 3) (loc' := [.inr (12, 0, 0, 72), .inl (.int x1), .inl (.int x2), .inl (.int x3), .inl (.long x4), ab_top, .inl (.int x6)]) (st' := [.inl (.int x3)]) (P1 := P) rfl ⟨trivial, trivial⟩ ?_
        refine tr_cRI (z := km_158) (av := [.inl (.int x3)]) (st' := []) rfl rfl rfl (Nat.le_of_ble_eq_true rfl) trivial rfl (Nat.le_of_ble_eq_true rfl) (t_158 N P x3) (fun v13 => ?_)
        refine tr_blk 1 (pc' := 220) (rows' := kb_51_211.drop 5) (loc' := [.inr (12, 0, 0, 72), .inl (.int x1), .inl (.int x2), .inl (.int x3), .inl (.long x4), ab_top, .inl (.int x6)]) (st' := [.inl (.long (v13).toInt64)]) (P1 := P) rfl ⟨trivial, trivial⟩ ?_
        refine tr_goto ?_
        refine tr_nil (rows2 := kb_51_225) rfl (List.cons_ne_nil _ _) ?_
        exact tr_reL (z := km_51) rfl rfl rfl
      · refine tr_ifT (cd := .ne) h18 ?_
        refine tr_nil (rows2 := kb_51_223) rfl (List.cons_ne_nil _ _) ?_
        refine tr_blk 1 (pc' := 225) (rows' := kb_51_223.drop 1) (loc' := [.inr (12, 0, 0, 72), .inl (.int x1), .inl (.int x2), .inl (.int x3), .inl (.long x4), ab_top, .inl (.int x6)]) (st' := [.inl (.long x4)]) (P1 := P) rfl ⟨trivial, trivial⟩ ?_
        refine tr_nil (rows2 := kb_51_225) rfl (List.cons_ne_nil _ _) ?_
        exact tr_reL (z := km_51) rfl rfl rfl
def f_51_112 (N : Nat) : Nat → Int32 → Int32 → Int32 → Int32 → ab_P → Option (Int64 × ab_P)
  | 0, _, _, _, _, _ => none
  | n + 1, x1, x2, x3, x4, P =>
    if x4 < ((1 : Int32) <<< (x2 &&& 31)) then
      if x3 = (-1 : Int32) then
        f_51_137 N (fun y0 y1 y2 y3 y4 => f_51_112 N n y0 y1 y2 y3 y4) x1 x2 x3 x4 P
      else
      Option.bind (f_158 N P x4) fun v11 =>
      Option.bind (f_158 N P x3) fun v12 =>
      if v11 < v12 then
        f_51_137 N (fun y0 y1 y2 y3 y4 => f_51_112 N n y0 y1 y2 y3 y4) x1 x2 x3 x4 P
      else
      f_51_112 N n x1 x2 x3 (x4 + 1) P
    else
    if x3 = (-1 : Int32) then
      some ((-1 : Int64), P)
    else
    f_51_171 N N x1 x2 x3 (0 : Int64) (0 : Int32) P
theorem t_51_112 {xs : Nat × (Nat → Int32)} {d : Nat} (N : Nat) : ∀ n : Nat, ∀ (x1 : Int32) (x2 : Int32) (x3 : Int32) (x4 : Int32) (P : ab_P), ab_tr xs wL (d + 3) 51 112 [] [.inr (12, 0, 0, 72), .inl (.int x1), .inl (.int x2), .inl (.int x3), .inl (.int x4), ab_top, ab_top] [] P (f_51_112 N n x1 x2 x3 x4 P) := by
  intro n
  induction n with
  | zero => intro x1 x2 x3 x4 P; exact tr_no
  | succ n ih =>
    intro x1 x2 x3 x4 P
    refine tr_nil (rows2 := kb_51_112) rfl (List.cons_ne_nil _ _) ?_
    refine tr_blk 4 (pc' := 117) (rows' := kb_51_112.drop 4) (loc' := [.inr (12, 0, 0, 72), .inl (.int x1), .inl (.int x2), .inl (.int x3), .inl (.int x4), ab_top, ab_top]) (st' := [.inl (.int ((1 : Int32) <<< (x2 &&& 31))), .inl (.int x4)]) (P1 := P) rfl ⟨trivial, trivial, trivial, trivial, trivial⟩ ?_
    refine tr_if (fun h20 => ?_) (fun h20 => ?_)
    · refine tr_icF (cd := .ge) (Int32.not_le.mpr h20) ?_
      refine tr_blk 2 (pc' := 122) (rows' := kb_51_112.drop 7) (loc' := [.inr (12, 0, 0, 72), .inl (.int x1), .inl (.int x2), .inl (.int x3), .inl (.int x4), ab_top, ab_top]) (st' := [.inl (.int (-1 : Int32)), .inl (.int x3)]) (P1 := P) rfl ⟨trivial, trivial, trivial⟩ ?_
      refine tr_if (fun h22 => ?_) (fun h22 => ?_)
      · refine tr_icT (cd := .eq) h22 ?_
        exact t_51_137 N _ ih x1 x2 x3 x4 P
      · refine tr_icF (cd := .eq) h22 ?_
        refine tr_blk 1 (pc' := 127) (rows' := kb_51_112.drop 9) (loc' := [.inr (12, 0, 0, 72), .inl (.int x1), .inl (.int x2), .inl (.int x3), .inl (.int x4), ab_top, ab_top]) (st' := [.inl (.int x4)]) (P1 := P) rfl ⟨trivial, trivial⟩ ?_
        refine tr_cRI (z := km_158) (av := [.inl (.int x4)]) (st' := []) rfl rfl rfl (Nat.le_of_ble_eq_true rfl) trivial rfl (Nat.le_of_ble_eq_true rfl) (t_158 N P x4) (fun v11 => ?_)
        refine tr_blk 1 (pc' := 131) (rows' := kb_51_112.drop 11) (loc' := [.inr (12, 0, 0, 72), .inl (.int x1), .inl (.int x2), .inl (.int x3), .inl (.int x4), ab_top, ab_top]) (st' := [.inl (.int x3), .inl (.int v11)]) (P1 := P) rfl ⟨trivial, trivial⟩ ?_
        refine tr_cRI (z := km_158) (av := [.inl (.int x3)]) (st' := [.inl (.int v11)]) rfl rfl rfl (Nat.le_of_ble_eq_true rfl) trivial rfl (Nat.le_of_ble_eq_true rfl) (t_158 N P x3) (fun v12 => ?_)
        refine tr_if (fun h23 => ?_) (fun h23 => ?_)
        · refine tr_icF (cd := .ge) (Int32.not_le.mpr h23) ?_
          exact t_51_137 N _ ih x1 x2 x3 x4 P
        · refine tr_icT (cd := .ge) (Int32.not_lt.mp h23) ?_
          refine tr_nil (rows2 := kb_51_150) rfl (List.cons_ne_nil _ _) ?_
          refine tr_blk 1 (pc' := 153) (rows' := kb_51_150.drop 1) (loc' := [.inr (12, 0, 0, 72), .inl (.int x1), .inl (.int x2), .inl (.int x3), .inl (.int (x4 + 1)), ab_top, ab_top]) (st' := []) (P1 := P) rfl ⟨trivial, trivial⟩ ?_
          refine tr_goto ?_
          exact ih x1 x2 x3 (x4 + 1) P
    · refine tr_icT (cd := .ge) (Int32.not_lt.mp h20) ?_
      refine tr_nil (rows2 := kb_51_156) rfl (List.cons_ne_nil _ _) ?_
      refine tr_blk 2 (pc' := 158) (rows' := kb_51_156.drop 2) (loc' := [.inr (12, 0, 0, 72), .inl (.int x1), .inl (.int x2), .inl (.int x3), .inl (.int x4), ab_top, ab_top]) (st' := [.inl (.int (-1 : Int32)), .inl (.int x3)]) (P1 := P) rfl ⟨trivial, trivial, trivial⟩ ?_
      refine tr_if (fun h21 => ?_) (fun h21 => ?_)
      · refine tr_icF (cd := .ne) (fun q => q h21) ?_
        refine tr_blk 1 (pc' := 164) (rows' := kb_51_156.drop 4) (loc' := [.inr (12, 0, 0, 72), .inl (.int x1), .inl (.int x2), .inl (.int x3), .inl (.int x4), ab_top, ab_top]) (st' := [.inl (.long (-1 : Int64))]) (P1 := P) rfl ⟨trivial, trivial⟩ ?_
        exact tr_reL (z := km_51) rfl rfl rfl
      · refine tr_icT (cd := .ne) h21 ?_
        refine tr_nil (rows2 := kb_51_165) rfl (List.cons_ne_nil _ _) ?_
        refine tr_blk 4 (pc' := 171) (rows' := kb_51_165.drop 4) (loc' := [.inr (12, 0, 0, 72), .inl (.int x1), .inl (.int x2), .inl (.int x3), .inl (.long (0 : Int64)), ab_top, .inl (.int (0 : Int32))]) (st' := []) (P1 := P) rfl ⟨trivial, trivial, trivial, trivial, trivial⟩ ?_
        exact t_51_171 N N x1 x2 x3 (0 : Int64) (0 : Int32) P
def f_51_64 (N : Nat) : Nat → Int32 → Int32 → Int32 → Int32 → ab_P → Option (Int64 × ab_P)
  | 0, _, _, _, _, _ => none
  | n + 1, x1, x2, x3, x4, P =>
    if x4 < (P.1 477 360) then
      Option.bind (f_144_366 477 P x4) fun v8 =>
      if v8 = (0 : Int32) then
        f_51_64 N n x1 x2 x3 (x4 + 1) P
      else
      if ab_gi x2 16 then
      ab_lt (ab_pI P 568 x2.toNatClampNeg x4) fun P10 =>
      f_51_64 N n x1 (x2 + 1) x3 (x4 + 1) P10
      else none
    else
    f_51_112 N N x1 x2 x3 (0 : Int32) P
theorem t_51_64 {xs : Nat × (Nat → Int32)} {d : Nat} (N : Nat) : ∀ n : Nat, ∀ (x1 : Int32) (x2 : Int32) (x3 : Int32) (x4 : Int32) (P : ab_P), ab_tr xs wL (d + 3) 51 64 [] [.inr (12, 0, 0, 72), .inl (.int x1), .inl (.int x2), .inl (.int x3), .inl (.int x4), ab_top, ab_top] [] P (f_51_64 N n x1 x2 x3 x4 P) := by
  intro n
  induction n with
  | zero => intro x1 x2 x3 x4 P; exact tr_no
  | succ n ih =>
    intro x1 x2 x3 x4 P
    refine tr_nil (rows2 := kb_51_64) rfl (List.cons_ne_nil _ _) ?_
    refine tr_blk 5 (pc' := 74) (rows' := kb_51_64.drop 5) (loc' := [.inr (12, 0, 0, 72), .inl (.int x1), .inl (.int x2), .inl (.int x3), .inl (.int x4), ab_top, ab_top]) (st' := [.inl (.int (P.1 477 360)), .inl (.int x4)]) (P1 := P) rfl ⟨trivial, trivial, trivial, trivial, (ab_vi (by decide)), trivial⟩ ?_
    refine tr_if (fun h24 => ?_) (fun h24 => ?_)
    · refine tr_icF (cd := .ge) (Int32.not_le.mpr h24) ?_
      refine tr_blk 3 (pc' := 83) (rows' := kb_51_64.drop 9) (loc' := [.inr (12, 0, 0, 72), .inl (.int x1), .inl (.int x2), .inl (.int x3), .inl (.int x4), ab_top, ab_top]) (st' := [.inl (.int x4), .inr (20, 366, 0, 477)]) (P1 := P) rfl ⟨trivial, trivial, trivial, trivial⟩ ?_
      refine tr_cRI (z := km_144) (av := [.inr (20, 366, 0, 477), .inl (.int x4)]) (st' := []) rfl rfl rfl (Nat.le_of_ble_eq_true rfl) trivial rfl (Nat.le_of_ble_eq_true rfl) (t_144_366 477 P x4) (fun v8 => ?_)
      refine tr_if (fun h25 => ?_) (fun h25 => ?_)
      · refine tr_ifF (cd := .ne) (fun q => q h25) ?_
        refine tr_goto ?_
        refine tr_nil (rows2 := kb_51_103) rfl (List.cons_ne_nil _ _) ?_
        refine tr_blk 1 (pc' := 106) (rows' := kb_51_103.drop 1) (loc' := [.inr (12, 0, 0, 72), .inl (.int x1), .inl (.int x2), .inl (.int x3), .inl (.int (x4 + 1)), ab_top, ab_top]) (st' := []) (P1 := P) rfl ⟨trivial, trivial⟩ ?_
        refine tr_goto ?_
        exact ih x1 x2 x3 (x4 + 1) P
      · refine tr_ifT (cd := .ne) h25 ?_
        refine tr_nil (rows2 := kb_51_92) rfl (List.cons_ne_nil _ _) ?_
        refine tr_gd (fun h9 => ?_)
        refine tr_blk 5 (pc' := 100) (rows' := kb_51_92.drop 5) (loc' := [.inr (12, 0, 0, 72), .inl (.int x1), .inl (.int x2), .inl (.int x3), .inl (.int x4), ab_top, ab_top]) (st' := []) (P1 := (ab_pI P 568 x2.toNatClampNeg x4)) rfl ⟨trivial, trivial, trivial, trivial, h9, trivial⟩ ?_
        refine tr_lt (fun P10 => ?_)
        refine tr_blk 1 (pc' := 103) (rows' := kb_51_92.drop 6) (loc' := [.inr (12, 0, 0, 72), .inl (.int x1), .inl (.int (x2 + 1)), .inl (.int x3), .inl (.int x4), ab_top, ab_top]) (st' := []) (P1 := P10) rfl ⟨trivial, trivial⟩ ?_
        refine tr_nil (rows2 := kb_51_103) rfl (List.cons_ne_nil _ _) ?_
        refine tr_blk 1 (pc' := 106) (rows' := kb_51_103.drop 1) (loc' := [.inr (12, 0, 0, 72), .inl (.int x1), .inl (.int (x2 + 1)), .inl (.int x3), .inl (.int (x4 + 1)), ab_top, ab_top]) (st' := []) (P1 := P10) rfl ⟨trivial, trivial⟩ ?_
        refine tr_goto ?_
        exact ih x1 (x2 + 1) x3 (x4 + 1) P10
    · refine tr_icT (cd := .ge) (Int32.not_lt.mp h24) ?_
      refine tr_nil (rows2 := kb_51_109) rfl (List.cons_ne_nil _ _) ?_
      refine tr_blk 2 (pc' := 112) (rows' := kb_51_109.drop 2) (loc' := [.inr (12, 0, 0, 72), .inl (.int x1), .inl (.int x2), .inl (.int x3), .inl (.int (0 : Int32)), ab_top, ab_top]) (st' := []) (P1 := P) rfl ⟨trivial, trivial, trivial⟩ ?_
      exact t_51_112 N N x1 x2 x3 (0 : Int32) P
def f_51_47 (N : Nat) (x1 : Int32) (s0 : Int32) (P : ab_P) : Option (Int64 × ab_P) :=
    ab_b2 (f_113 s0 (2 : Int32) (2 : Int32) P) fun v7 P6 =>
    if v7 = (0 : Int32) then
      f_51_64 N N x1 (0 : Int32) (-1 : Int32) (0 : Int32) P6
    else
    some ((0 : Int64), P6)
theorem t_51_47 {xs : Nat × (Nat → Int32)} {d : Nat} (N : Nat) : ∀ (x1 : Int32) (s0 : Int32) (P : ab_P), ab_tr xs wL (d + 3) 51 47 [] [.inr (12, 0, 0, 72), .inl (.int x1), ab_top, ab_top, ab_top, ab_top, ab_top] [.inl (.int s0), .inr (12, 0, 0, 72)] P (f_51_47 N x1 s0 P) := by
  intro x1 s0 P
  unfold f_51_47
  refine tr_nil (rows2 := kb_51_47) rfl (List.cons_ne_nil _ _) ?_
  refine tr_blk 2 (pc' := 49) (rows' := kb_51_47.drop 2) (loc' := [.inr (12, 0, 0, 72), .inl (.int x1), ab_top, ab_top, ab_top, ab_top, ab_top]) (st' := [.inl (.int (2 : Int32)), .inl (.int (2 : Int32)), .inl (.int s0), .inr (12, 0, 0, 72)]) (P1 := P) rfl ⟨trivial, trivial, trivial⟩ ?_
  refine tr_cWI (z := km_113) (av := [.inr (12, 0, 0, 72), .inl (.int s0), .inl (.int (2 : Int32)), .inl (.int (2 : Int32))]) (st' := []) rfl rfl rfl (Nat.le_of_ble_eq_true rfl) ⟨rfl, Or.inl (by decide)⟩ rfl (Nat.le_of_ble_eq_true rfl) (t_113 s0 (2 : Int32) (2 : Int32) P) (fun v7 P6 => ?_)
  refine tr_if (fun h26 => ?_) (fun h26 => ?_)
  · refine tr_ifT (cd := .eq) h26 ?_
    refine tr_nil (rows2 := kb_51_57) rfl (List.cons_ne_nil _ _) ?_
    refine tr_blk 6 (pc' := 64) (rows' := kb_51_57.drop 6) (loc' := [.inr (12, 0, 0, 72), .inl (.int x1), .inl (.int (0 : Int32)), .inl (.int (-1 : Int32)), .inl (.int (0 : Int32)), ab_top, ab_top]) (st' := []) (P1 := P6) rfl ⟨trivial, trivial, trivial, trivial, trivial, trivial, trivial⟩ ?_
    exact t_51_64 N N x1 (0 : Int32) (-1 : Int32) (0 : Int32) P6
  · refine tr_ifF (cd := .eq) h26 ?_
    refine tr_nil (rows2 := kb_51_55) rfl (List.cons_ne_nil _ _) ?_
    refine tr_blk 1 (pc' := 56) (rows' := kb_51_55.drop 1) (loc' := [.inr (12, 0, 0, 72), .inl (.int x1), ab_top, ab_top, ab_top, ab_top, ab_top]) (st' := [.inl (.long (0 : Int64))]) (P1 := P6) rfl ⟨trivial, trivial⟩ ?_
    exact tr_reL (z := km_51) rfl rfl rfl
def f_51_20 (N : Nat) (x1 : Int32) (s0 : Int32) (P : ab_P) : Option (Int64 × ab_P) :=
    ab_b2 (f_113 s0 (1 : Int32) (1 : Int32) P) fun v4 P3 =>
    if v4 = (0 : Int32) then
      Option.bind (f_132_366 477 N P3) fun v5 =>
      if (16 : Int32) < v5 then
        f_51_47 N x1 (1 : Int32) P3
      else
      f_51_47 N x1 (0 : Int32) P3
    else
    some ((0 : Int64), P3)
theorem t_51_20 {xs : Nat × (Nat → Int32)} {d : Nat} (N : Nat) : ∀ (x1 : Int32) (s0 : Int32) (P : ab_P), ab_tr xs wL (d + 3) 51 20 [] [.inr (12, 0, 0, 72), .inl (.int x1), ab_top, ab_top, ab_top, ab_top, ab_top] [.inl (.int s0), .inr (12, 0, 0, 72)] P (f_51_20 N x1 s0 P) := by
  intro x1 s0 P
  unfold f_51_20
  refine tr_nil (rows2 := kb_51_20) rfl (List.cons_ne_nil _ _) ?_
  refine tr_blk 2 (pc' := 22) (rows' := kb_51_20.drop 2) (loc' := [.inr (12, 0, 0, 72), .inl (.int x1), ab_top, ab_top, ab_top, ab_top, ab_top]) (st' := [.inl (.int (1 : Int32)), .inl (.int (1 : Int32)), .inl (.int s0), .inr (12, 0, 0, 72)]) (P1 := P) rfl ⟨trivial, trivial, trivial⟩ ?_
  refine tr_cWI (z := km_113) (av := [.inr (12, 0, 0, 72), .inl (.int s0), .inl (.int (1 : Int32)), .inl (.int (1 : Int32))]) (st' := []) rfl rfl rfl (Nat.le_of_ble_eq_true rfl) ⟨rfl, Or.inl (by decide)⟩ rfl (Nat.le_of_ble_eq_true rfl) (t_113 s0 (1 : Int32) (1 : Int32) P) (fun v4 P3 => ?_)
  refine tr_if (fun h27 => ?_) (fun h27 => ?_)
  · refine tr_ifF (cd := .ne) (fun q => q h27) ?_
    refine tr_blk 4 (pc' := 34) (rows' := kb_51_20.drop 8) (loc' := [.inr (12, 0, 0, 72), .inl (.int x1), ab_top, ab_top, ab_top, ab_top, ab_top]) (st' := [.inr (20, 366, 0, 477), .inr (12, 0, 0, 72), .inr (12, 0, 0, 72)]) (P1 := P3) rfl ⟨trivial, trivial, trivial, trivial, trivial⟩ ?_
    refine tr_cRI (z := km_132) (av := [.inr (12, 0, 0, 72), .inr (20, 366, 0, 477)]) (st' := [.inr (12, 0, 0, 72)]) rfl rfl rfl (Nat.le_of_ble_eq_true rfl) ⟨rfl, Or.inl (by decide)⟩ rfl (Nat.le_of_ble_eq_true rfl) (t_132_366 477 N P3) (fun v5 => ?_)
    refine tr_blk 1 (pc' := 39) (rows' := kb_51_20.drop 10) (loc' := [.inr (12, 0, 0, 72), .inl (.int x1), ab_top, ab_top, ab_top, ab_top, ab_top]) (st' := [.inl (.int (16 : Int32)), .inl (.int v5), .inr (12, 0, 0, 72)]) (P1 := P3) rfl ⟨trivial, trivial⟩ ?_
    refine tr_if (fun h28 => ?_) (fun h28 => ?_)
    · refine tr_icF (cd := .le) (Int32.not_le.mpr h28) ?_
      refine tr_blk 1 (pc' := 43) (rows' := kb_51_20.drop 12) (loc' := [.inr (12, 0, 0, 72), .inl (.int x1), ab_top, ab_top, ab_top, ab_top, ab_top]) (st' := [.inl (.int (1 : Int32)), .inr (12, 0, 0, 72)]) (P1 := P3) rfl ⟨trivial, trivial⟩ ?_
      refine tr_goto ?_
      exact t_51_47 N x1 (1 : Int32) P3
    · refine tr_icT (cd := .le) (Int32.not_lt.mp h28) ?_
      refine tr_nil (rows2 := kb_51_46) rfl (List.cons_ne_nil _ _) ?_
      refine tr_blk 1 (pc' := 47) (rows' := kb_51_46.drop 1) (loc' := [.inr (12, 0, 0, 72), .inl (.int x1), ab_top, ab_top, ab_top, ab_top, ab_top]) (st' := [.inl (.int (0 : Int32)), .inr (12, 0, 0, 72)]) (P1 := P3) rfl ⟨trivial, trivial⟩ ?_
      exact t_51_47 N x1 (0 : Int32) P3
  · refine tr_ifT (cd := .ne) h27 ?_
    refine tr_nil (rows2 := kb_51_55) rfl (List.cons_ne_nil _ _) ?_
    refine tr_blk 1 (pc' := 56) (rows' := kb_51_55.drop 1) (loc' := [.inr (12, 0, 0, 72), .inl (.int x1), ab_top, ab_top, ab_top, ab_top, ab_top]) (st' := [.inl (.long (0 : Int64))]) (P1 := P3) rfl ⟨trivial, trivial⟩ ?_
    exact tr_reL (z := km_51) rfl rfl rfl
def f_51 (N : Nat) (a1 : Int32) (P : ab_P) : Option (Int64 × ab_P) :=
    ab_lt (ab_pI P 72 0 (0 : Int32)) fun P1 =>
    Option.bind (f_112 P1 a1 (0 : Int32) (1 : Int32)) fun v2 =>
    if v2 = (0 : Int32) then
      f_51_20 N a1 (1 : Int32) P1
    else
    f_51_20 N a1 (0 : Int32) P1
theorem t_51 {xs : Nat × (Nat → Int32)} {d : Nat} (N : Nat) : ∀ (a1 : Int32) (P : ab_P), ab_tr xs wL (d + 3) 51 0 [] [.inr (12, 0, 0, 72), .inl (.int a1), ab_top, ab_top, ab_top, ab_top, ab_top] [] P (f_51 N a1 P) := by
  intro a1 P
  unfold f_51
  refine tr_nil (rows2 := kb_51_0) rfl (List.cons_ne_nil _ _) ?_
  refine tr_blk 3 (pc' := 5) (rows' := kb_51_0.drop 3) (loc' := [.inr (12, 0, 0, 72), .inl (.int a1), ab_top, ab_top, ab_top, ab_top, ab_top]) (st' := []) (P1 := (ab_pI P 72 0 (0 : Int32))) rfl ⟨trivial, trivial, trivial, trivial⟩ ?_
  refine tr_lt (fun P1 => ?_)
  refine tr_blk 4 (pc' := 9) (rows' := kb_51_0.drop 7) (loc' := [.inr (12, 0, 0, 72), .inl (.int a1), ab_top, ab_top, ab_top, ab_top, ab_top]) (st' := [.inl (.int (1 : Int32)), .inl (.int (0 : Int32)), .inl (.int a1), .inr (12, 0, 0, 72)]) (P1 := P1) rfl ⟨trivial, trivial, trivial, trivial, trivial⟩ ?_
  refine tr_cRI (z := km_112) (av := [.inl (.int a1), .inl (.int (0 : Int32)), .inl (.int (1 : Int32))]) (st' := [.inr (12, 0, 0, 72)]) rfl rfl rfl (Nat.le_of_ble_eq_true rfl) trivial rfl (Nat.le_of_ble_eq_true rfl) (t_112 P1 a1 (0 : Int32) (1 : Int32)) (fun v2 => ?_)
  refine tr_if (fun h29 => ?_) (fun h29 => ?_)
  · refine tr_ifF (cd := .ne) (fun q => q h29) ?_
    refine tr_blk 1 (pc' := 16) (rows' := kb_51_0.drop 10) (loc' := [.inr (12, 0, 0, 72), .inl (.int a1), ab_top, ab_top, ab_top, ab_top, ab_top]) (st' := [.inl (.int (1 : Int32)), .inr (12, 0, 0, 72)]) (P1 := P1) rfl ⟨trivial, trivial⟩ ?_
    refine tr_goto ?_
    exact t_51_20 N a1 (1 : Int32) P1
  · refine tr_ifT (cd := .ne) h29 ?_
    refine tr_nil (rows2 := kb_51_19) rfl (List.cons_ne_nil _ _) ?_
    refine tr_blk 1 (pc' := 20) (rows' := kb_51_19.drop 1) (loc' := [.inr (12, 0, 0, 72), .inl (.int a1), ab_top, ab_top, ab_top, ab_top, ab_top]) (st' := [.inl (.int (0 : Int32)), .inr (12, 0, 0, 72)]) (P1 := P1) rfl ⟨trivial, trivial⟩ ?_
    exact t_51_20 N a1 (0 : Int32) P1
def f_167_2 (i0 : Nat) (i1 : Nat) (N : Nat) (P : ab_P) : Nat → Int32 → Option Int32
  | 0, _ => none
  | n + 1, x2 =>
    if x2 < (P.1 i0 2) then
      if x2 < (8 : Int32) then
        if ab_gi x2 8 then
        Option.bind (f_186 i1 N P (P.1 (i0 + 1) x2.toNatClampNeg) (1 : Int32)) fun v2 =>
        if ab_gi x2 8 then
        if v2 = (P.1 (i0 + 2) x2.toNatClampNeg) then
          f_167_2 i0 i1 N P n (x2 + 1)
        else
        some x2
        else none
        else none
      else
      some (P.1 i0 2)
    else
    some (P.1 i0 2)
theorem t_167_2 {xs : Nat × (Nat → Int32)} {d : Nat} (i0 : Nat) (i1 : Nat) (N : Nat) (P : ab_P) : ∀ n : Nat, ∀ (x2 : Int32), ab_tr xs (rI P) (d + 3) 167 2 [] [.inr (0, 0, 0, i0), .inr (6, 0, 0, i1), .inl (.int x2)] [] P (f_167_2 i0 i1 N P n x2) := by
  intro n
  induction n with
  | zero => intro x2; exact tr_no
  | succ n ih =>
    intro x2
    refine tr_nil (rows2 := kb_167_2) rfl (List.cons_ne_nil _ _) ?_
    refine tr_blk 3 (pc' := 7) (rows' := kb_167_2.drop 3) (loc' := [.inr (0, 0, 0, i0), .inr (6, 0, 0, i1), .inl (.int x2)]) (st' := [.inl (.int (P.1 i0 2)), .inl (.int x2)]) (P1 := P) rfl ⟨trivial, trivial, trivial, trivial⟩ ?_
    refine tr_if (fun h4 => ?_) (fun h4 => ?_)
    · refine tr_icF (cd := .ge) (Int32.not_le.mpr h4) ?_
      refine tr_blk 2 (pc' := 13) (rows' := kb_167_2.drop 6) (loc' := [.inr (0, 0, 0, i0), .inr (6, 0, 0, i1), .inl (.int x2)]) (st' := [.inl (.int (8 : Int32)), .inl (.int x2)]) (P1 := P) rfl ⟨trivial, trivial, trivial⟩ ?_
      refine tr_if (fun h5 => ?_) (fun h5 => ?_)
      · refine tr_icF (cd := .ge) (Int32.not_le.mpr h5) ?_
        refine tr_gd (fun h1 => ?_)
        refine tr_blk 6 (pc' := 24) (rows' := kb_167_2.drop 13) (loc' := [.inr (0, 0, 0, i0), .inr (6, 0, 0, i1), .inl (.int x2)]) (st' := [.inl (.int (1 : Int32)), .inl (.int (P.1 (i0 + 1) x2.toNatClampNeg)), .inr (6, 0, 0, i1)]) (P1 := P) rfl ⟨trivial, trivial, trivial, trivial, h1, trivial, trivial⟩ ?_
        refine tr_cRI (z := km_186) (av := [.inr (6, 0, 0, i1), .inl (.int (P.1 (i0 + 1) x2.toNatClampNeg)), .inl (.int (1 : Int32))]) (st' := []) rfl rfl rfl (Nat.le_of_ble_eq_true rfl) ⟨rfl, Or.inl (by decide)⟩ rfl (Nat.le_of_ble_eq_true rfl) (t_186 i1 N P (P.1 (i0 + 1) x2.toNatClampNeg) (1 : Int32)) (fun v2 => ?_)
        refine tr_gd (fun h3 => ?_)
        refine tr_blk 4 (pc' := 33) (rows' := kb_167_2.drop 18) (loc' := [.inr (0, 0, 0, i0), .inr (6, 0, 0, i1), .inl (.int x2)]) (st' := [.inl (.int (P.1 (i0 + 2) x2.toNatClampNeg)), .inl (.int v2)]) (P1 := P) rfl ⟨trivial, trivial, trivial, h3, trivial⟩ ?_
        refine tr_if (fun h6 => ?_) (fun h6 => ?_)
        · refine tr_icT (cd := .eq) h6 ?_
          refine tr_nil (rows2 := kb_167_38) rfl (List.cons_ne_nil _ _) ?_
          refine tr_blk 1 (pc' := 41) (rows' := kb_167_38.drop 1) (loc' := [.inr (0, 0, 0, i0), .inr (6, 0, 0, i1), .inl (.int (x2 + 1))]) (st' := []) (P1 := P) rfl ⟨trivial, trivial⟩ ?_
          refine tr_goto ?_
          exact ih (x2 + 1)
        · refine tr_icF (cd := .eq) h6 ?_
          refine tr_blk 1 (pc' := 37) (rows' := kb_167_2.drop 20) (loc' := [.inr (0, 0, 0, i0), .inr (6, 0, 0, i1), .inl (.int x2)]) (st' := [.inl (.int x2)]) (P1 := P) rfl ⟨trivial, trivial⟩ ?_
          exact tr_reI (z := km_167) rfl ⟨_, rfl, rfl⟩ rfl
      · refine tr_icT (cd := .ge) (Int32.not_lt.mp h5) ?_
        refine tr_nil (rows2 := kb_167_44) rfl (List.cons_ne_nil _ _) ?_
        refine tr_blk 2 (pc' := 48) (rows' := kb_167_44.drop 2) (loc' := [.inr (0, 0, 0, i0), .inr (6, 0, 0, i1), .inl (.int x2)]) (st' := [.inl (.int (P.1 i0 2))]) (P1 := P) rfl ⟨trivial, trivial, trivial⟩ ?_
        exact tr_reI (z := km_167) rfl ⟨_, rfl, rfl⟩ rfl
    · refine tr_icT (cd := .ge) (Int32.not_lt.mp h4) ?_
      refine tr_nil (rows2 := kb_167_44) rfl (List.cons_ne_nil _ _) ?_
      refine tr_blk 2 (pc' := 48) (rows' := kb_167_44.drop 2) (loc' := [.inr (0, 0, 0, i0), .inr (6, 0, 0, i1), .inl (.int x2)]) (st' := [.inl (.int (P.1 i0 2))]) (P1 := P) rfl ⟨trivial, trivial, trivial⟩ ?_
      exact tr_reI (z := km_167) rfl ⟨_, rfl, rfl⟩ rfl
def f_167 (i0 : Nat) (i1 : Nat) (N : Nat) (P : ab_P) : Option Int32 :=
    f_167_2 i0 i1 N P N (0 : Int32)
theorem t_167 {xs : Nat × (Nat → Int32)} {d : Nat} (i0 : Nat) (i1 : Nat) (N : Nat) (P : ab_P) : ab_tr xs (rI P) (d + 3) 167 0 [] [.inr (0, 0, 0, i0), .inr (6, 0, 0, i1), ab_top] [] P (f_167 i0 i1 N P) := by
  unfold f_167
  refine tr_nil (rows2 := kb_167_0) rfl (List.cons_ne_nil _ _) ?_
  refine tr_blk 2 (pc' := 2) (rows' := kb_167_0.drop 2) (loc' := [.inr (0, 0, 0, i0), .inr (6, 0, 0, i1), .inl (.int (0 : Int32))]) (st' := []) (P1 := P) rfl ⟨trivial, trivial, trivial⟩ ?_
  exact t_167_2 i0 i1 N P N (0 : Int32)
def f_52 (N : Nat) (P : ab_P) : Option Int32 :=
    Option.bind (f_167 21 43 N P) fun v1 =>
    some v1
theorem t_52 {xs : Nat × (Nat → Int32)} {d : Nat} (N : Nat) (P : ab_P) : ab_tr xs (rI P) (d + 4) 52 0 [] [.inr (11, 0, 0, 0)] [] P (f_52 N P) := by
  unfold f_52
  refine tr_nil (rows2 := kb_52_0) rfl (List.cons_ne_nil _ _) ?_
  refine tr_blk 4 (pc' := 8) (rows' := kb_52_0.drop 4) (loc' := [.inr (11, 0, 0, 0)]) (st' := [.inr (6, 0, 0, 43), .inr (0, 0, 0, 21)]) (P1 := P) rfl ⟨trivial, trivial, trivial, trivial, trivial⟩ ?_
  refine tr_cRI (z := km_167) (av := [.inr (0, 0, 0, 21), .inr (6, 0, 0, 43)]) (st' := []) rfl rfl rfl (Nat.le_of_ble_eq_true rfl) ⟨rfl, Or.inl (by decide)⟩ rfl (Nat.le_of_ble_eq_true rfl) (t_167 21 43 N P) (fun v1 => ?_)
  exact tr_reI (z := km_52) rfl ⟨_, rfl, rfl⟩ rfl
def f_53_7 (N : Nat) : Nat → Int32 → ab_P → Option (Int32 × ab_P)
  | 0, _, _ => none
  | n + 1, x1, P =>
    if x1 < (P.1 72 29) then
      if ab_gi x1 8 then
      Option.bind (f_140_366 477 N P (P.1 (426 + 1 + x1.toNatClampNeg) 0) (1 : Int32)) fun v3 =>
      if ab_gi x1 8 then
      if v3 = (P.1 (426 + 1 + x1.toNatClampNeg) 1) then
        f_53_7 N n (x1 + 1) P
      else
      some (x1, P)
      else none
      else none
    else
    some (x1, P)
theorem t_53_7 {xs : Nat × (Nat → Int32)} {d : Nat} (N : Nat) : ∀ n : Nat, ∀ (x1 : Int32) (P : ab_P), ab_tr xs wI (d + 3) 53 7 [] [.inr (12, 0, 0, 72), .inl (.int x1)] [] P (f_53_7 N n x1 P) := by
  intro n
  induction n with
  | zero => intro x1 P; exact tr_no
  | succ n ih =>
    intro x1 P
    refine tr_nil (rows2 := kb_53_7) rfl (List.cons_ne_nil _ _) ?_
    refine tr_blk 3 (pc' := 12) (rows' := kb_53_7.drop 3) (loc' := [.inr (12, 0, 0, 72), .inl (.int x1)]) (st' := [.inl (.int (P.1 72 29)), .inl (.int x1)]) (P1 := P) rfl ⟨trivial, trivial, trivial, trivial⟩ ?_
    refine tr_if (fun h5 => ?_) (fun h5 => ?_)
    · refine tr_icF (cd := .ge) (Int32.not_le.mpr h5) ?_
      refine tr_gd (fun h2 => ?_)
      refine tr_blk 9 (pc' := 28) (rows' := kb_53_7.drop 13) (loc' := [.inr (12, 0, 0, 72), .inl (.int x1)]) (st' := [.inl (.int (1 : Int32)), .inl (.int (P.1 (426 + 1 + x1.toNatClampNeg) 0)), .inr (20, 366, 0, 477)]) (P1 := P) rfl ⟨trivial, trivial, trivial, trivial, trivial, ⟨h2, ab_grl h2⟩, trivial, (ab_vi (by decide)), trivial, trivial⟩ ?_
      refine tr_cRI (z := km_140) (av := [.inr (20, 366, 0, 477), .inl (.int (P.1 (426 + 1 + x1.toNatClampNeg) 0)), .inl (.int (1 : Int32))]) (st' := []) rfl rfl rfl (Nat.le_of_ble_eq_true rfl) trivial rfl (Nat.le_of_ble_eq_true rfl) (t_140_366 477 N P (P.1 (426 + 1 + x1.toNatClampNeg) 0) (1 : Int32)) (fun v3 => ?_)
      refine tr_gd (fun h4 => ?_)
      refine tr_blk 6 (pc' := 39) (rows' := kb_53_7.drop 20) (loc' := [.inr (12, 0, 0, 72), .inl (.int x1)]) (st' := [.inl (.int (P.1 (426 + 1 + x1.toNatClampNeg) 1)), .inl (.int v3)]) (P1 := P) rfl ⟨trivial, trivial, trivial, ⟨h4, ab_grl h4⟩, trivial, (ab_vi (by decide)), trivial⟩ ?_
      refine tr_if (fun h6 => ?_) (fun h6 => ?_)
      · refine tr_icF (cd := .ne) (fun q => q h6) ?_
        refine tr_blk 1 (pc' := 45) (rows' := kb_53_7.drop 22) (loc' := [.inr (12, 0, 0, 72), .inl (.int (x1 + 1))]) (st' := []) (P1 := P) rfl ⟨trivial, trivial⟩ ?_
        refine tr_goto ?_
        exact ih (x1 + 1) P
      · refine tr_icT (cd := .ne) h6 ?_
        refine tr_nil (rows2 := kb_53_48) rfl (List.cons_ne_nil _ _) ?_
        refine tr_blk 1 (pc' := 49) (rows' := kb_53_48.drop 1) (loc' := [.inr (12, 0, 0, 72), .inl (.int x1)]) (st' := [.inl (.int x1)]) (P1 := P) rfl ⟨trivial, trivial⟩ ?_
        exact tr_reI (z := km_53) rfl ⟨_, rfl, rfl⟩ rfl
    · refine tr_icT (cd := .ge) (Int32.not_lt.mp h5) ?_
      refine tr_nil (rows2 := kb_53_48) rfl (List.cons_ne_nil _ _) ?_
      refine tr_blk 1 (pc' := 49) (rows' := kb_53_48.drop 1) (loc' := [.inr (12, 0, 0, 72), .inl (.int x1)]) (st' := [.inl (.int x1)]) (P1 := P) rfl ⟨trivial, trivial⟩ ?_
      exact tr_reI (z := km_53) rfl ⟨_, rfl, rfl⟩ rfl
def f_53 (N : Nat) (P : ab_P) : Option (Int32 × ab_P) :=
    ab_lt (ab_pI P 72 0 (0 : Int32)) fun P1 =>
    f_53_7 N N (0 : Int32) P1
theorem t_53 {xs : Nat × (Nat → Int32)} {d : Nat} (N : Nat) : ∀ (P : ab_P), ab_tr xs wI (d + 3) 53 0 [] [.inr (12, 0, 0, 72), ab_top] [] P (f_53 N P) := by
  intro P
  unfold f_53
  refine tr_nil (rows2 := kb_53_0) rfl (List.cons_ne_nil _ _) ?_
  refine tr_blk 3 (pc' := 5) (rows' := kb_53_0.drop 3) (loc' := [.inr (12, 0, 0, 72), ab_top]) (st' := []) (P1 := (ab_pI P 72 0 (0 : Int32))) rfl ⟨trivial, trivial, trivial, trivial⟩ ?_
  refine tr_lt (fun P1 => ?_)
  refine tr_blk 2 (pc' := 7) (rows' := kb_53_0.drop 5) (loc' := [.inr (12, 0, 0, 72), .inl (.int (0 : Int32))]) (st' := []) (P1 := P1) rfl ⟨trivial, trivial, trivial⟩ ?_
  exact t_53_7 N N (0 : Int32) P1
def f_261_2 (N : Nat) : Nat → Int32 → ab_P → Option ab_P
  | 0, _, _ => none
  | n + 1, x1, P =>
    if x1 < (40 : Int32) then
      Option.bind (f_263 43 P x1) fun v1 =>
      if v1 = (0 : Int32) then
        if ab_gi x1 40 then
        ab_lt (ab_pI P 48 x1.toNatClampNeg (-1 : Int32)) fun P3 =>
        f_261_2 N n (x1 + 1) P3
        else none
      else
      ab_b2 (f_239 N x1 P) fun v5 P4 =>
      if ab_gi x1 40 then
      ab_lt (ab_pI P4 48 x1.toNatClampNeg v5) fun P7 =>
      f_261_2 N n (x1 + 1) P7
      else none
    else
    some P
theorem t_261_2 {xs : Nat × (Nat → Int32)} {d : Nat} (N : Nat) : ∀ n : Nat, ∀ (x1 : Int32) (P : ab_P), ab_tr xs wV (d + 4) 261 2 [] [.inr (4, 0, 0, 46), .inl (.int x1)] [] P (f_261_2 N n x1 P) := by
  intro n
  induction n with
  | zero => intro x1 P; exact tr_no
  | succ n ih =>
    intro x1 P
    refine tr_nil (rows2 := kb_261_2) rfl (List.cons_ne_nil _ _) ?_
    refine tr_blk 4 (pc' := 8) (rows' := kb_261_2.drop 4) (loc' := [.inr (4, 0, 0, 46), .inl (.int x1)]) (st' := [.inl (.int (40 : Int32)), .inl (.int x1)]) (P1 := P) rfl ⟨trivial, trivial, trivial, (Or.inl (by decide)), trivial⟩ ?_
    refine tr_if (fun h8 => ?_) (fun h8 => ?_)
    · refine tr_icF (cd := .ge) (Int32.not_le.mpr h8) ?_
      refine tr_blk 6 (pc' := 21) (rows' := kb_261_2.drop 11) (loc' := [.inr (4, 0, 0, 46), .inl (.int x1)]) (st' := [.inl (.int x1), .inr (6, 0, 0, 43), .inl (.int x1), .inr (20, 40, 0, 48)]) (P1 := P) rfl ⟨trivial, trivial, trivial, trivial, trivial, trivial, trivial⟩ ?_
      refine tr_cRI (z := km_263) (av := [.inr (6, 0, 0, 43), .inl (.int x1)]) (st' := [.inl (.int x1), .inr (20, 40, 0, 48)]) rfl rfl rfl (Nat.le_of_ble_eq_true rfl) ⟨rfl, Or.inl (by decide)⟩ rfl (Nat.le_of_ble_eq_true rfl) (t_263 43 P x1) (fun v1 => ?_)
      refine tr_if (fun h9 => ?_) (fun h9 => ?_)
      · refine tr_ifT (cd := .eq) h9 ?_
        refine tr_nil (rows2 := kb_261_35) rfl (List.cons_ne_nil _ _) ?_
        refine tr_blk 1 (pc' := 36) (rows' := kb_261_35.drop 1) (loc' := [.inr (4, 0, 0, 46), .inl (.int x1)]) (st' := [.inl (.int (-1 : Int32)), .inl (.int x1), .inr (20, 40, 0, 48)]) (P1 := P) rfl ⟨trivial, trivial⟩ ?_
        refine tr_nil (rows2 := kb_261_36) rfl (List.cons_ne_nil _ _) ?_
        refine tr_gd (fun h2 => ?_)
        refine tr_blk 1 (pc' := 37) (rows' := kb_261_36.drop 1) (loc' := [.inr (4, 0, 0, 46), .inl (.int x1)]) (st' := []) (P1 := (ab_pI P 48 x1.toNatClampNeg (-1 : Int32))) rfl ⟨h2, trivial⟩ ?_
        refine tr_lt (fun P3 => ?_)
        refine tr_blk 1 (pc' := 40) (rows' := kb_261_36.drop 2) (loc' := [.inr (4, 0, 0, 46), .inl (.int (x1 + 1))]) (st' := []) (P1 := P3) rfl ⟨trivial, trivial⟩ ?_
        refine tr_goto ?_
        exact ih (x1 + 1) P3
      · refine tr_ifF (cd := .eq) h9 ?_
        refine tr_blk 2 (pc' := 29) (rows' := kb_261_2.drop 15) (loc' := [.inr (4, 0, 0, 46), .inl (.int x1)]) (st' := [.inl (.int x1), .inr (4, 0, 0, 46), .inl (.int x1), .inr (20, 40, 0, 48)]) (P1 := P) rfl ⟨trivial, trivial, trivial⟩ ?_
        refine tr_cWI (z := km_239) (av := [.inr (4, 0, 0, 46), .inl (.int x1)]) (st' := [.inl (.int x1), .inr (20, 40, 0, 48)]) rfl rfl rfl (Nat.le_of_ble_eq_true rfl) ⟨rfl, Or.inl (by decide)⟩ rfl (Nat.le_of_ble_eq_true rfl) (t_239 N x1 P) (fun v5 P4 => ?_)
        refine tr_goto ?_
        refine tr_nil (rows2 := kb_261_36) rfl (List.cons_ne_nil _ _) ?_
        refine tr_gd (fun h6 => ?_)
        refine tr_blk 1 (pc' := 37) (rows' := kb_261_36.drop 1) (loc' := [.inr (4, 0, 0, 46), .inl (.int x1)]) (st' := []) (P1 := (ab_pI P4 48 x1.toNatClampNeg v5)) rfl ⟨h6, trivial⟩ ?_
        refine tr_lt (fun P7 => ?_)
        refine tr_blk 1 (pc' := 40) (rows' := kb_261_36.drop 2) (loc' := [.inr (4, 0, 0, 46), .inl (.int (x1 + 1))]) (st' := []) (P1 := P7) rfl ⟨trivial, trivial⟩ ?_
        refine tr_goto ?_
        exact ih (x1 + 1) P7
    · refine tr_icT (cd := .ge) (Int32.not_lt.mp h8) ?_
      refine tr_nil (rows2 := kb_261_43) rfl (List.cons_ne_nil _ _) ?_
      exact tr_reV (z := km_261) rfl rfl rfl
def f_261 (N : Nat) (P : ab_P) : Option ab_P :=
    f_261_2 N N (0 : Int32) P
theorem t_261 {xs : Nat × (Nat → Int32)} {d : Nat} (N : Nat) : ∀ (P : ab_P), ab_tr xs wV (d + 4) 261 0 [] [.inr (4, 0, 0, 46), ab_top] [] P (f_261 N P) := by
  intro P
  unfold f_261
  refine tr_nil (rows2 := kb_261_0) rfl (List.cons_ne_nil _ _) ?_
  refine tr_blk 2 (pc' := 2) (rows' := kb_261_0.drop 2) (loc' := [.inr (4, 0, 0, 46), .inl (.int (0 : Int32))]) (st' := []) (P1 := P) rfl ⟨trivial, trivial, trivial⟩ ?_
  exact t_261_2 N N (0 : Int32) P
def f_262_46 (P : ab_P) (H5 : Int32 → Int32 → Int32 → Int32 → Option Int32) (x1 : Int32) (x2 : Int32) (x3 : Int32) (x4 : Int32) (s0 : Int32) : Option Int32 :=
    if s0 = (0 : Int32) then
      H5 x1 x2 (x3 + (0 : Int32)) (x4 + 1)
    else
    if ab_gi x4 40 then
    if (P.1 48 x4.toNatClampNeg) < x1 then
      if x2 = (1 : Int32) then
        H5 x1 x2 (x3 + (1 : Int32)) (x4 + 1)
      else
      H5 x1 x2 (x3 + (0 : Int32)) (x4 + 1)
    else
    if x2 = (1 : Int32) then
      H5 x1 x2 (x3 + (0 : Int32)) (x4 + 1)
    else
    H5 x1 x2 (x3 + (1 : Int32)) (x4 + 1)
    else none
theorem t_262_46 {xs : Nat × (Nat → Int32)} {d : Nat} (P : ab_P) (H5 : Int32 → Int32 → Int32 → Int32 → Option Int32) (hH5 : ∀ (x1 : Int32) (x2 : Int32) (x3 : Int32) (x4 : Int32) (d5 : ab_V), ab_tr xs (rI P) (d + 1) 262 5 [] [.inr (4, 0, 0, 46), .inl (.int x1), .inl (.int x2), .inl (.int x3), .inl (.int x4), d5] [] P (H5 x1 x2 x3 x4)) : ∀ (x1 : Int32) (x2 : Int32) (x3 : Int32) (x4 : Int32) (s0 : Int32) (d5 : ab_V), ab_tr xs (rI P) (d + 1) 262 46 [] [.inr (4, 0, 0, 46), .inl (.int x1), .inl (.int x2), .inl (.int x3), .inl (.int x4), d5] [.inl (.int s0)] P (f_262_46 P H5 x1 x2 x3 x4 s0) := by
  intro x1 x2 x3 x4 s0 d5
  unfold f_262_46
  refine tr_nil (rows2 := kb_262_46) rfl (List.cons_ne_nil _ _) ?_
  refine tr_blk 3 (pc' := 51) (rows' := kb_262_46.drop 3) (loc' := [.inr (4, 0, 0, 46), .inl (.int x1), .inl (.int x2), .inl (.int x3), .inl (.int x4), .inl (.int s0)]) (st' := [.inl (.int s0), .inl (.int x3)]) (P1 := P) rfl ⟨trivial, trivial, trivial, trivial⟩ ?_
  refine tr_if (fun h4 => ?_) (fun h4 => ?_)
  · refine tr_ifT (cd := .eq) h4 ?_
    refine tr_nil (rows2 := kb_262_87) rfl (List.cons_ne_nil _ _) ?_
    refine tr_blk 1 (pc' := 88) (rows' := kb_262_87.drop 1) (loc' := [.inr (4, 0, 0, 46), .inl (.int x1), .inl (.int x2), .inl (.int x3), .inl (.int x4), .inl (.int s0)]) (st' := [.inl (.int (0 : Int32)), .inl (.int x3)]) (P1 := P) rfl ⟨trivial, trivial⟩ ?_
    refine tr_nil (rows2 := kb_262_88) rfl (List.cons_ne_nil _ _) ?_
    refine tr_blk 3 (pc' := 93) (rows' := kb_262_88.drop 3) (loc' := [.inr (4, 0, 0, 46), .inl (.int x1), .inl (.int x2), .inl (.int (x3 + (0 : Int32))), .inl (.int (x4 + 1)), .inl (.int s0)]) (st' := []) (P1 := P) rfl ⟨trivial, trivial, trivial, trivial⟩ ?_
    refine tr_goto ?_
    exact hH5 x1 x2 (x3 + (0 : Int32)) (x4 + 1) (.inl (.int s0))
  · refine tr_ifF (cd := .eq) h4 ?_
    refine tr_gd (fun h3 => ?_)
    refine tr_blk 5 (pc' := 62) (rows' := kb_262_46.drop 9) (loc' := [.inr (4, 0, 0, 46), .inl (.int x1), .inl (.int x2), .inl (.int x3), .inl (.int x4), .inl (.int s0)]) (st' := [.inl (.int x1), .inl (.int (P.1 48 x4.toNatClampNeg)), .inl (.int x3)]) (P1 := P) rfl ⟨trivial, trivial, trivial, h3, trivial, trivial⟩ ?_
    refine tr_if (fun h5 => ?_) (fun h5 => ?_)
    · refine tr_icF (cd := .ge) (Int32.not_le.mpr h5) ?_
      refine tr_blk 1 (pc' := 66) (rows' := kb_262_46.drop 11) (loc' := [.inr (4, 0, 0, 46), .inl (.int x1), .inl (.int x2), .inl (.int x3), .inl (.int x4), .inl (.int s0)]) (st' := [.inl (.int (1 : Int32)), .inl (.int x3)]) (P1 := P) rfl ⟨trivial, trivial⟩ ?_
      refine tr_goto ?_
      refine tr_nil (rows2 := kb_262_70) rfl (List.cons_ne_nil _ _) ?_
      refine tr_blk 2 (pc' := 72) (rows' := kb_262_70.drop 2) (loc' := [.inr (4, 0, 0, 46), .inl (.int x1), .inl (.int x2), .inl (.int x3), .inl (.int x4), .inl (.int s0)]) (st' := [.inl (.int (1 : Int32)), .inl (.int x2), .inl (.int (1 : Int32)), .inl (.int x3)]) (P1 := P) rfl ⟨trivial, trivial, trivial⟩ ?_
      refine tr_if (fun h7 => ?_) (fun h7 => ?_)
      · refine tr_icF (cd := .ne) (fun q => q h7) ?_
        refine tr_blk 1 (pc' := 76) (rows' := kb_262_70.drop 4) (loc' := [.inr (4, 0, 0, 46), .inl (.int x1), .inl (.int x2), .inl (.int x3), .inl (.int x4), .inl (.int s0)]) (st' := [.inl (.int (1 : Int32)), .inl (.int (1 : Int32)), .inl (.int x3)]) (P1 := P) rfl ⟨trivial, trivial⟩ ?_
        refine tr_goto ?_
        refine tr_nil (rows2 := kb_262_80) rfl (List.cons_ne_nil _ _) ?_
        refine tr_icF (cd := .ne) (ab_cdF (by decide)) ?_
        refine tr_blk 1 (pc' := 84) (rows' := kb_262_80.drop 2) (loc' := [.inr (4, 0, 0, 46), .inl (.int x1), .inl (.int x2), .inl (.int x3), .inl (.int x4), .inl (.int s0)]) (st' := [.inl (.int (1 : Int32)), .inl (.int x3)]) (P1 := P) rfl ⟨trivial, trivial⟩ ?_
        refine tr_goto ?_
        refine tr_nil (rows2 := kb_262_88) rfl (List.cons_ne_nil _ _) ?_
        refine tr_blk 3 (pc' := 93) (rows' := kb_262_88.drop 3) (loc' := [.inr (4, 0, 0, 46), .inl (.int x1), .inl (.int x2), .inl (.int (x3 + (1 : Int32))), .inl (.int (x4 + 1)), .inl (.int s0)]) (st' := []) (P1 := P) rfl ⟨trivial, trivial, trivial, trivial⟩ ?_
        refine tr_goto ?_
        exact hH5 x1 x2 (x3 + (1 : Int32)) (x4 + 1) (.inl (.int s0))
      · refine tr_icT (cd := .ne) h7 ?_
        refine tr_nil (rows2 := kb_262_79) rfl (List.cons_ne_nil _ _) ?_
        refine tr_blk 1 (pc' := 80) (rows' := kb_262_79.drop 1) (loc' := [.inr (4, 0, 0, 46), .inl (.int x1), .inl (.int x2), .inl (.int x3), .inl (.int x4), .inl (.int s0)]) (st' := [.inl (.int (0 : Int32)), .inl (.int (1 : Int32)), .inl (.int x3)]) (P1 := P) rfl ⟨trivial, trivial⟩ ?_
        refine tr_nil (rows2 := kb_262_80) rfl (List.cons_ne_nil _ _) ?_
        refine tr_icT (cd := .ne) (ab_cdT (by decide)) ?_
        refine tr_nil (rows2 := kb_262_87) rfl (List.cons_ne_nil _ _) ?_
        refine tr_blk 1 (pc' := 88) (rows' := kb_262_87.drop 1) (loc' := [.inr (4, 0, 0, 46), .inl (.int x1), .inl (.int x2), .inl (.int x3), .inl (.int x4), .inl (.int s0)]) (st' := [.inl (.int (0 : Int32)), .inl (.int x3)]) (P1 := P) rfl ⟨trivial, trivial⟩ ?_
        refine tr_nil (rows2 := kb_262_88) rfl (List.cons_ne_nil _ _) ?_
        refine tr_blk 3 (pc' := 93) (rows' := kb_262_88.drop 3) (loc' := [.inr (4, 0, 0, 46), .inl (.int x1), .inl (.int x2), .inl (.int (x3 + (0 : Int32))), .inl (.int (x4 + 1)), .inl (.int s0)]) (st' := []) (P1 := P) rfl ⟨trivial, trivial, trivial, trivial⟩ ?_
        refine tr_goto ?_
        exact hH5 x1 x2 (x3 + (0 : Int32)) (x4 + 1) (.inl (.int s0))
    · refine tr_icT (cd := .ge) (Int32.not_lt.mp h5) ?_
      refine tr_nil (rows2 := kb_262_69) rfl (List.cons_ne_nil _ _) ?_
      refine tr_blk 1 (pc' := 70) (rows' := kb_262_69.drop 1) (loc' := [.inr (4, 0, 0, 46), .inl (.int x1), .inl (.int x2), .inl (.int x3), .inl (.int x4), .inl (.int s0)]) (st' := [.inl (.int (0 : Int32)), .inl (.int x3)]) (P1 := P) rfl ⟨trivial, trivial⟩ ?_
      refine tr_nil (rows2 := kb_262_70) rfl (List.cons_ne_nil _ _) ?_
      refine tr_blk 2 (pc' := 72) (rows' := kb_262_70.drop 2) (loc' := [.inr (4, 0, 0, 46), .inl (.int x1), .inl (.int x2), .inl (.int x3), .inl (.int x4), .inl (.int s0)]) (st' := [.inl (.int (1 : Int32)), .inl (.int x2), .inl (.int (0 : Int32)), .inl (.int x3)]) (P1 := P) rfl ⟨trivial, trivial, trivial⟩ ?_
      refine tr_if (fun h6 => ?_) (fun h6 => ?_)
      · refine tr_icF (cd := .ne) (fun q => q h6) ?_
        refine tr_blk 1 (pc' := 76) (rows' := kb_262_70.drop 4) (loc' := [.inr (4, 0, 0, 46), .inl (.int x1), .inl (.int x2), .inl (.int x3), .inl (.int x4), .inl (.int s0)]) (st' := [.inl (.int (1 : Int32)), .inl (.int (0 : Int32)), .inl (.int x3)]) (P1 := P) rfl ⟨trivial, trivial⟩ ?_
        refine tr_goto ?_
        refine tr_nil (rows2 := kb_262_80) rfl (List.cons_ne_nil _ _) ?_
        refine tr_icT (cd := .ne) (ab_cdT (by decide)) ?_
        refine tr_nil (rows2 := kb_262_87) rfl (List.cons_ne_nil _ _) ?_
        refine tr_blk 1 (pc' := 88) (rows' := kb_262_87.drop 1) (loc' := [.inr (4, 0, 0, 46), .inl (.int x1), .inl (.int x2), .inl (.int x3), .inl (.int x4), .inl (.int s0)]) (st' := [.inl (.int (0 : Int32)), .inl (.int x3)]) (P1 := P) rfl ⟨trivial, trivial⟩ ?_
        refine tr_nil (rows2 := kb_262_88) rfl (List.cons_ne_nil _ _) ?_
        refine tr_blk 3 (pc' := 93) (rows' := kb_262_88.drop 3) (loc' := [.inr (4, 0, 0, 46), .inl (.int x1), .inl (.int x2), .inl (.int (x3 + (0 : Int32))), .inl (.int (x4 + 1)), .inl (.int s0)]) (st' := []) (P1 := P) rfl ⟨trivial, trivial, trivial, trivial⟩ ?_
        refine tr_goto ?_
        exact hH5 x1 x2 (x3 + (0 : Int32)) (x4 + 1) (.inl (.int s0))
      · refine tr_icT (cd := .ne) h6 ?_
        refine tr_nil (rows2 := kb_262_79) rfl (List.cons_ne_nil _ _) ?_
        refine tr_blk 1 (pc' := 80) (rows' := kb_262_79.drop 1) (loc' := [.inr (4, 0, 0, 46), .inl (.int x1), .inl (.int x2), .inl (.int x3), .inl (.int x4), .inl (.int s0)]) (st' := [.inl (.int (0 : Int32)), .inl (.int (0 : Int32)), .inl (.int x3)]) (P1 := P) rfl ⟨trivial, trivial⟩ ?_
        refine tr_nil (rows2 := kb_262_80) rfl (List.cons_ne_nil _ _) ?_
        refine tr_icF (cd := .ne) (ab_cdF (by decide)) ?_
        refine tr_blk 1 (pc' := 84) (rows' := kb_262_80.drop 2) (loc' := [.inr (4, 0, 0, 46), .inl (.int x1), .inl (.int x2), .inl (.int x3), .inl (.int x4), .inl (.int s0)]) (st' := [.inl (.int (1 : Int32)), .inl (.int x3)]) (P1 := P) rfl ⟨trivial, trivial⟩ ?_
        refine tr_goto ?_
        refine tr_nil (rows2 := kb_262_88) rfl (List.cons_ne_nil _ _) ?_
        refine tr_blk 3 (pc' := 93) (rows' := kb_262_88.drop 3) (loc' := [.inr (4, 0, 0, 46), .inl (.int x1), .inl (.int x2), .inl (.int (x3 + (1 : Int32))), .inl (.int (x4 + 1)), .inl (.int s0)]) (st' := []) (P1 := P) rfl ⟨trivial, trivial, trivial, trivial⟩ ?_
        refine tr_goto ?_
        exact hH5 x1 x2 (x3 + (1 : Int32)) (x4 + 1) (.inl (.int s0))
def f_262_5 (P : ab_P) : Nat → Int32 → Int32 → Int32 → Int32 → Option Int32
  | 0, _, _, _, _ => none
  | n + 1, x1, x2, x3, x4 =>
    if x4 < (40 : Int32) then
      if ab_gi x4 40 then
      if (P.1 48 x4.toNatClampNeg) = (-1 : Int32) then
        f_262_46 P (fun y0 y1 y2 y3 => f_262_5 P n y0 y1 y2 y3) x1 x2 x3 x4 (0 : Int32)
      else
      Option.bind (f_231 43 P (6 : Int32) x4) fun v2 =>
      if v2 = x2 then
        f_262_46 P (fun y0 y1 y2 y3 => f_262_5 P n y0 y1 y2 y3) x1 x2 x3 x4 (1 : Int32)
      else
      f_262_46 P (fun y0 y1 y2 y3 => f_262_5 P n y0 y1 y2 y3) x1 x2 x3 x4 (0 : Int32)
      else none
    else
    some x3
theorem t_262_5 {xs : Nat × (Nat → Int32)} {d : Nat} (P : ab_P) : ∀ n : Nat, ∀ (x1 : Int32) (x2 : Int32) (x3 : Int32) (x4 : Int32) (d5 : ab_V), ab_tr xs (rI P) (d + 1) 262 5 [] [.inr (4, 0, 0, 46), .inl (.int x1), .inl (.int x2), .inl (.int x3), .inl (.int x4), d5] [] P (f_262_5 P n x1 x2 x3 x4) := by
  intro n
  induction n with
  | zero => intro x1 x2 x3 x4 d5; exact tr_no
  | succ n ih =>
    intro x1 x2 x3 x4 d5
    refine tr_nil (rows2 := kb_262_5) rfl (List.cons_ne_nil _ _) ?_
    refine tr_blk 4 (pc' := 12) (rows' := kb_262_5.drop 4) (loc' := [.inr (4, 0, 0, 46), .inl (.int x1), .inl (.int x2), .inl (.int x3), .inl (.int x4), d5]) (st' := [.inl (.int (40 : Int32)), .inl (.int x4)]) (P1 := P) rfl ⟨trivial, trivial, trivial, (Or.inl (by decide)), trivial⟩ ?_
    refine tr_if (fun h8 => ?_) (fun h8 => ?_)
    · refine tr_icF (cd := .ge) (Int32.not_le.mpr h8) ?_
      refine tr_gd (fun h1 => ?_)
      refine tr_blk 5 (pc' := 23) (rows' := kb_262_5.drop 10) (loc' := [.inr (4, 0, 0, 46), .inl (.int x1), .inl (.int x2), .inl (.int x3), .inl (.int x4), d5]) (st' := [.inl (.int (-1 : Int32)), .inl (.int (P.1 48 x4.toNatClampNeg))]) (P1 := P) rfl ⟨trivial, trivial, trivial, h1, trivial, trivial⟩ ?_
      refine tr_if (fun h9 => ?_) (fun h9 => ?_)
      · refine tr_icT (cd := .eq) h9 ?_
        refine tr_nil (rows2 := kb_262_45) rfl (List.cons_ne_nil _ _) ?_
        refine tr_blk 1 (pc' := 46) (rows' := kb_262_45.drop 1) (loc' := [.inr (4, 0, 0, 46), .inl (.int x1), .inl (.int x2), .inl (.int x3), .inl (.int x4), d5]) (st' := [.inl (.int (0 : Int32))]) (P1 := P) rfl ⟨trivial, trivial⟩ ?_
        exact t_262_46 P _ ih x1 x2 x3 x4 (0 : Int32) (d5)
      · refine tr_icF (cd := .eq) h9 ?_
        refine tr_blk 4 (pc' := 34) (rows' := kb_262_5.drop 15) (loc' := [.inr (4, 0, 0, 46), .inl (.int x1), .inl (.int x2), .inl (.int x3), .inl (.int x4), d5]) (st' := [.inl (.int x4), .inl (.int (6 : Int32)), .inr (6, 0, 0, 43)]) (P1 := P) rfl ⟨trivial, trivial, trivial, trivial, trivial⟩ ?_
        refine tr_cRI (z := km_231) (av := [.inr (6, 0, 0, 43), .inl (.int (6 : Int32)), .inl (.int x4)]) (st' := []) rfl rfl rfl (Nat.le_of_ble_eq_true rfl) ⟨rfl, Or.inl (by decide)⟩ rfl (Nat.le_of_ble_eq_true rfl) (t_231 43 P (6 : Int32) x4) (fun v2 => ?_)
        refine tr_blk 1 (pc' := 38) (rows' := kb_262_5.drop 17) (loc' := [.inr (4, 0, 0, 46), .inl (.int x1), .inl (.int x2), .inl (.int x3), .inl (.int x4), d5]) (st' := [.inl (.int x2), .inl (.int v2)]) (P1 := P) rfl ⟨trivial, trivial⟩ ?_
        refine tr_if (fun h10 => ?_) (fun h10 => ?_)
        · refine tr_icF (cd := .ne) (fun q => q h10) ?_
          refine tr_blk 1 (pc' := 42) (rows' := kb_262_5.drop 19) (loc' := [.inr (4, 0, 0, 46), .inl (.int x1), .inl (.int x2), .inl (.int x3), .inl (.int x4), d5]) (st' := [.inl (.int (1 : Int32))]) (P1 := P) rfl ⟨trivial, trivial⟩ ?_
          refine tr_goto ?_
          exact t_262_46 P _ ih x1 x2 x3 x4 (1 : Int32) (d5)
        · refine tr_icT (cd := .ne) h10 ?_
          refine tr_nil (rows2 := kb_262_45) rfl (List.cons_ne_nil _ _) ?_
          refine tr_blk 1 (pc' := 46) (rows' := kb_262_45.drop 1) (loc' := [.inr (4, 0, 0, 46), .inl (.int x1), .inl (.int x2), .inl (.int x3), .inl (.int x4), d5]) (st' := [.inl (.int (0 : Int32))]) (P1 := P) rfl ⟨trivial, trivial⟩ ?_
          exact t_262_46 P _ ih x1 x2 x3 x4 (0 : Int32) (d5)
    · refine tr_icT (cd := .ge) (Int32.not_lt.mp h8) ?_
      refine tr_nil (rows2 := kb_262_96) rfl (List.cons_ne_nil _ _) ?_
      refine tr_blk 1 (pc' := 97) (rows' := kb_262_96.drop 1) (loc' := [.inr (4, 0, 0, 46), .inl (.int x1), .inl (.int x2), .inl (.int x3), .inl (.int x4), d5]) (st' := [.inl (.int x3)]) (P1 := P) rfl ⟨trivial, trivial⟩ ?_
      exact tr_reI (z := km_262) rfl ⟨_, rfl, rfl⟩ rfl
def f_262 (N : Nat) (P : ab_P) (a1 : Int32) (a2 : Int32) : Option Int32 :=
    f_262_5 P N a1 a2 (0 : Int32) (0 : Int32)
theorem t_262 {xs : Nat × (Nat → Int32)} {d : Nat} (N : Nat) (P : ab_P) : ∀ (a1 : Int32) (a2 : Int32), ab_tr xs (rI P) (d + 1) 262 0 [] [.inr (4, 0, 0, 46), .inl (.int a1), .inl (.int a2), ab_top, ab_top, ab_top] [] P (f_262 N P a1 a2) := by
  intro a1 a2
  unfold f_262
  refine tr_nil (rows2 := kb_262_0) rfl (List.cons_ne_nil _ _) ?_
  refine tr_blk 4 (pc' := 5) (rows' := kb_262_0.drop 4) (loc' := [.inr (4, 0, 0, 46), .inl (.int a1), .inl (.int a2), .inl (.int (0 : Int32)), .inl (.int (0 : Int32)), ab_top]) (st' := []) (P1 := P) rfl ⟨trivial, trivial, trivial, trivial, trivial⟩ ?_
  exact t_262_5 P N a1 a2 (0 : Int32) (0 : Int32) (ab_top)
def f_168_25 (N : Nat) (x1 : Int32) (x2 : Int32) (s0 : Int32) (P : ab_P) : Option ((Int32 ⊕ Fin 3) × ab_P) :=
    ab_x2 (f_228 s0 P) (fun _ P2 =>
    Option.bind (f_261 N P2) fun P3 =>
    Option.bind (f_262 N P3 x1 ((1 : Int32) - x2)) fun v4 =>
    some (.inl v4, P3)) (fun q => q)
theorem t_168_25 {xs : Nat × (Nat → Int32)} {d : Nat} (N : Nat) : ∀ (x1 : Int32) (x2 : Int32) (s0 : Int32) (P : ab_P), ab_tr xs xI (d + 5) 168 25 [] [.inr (11, 0, 0, 0), .inl (.int x1), .inl (.int x2)] [.inl (.int s0), .inr (11, 0, 0, 0)] P (f_168_25 N x1 x2 s0 P) := by
  intro x1 x2 s0 P
  unfold f_168_25
  refine tr_nil (rows2 := kb_168_25) rfl (List.cons_ne_nil _ _) ?_
  refine tr_cax (fun _ => none) (zi := km_168) (fun _ => rfl) (fun _ _ => rfl) rfl rfl (z := km_228) (av := [.inr (11, 0, 0, 0), .inl (.int s0)]) (st' := []) rfl rfl rfl (Nat.le_of_ble_eq_true rfl) ⟨rfl, Or.inl (by decide)⟩ rfl (Nat.le_of_ble_eq_true rfl) (t_228 s0 P) (fun _ P2 => ?_)
  refine tr_blk 2 (pc' := 32) (rows' := kb_168_25.drop 3) (loc' := [.inr (11, 0, 0, 0), .inl (.int x1), .inl (.int x2)]) (st' := [.inr (4, 0, 0, 46)]) (P1 := P2) rfl ⟨trivial, trivial, trivial⟩ ?_
  refine tr_cWV (z := km_261) (av := [.inr (4, 0, 0, 46)]) (st' := []) rfl rfl rfl (Nat.le_of_ble_eq_true rfl) ⟨rfl, Or.inl (by decide)⟩ rfl (Nat.le_of_ble_eq_true rfl) (t_261 N P2) (fun P3 => ?_)
  refine tr_blk 6 (pc' := 43) (rows' := kb_168_25.drop 10) (loc' := [.inr (11, 0, 0, 0), .inl (.int x1), .inl (.int x2)]) (st' := [.inl (.int ((1 : Int32) - x2)), .inl (.int x1), .inr (4, 0, 0, 46)]) (P1 := P3) rfl ⟨trivial, trivial, trivial, trivial, trivial, trivial, trivial⟩ ?_
  refine tr_cRI (z := km_262) (av := [.inr (4, 0, 0, 46), .inl (.int x1), .inl (.int ((1 : Int32) - x2))]) (st' := []) rfl rfl rfl (Nat.le_of_ble_eq_true rfl) ⟨rfl, Or.inl (by decide)⟩ rfl (Nat.le_of_ble_eq_true rfl) (t_262 N P3 x1 ((1 : Int32) - x2)) (fun v4 => ?_)
  exact tr_reI (z := km_168) rfl ⟨_, rfl, rfl⟩ rfl
def f_168 (N : Nat) (a1 : Int32) (a2 : Int32) (P : ab_P) : Option ((Int32 ⊕ Fin 3) × ab_P) :=
    Option.bind (f_240 P a1 (0 : Int32) (100 : Int32)) fun v1 =>
    if v1 = (0 : Int32) then
      f_168_25 N a1 a2 (0 : Int32) P
    else
    if a2 = (0 : Int32) then
      f_168_25 N a1 a2 (1 : Int32) P
    else
    if a2 = (1 : Int32) then
      f_168_25 N a1 a2 (1 : Int32) P
    else
    f_168_25 N a1 a2 (0 : Int32) P
theorem t_168 {xs : Nat × (Nat → Int32)} {d : Nat} (N : Nat) : ∀ (a1 : Int32) (a2 : Int32) (P : ab_P), ab_tr xs xI (d + 5) 168 0 [] [.inr (11, 0, 0, 0), .inl (.int a1), .inl (.int a2)] [] P (f_168 N a1 a2 P) := by
  intro a1 a2 P
  unfold f_168
  refine tr_nil (rows2 := kb_168_0) rfl (List.cons_ne_nil _ _) ?_
  refine tr_blk 4 (pc' := 5) (rows' := kb_168_0.drop 4) (loc' := [.inr (11, 0, 0, 0), .inl (.int a1), .inl (.int a2)]) (st' := [.inl (.int (100 : Int32)), .inl (.int (0 : Int32)), .inl (.int a1), .inr (11, 0, 0, 0)]) (P1 := P) rfl ⟨trivial, trivial, trivial, trivial, trivial⟩ ?_
  refine tr_cRI (z := km_240) (av := [.inl (.int a1), .inl (.int (0 : Int32)), .inl (.int (100 : Int32))]) (st' := [.inr (11, 0, 0, 0)]) rfl rfl rfl (Nat.le_of_ble_eq_true rfl) trivial rfl (Nat.le_of_ble_eq_true rfl) (t_240 P a1 (0 : Int32) (100 : Int32)) (fun v1 => ?_)
  refine tr_if (fun h5 => ?_) (fun h5 => ?_)
  · refine tr_ifT (cd := .eq) h5 ?_
    refine tr_nil (rows2 := kb_168_24) rfl (List.cons_ne_nil _ _) ?_
    refine tr_blk 1 (pc' := 25) (rows' := kb_168_24.drop 1) (loc' := [.inr (11, 0, 0, 0), .inl (.int a1), .inl (.int a2)]) (st' := [.inl (.int (0 : Int32)), .inr (11, 0, 0, 0)]) (P1 := P) rfl ⟨trivial, trivial⟩ ?_
    exact t_168_25 N a1 a2 (0 : Int32) P
  · refine tr_ifF (cd := .eq) h5 ?_
    refine tr_blk 1 (pc' := 12) (rows' := kb_168_0.drop 7) (loc' := [.inr (11, 0, 0, 0), .inl (.int a1), .inl (.int a2)]) (st' := [.inl (.int a2), .inr (11, 0, 0, 0)]) (P1 := P) rfl ⟨trivial, trivial⟩ ?_
    refine tr_if (fun h6 => ?_) (fun h6 => ?_)
    · refine tr_ifT (cd := .eq) h6 ?_
      refine tr_nil (rows2 := kb_168_20) rfl (List.cons_ne_nil _ _) ?_
      refine tr_blk 1 (pc' := 21) (rows' := kb_168_20.drop 1) (loc' := [.inr (11, 0, 0, 0), .inl (.int a1), .inl (.int a2)]) (st' := [.inl (.int (1 : Int32)), .inr (11, 0, 0, 0)]) (P1 := P) rfl ⟨trivial, trivial⟩ ?_
      refine tr_goto ?_
      exact t_168_25 N a1 a2 (1 : Int32) P
    · refine tr_ifF (cd := .eq) h6 ?_
      refine tr_blk 2 (pc' := 17) (rows' := kb_168_0.drop 10) (loc' := [.inr (11, 0, 0, 0), .inl (.int a1), .inl (.int a2)]) (st' := [.inl (.int (1 : Int32)), .inl (.int a2), .inr (11, 0, 0, 0)]) (P1 := P) rfl ⟨trivial, trivial, trivial⟩ ?_
      refine tr_if (fun h7 => ?_) (fun h7 => ?_)
      · refine tr_icF (cd := .ne) (fun q => q h7) ?_
        refine tr_nil (rows2 := kb_168_20) rfl (List.cons_ne_nil _ _) ?_
        refine tr_blk 1 (pc' := 21) (rows' := kb_168_20.drop 1) (loc' := [.inr (11, 0, 0, 0), .inl (.int a1), .inl (.int a2)]) (st' := [.inl (.int (1 : Int32)), .inr (11, 0, 0, 0)]) (P1 := P) rfl ⟨trivial, trivial⟩ ?_
        refine tr_goto ?_
        exact t_168_25 N a1 a2 (1 : Int32) P
      · refine tr_icT (cd := .ne) h7 ?_
        refine tr_nil (rows2 := kb_168_24) rfl (List.cons_ne_nil _ _) ?_
        refine tr_blk 1 (pc' := 25) (rows' := kb_168_24.drop 1) (loc' := [.inr (11, 0, 0, 0), .inl (.int a1), .inl (.int a2)]) (st' := [.inl (.int (0 : Int32)), .inr (11, 0, 0, 0)]) (P1 := P) rfl ⟨trivial, trivial⟩ ?_
        exact t_168_25 N a1 a2 (0 : Int32) P
def f_54_1 (N : Nat) (a1 : Int32) (a2 : Int32) (P : ab_P) : Option (Int32 × ab_P) :=
    ab_h2 (f_168 N a1 a2 P) (fun v2 P1 =>
    ab_lt (ab_pL P1 570 0 (v2).toInt64) fun P3 =>
    some ((0 : Int32), P3))
    (fun _ => none) (fun P9 => some ((1 : Int32), P9)) (fun _ => none)
theorem t_54_1 {xs : Nat × (Nat → Int32)} {d : Nat} (N : Nat) : ∀ (a1 : Int32) (a2 : Int32) (P : ab_P), ab_tr xs wI (d + 6) 54 0 [] [.inr (11, 0, 0, 0), .inl (.int a1), .inl (.int a2), .inr (22, 1, 0, 570), ab_top] [] P (f_54_1 N a1 a2 P) := by
  intro a1 a2 P
  unfold f_54_1
  refine tr_nil (rows2 := kb_54_0) rfl (List.cons_ne_nil _ _) ?_
  refine tr_blk 5 (pc' := 5) (rows' := kb_54_0.drop 5) (loc' := [.inr (11, 0, 0, 0), .inl (.int a1), .inl (.int a2), .inr (22, 1, 0, 570), ab_top]) (st' := [.inl (.int a2), .inl (.int a1), .inr (11, 0, 0, 0), .inl (.int (0 : Int32)), .inr (22, 1, 0, 570)]) (P1 := P) rfl ⟨trivial, trivial, trivial, trivial, trivial, trivial⟩ ?_
  refine tr_cah (fun b => some (.inl (.int b))) (zi := km_54) (fun _ => rfl) rfl (z := km_168) (av := [.inr (11, 0, 0, 0), .inl (.int a1), .inl (.int a2)]) (st' := [.inl (.int (0 : Int32)), .inr (22, 1, 0, 570)]) rfl rfl rfl (Nat.le_of_ble_eq_true rfl) ⟨rfl, Or.inl (by decide)⟩ rfl (Nat.le_of_ble_eq_true rfl) (t_168 N a1 a2 P) (fun v2 P1 => ?_) ?_ ?_ ?_
  · refine tr_blk 2 (pc' := 10) (rows' := kb_54_0.drop 8) (loc' := [.inr (11, 0, 0, 0), .inl (.int a1), .inl (.int a2), .inr (22, 1, 0, 570), ab_top]) (st' := []) (P1 := (ab_pL P1 570 0 (v2).toInt64)) rfl ⟨trivial, (ab_vi (by decide)), trivial⟩ ?_
    refine tr_lt (fun P3 => ?_)
    refine tr_goto ?_
    refine tr_nil (rows2 := kb_54_17) rfl (List.cons_ne_nil _ _) ?_
    refine tr_blk 1 (pc' := 18) (rows' := kb_54_17.drop 1) (loc' := [.inr (11, 0, 0, 0), .inl (.int a1), .inl (.int a2), .inr (22, 1, 0, 570), ab_top]) (st' := [.inl (.int (0 : Int32))]) (P1 := P3) rfl ⟨trivial, trivial⟩ ?_
    exact tr_reI (z := km_54) rfl ⟨_, rfl, rfl⟩ rfl
  · exact fun _ => rfl
  · exact fun _ => tr_han (rows2 := kb_54_13) (z := km_54) _ (fun q => [.inr (11, 0, 0, 0), .inl (.int a1), .inl (.int a2), .inr (22, 1, 0, 570), .inr (40, 1, 0, q)]) rfl (List.cons_ne_nil _ _) (fun q => rfl) ⟨trivial, trivial, trivial⟩ rfl ⟨_, rfl, rfl⟩ rfl
  · exact fun _ => rfl
def f_169_5 (N : Nat) : Nat → Int32 → Int32 → Int32 → Int32 → ab_P → Option (Int32 × ab_P)
  | 0, _, _, _, _, _ => none
  | n + 1, x1, x2, x3, x4, P =>
    if x4 < (P.1 477 360) then
      Option.bind (f_144_366 477 P x4) fun v1 =>
      if v1 = (0 : Int32) then
        f_169_5 N n x1 x2 (x3 + (0 : Int32)) (x4 + 1) P
      else
      Option.bind (f_135_366 477 P x4 (6 : Int32)) fun v2 =>
      if v2 = ((1 : Int32) - x2) then
        ab_b2 (f_146_366 477 N x4 P) fun v4 P3 =>
        if v4 < x1 then
          if x2 = (1 : Int32) then
            f_169_5 N n x1 x2 (x3 + (0 : Int32)) (x4 + 1) P3
          else
          f_169_5 N n x1 x2 (x3 + (1 : Int32)) (x4 + 1) P3
        else
        if x2 = (1 : Int32) then
          f_169_5 N n x1 x2 (x3 + (1 : Int32)) (x4 + 1) P3
        else
        f_169_5 N n x1 x2 (x3 + (0 : Int32)) (x4 + 1) P3
      else
      f_169_5 N n x1 x2 (x3 + (0 : Int32)) (x4 + 1) P
    else
    some (x3, P)
theorem t_169_5 {xs : Nat × (Nat → Int32)} {d : Nat} (N : Nat) : ∀ n : Nat, ∀ (x1 : Int32) (x2 : Int32) (x3 : Int32) (x4 : Int32) (P : ab_P), ab_tr xs wI (d + 6) 169 5 [] [.inr (12, 0, 0, 72), .inl (.int x1), .inl (.int x2), .inl (.int x3), .inl (.int x4)] [] P (f_169_5 N n x1 x2 x3 x4 P) := by
  intro n
  induction n with
  | zero => intro x1 x2 x3 x4 P; exact tr_no
  | succ n ih =>
    intro x1 x2 x3 x4 P
    refine tr_nil (rows2 := kb_169_5) rfl (List.cons_ne_nil _ _) ?_
    refine tr_blk 5 (pc' := 15) (rows' := kb_169_5.drop 5) (loc' := [.inr (12, 0, 0, 72), .inl (.int x1), .inl (.int x2), .inl (.int x3), .inl (.int x4)]) (st' := [.inl (.int (P.1 477 360)), .inl (.int x4)]) (P1 := P) rfl ⟨trivial, trivial, trivial, trivial, (ab_vi (by decide)), trivial⟩ ?_
    refine tr_if (fun h5 => ?_) (fun h5 => ?_)
    · refine tr_icF (cd := .ge) (Int32.not_le.mpr h5) ?_
      refine tr_blk 4 (pc' := 25) (rows' := kb_169_5.drop 10) (loc' := [.inr (12, 0, 0, 72), .inl (.int x1), .inl (.int x2), .inl (.int x3), .inl (.int x4)]) (st' := [.inl (.int x4), .inr (20, 366, 0, 477), .inl (.int x3)]) (P1 := P) rfl ⟨trivial, trivial, trivial, trivial, trivial⟩ ?_
      refine tr_cRI (z := km_144) (av := [.inr (20, 366, 0, 477), .inl (.int x4)]) (st' := [.inl (.int x3)]) rfl rfl rfl (Nat.le_of_ble_eq_true rfl) trivial rfl (Nat.le_of_ble_eq_true rfl) (t_144_366 477 P x4) (fun v1 => ?_)
      refine tr_if (fun h6 => ?_) (fun h6 => ?_)
      · refine tr_ifT (cd := .eq) h6 ?_
        refine tr_nil (rows2 := kb_169_84) rfl (List.cons_ne_nil _ _) ?_
        refine tr_blk 1 (pc' := 85) (rows' := kb_169_84.drop 1) (loc' := [.inr (12, 0, 0, 72), .inl (.int x1), .inl (.int x2), .inl (.int x3), .inl (.int x4)]) (st' := [.inl (.int (0 : Int32)), .inl (.int x3)]) (P1 := P) rfl ⟨trivial, trivial⟩ ?_
        refine tr_nil (rows2 := kb_169_85) rfl (List.cons_ne_nil _ _) ?_
        refine tr_blk 3 (pc' := 90) (rows' := kb_169_85.drop 3) (loc' := [.inr (12, 0, 0, 72), .inl (.int x1), .inl (.int x2), .inl (.int (x3 + (0 : Int32))), .inl (.int (x4 + 1))]) (st' := []) (P1 := P) rfl ⟨trivial, trivial, trivial, trivial⟩ ?_
        refine tr_goto ?_
        exact ih x1 x2 (x3 + (0 : Int32)) (x4 + 1) P
      · refine tr_ifF (cd := .eq) h6 ?_
        refine tr_blk 4 (pc' := 39) (rows' := kb_169_5.drop 16) (loc' := [.inr (12, 0, 0, 72), .inl (.int x1), .inl (.int x2), .inl (.int x3), .inl (.int x4)]) (st' := [.inl (.int (6 : Int32)), .inl (.int x4), .inr (20, 366, 0, 477), .inl (.int x3)]) (P1 := P) rfl ⟨trivial, trivial, trivial, trivial, trivial⟩ ?_
        refine tr_cRI (z := km_135) (av := [.inr (20, 366, 0, 477), .inl (.int x4), .inl (.int (6 : Int32))]) (st' := [.inl (.int x3)]) rfl rfl rfl (Nat.le_of_ble_eq_true rfl) trivial rfl (Nat.le_of_ble_eq_true rfl) (t_135_366 477 P x4 (6 : Int32)) (fun v2 => ?_)
        refine tr_blk 3 (pc' := 45) (rows' := kb_169_5.drop 20) (loc' := [.inr (12, 0, 0, 72), .inl (.int x1), .inl (.int x2), .inl (.int x3), .inl (.int x4)]) (st' := [.inl (.int ((1 : Int32) - x2)), .inl (.int v2), .inl (.int x3)]) (P1 := P) rfl ⟨trivial, trivial, trivial, trivial⟩ ?_
        refine tr_if (fun h7 => ?_) (fun h7 => ?_)
        · refine tr_icF (cd := .ne) (fun q => q h7) ?_
          refine tr_blk 4 (pc' := 55) (rows' := kb_169_5.drop 25) (loc' := [.inr (12, 0, 0, 72), .inl (.int x1), .inl (.int x2), .inl (.int x3), .inl (.int x4)]) (st' := [.inl (.int x4), .inr (20, 366, 0, 477), .inr (12, 0, 0, 72), .inl (.int x3)]) (P1 := P) rfl ⟨trivial, trivial, trivial, trivial, trivial⟩ ?_
          refine tr_cWI (z := km_146) (av := [.inr (12, 0, 0, 72), .inr (20, 366, 0, 477), .inl (.int x4)]) (st' := [.inl (.int x3)]) rfl rfl rfl (Nat.le_of_ble_eq_true rfl) ⟨rfl, Or.inl (by decide)⟩ rfl (Nat.le_of_ble_eq_true rfl) (t_146_366 477 N x4 P) (fun v4 P3 => ?_)
          refine tr_blk 1 (pc' := 59) (rows' := kb_169_5.drop 27) (loc' := [.inr (12, 0, 0, 72), .inl (.int x1), .inl (.int x2), .inl (.int x3), .inl (.int x4)]) (st' := [.inl (.int x1), .inl (.int v4), .inl (.int x3)]) (P1 := P3) rfl ⟨trivial, trivial⟩ ?_
          refine tr_if (fun h8 => ?_) (fun h8 => ?_)
          · refine tr_icT (cd := .lt) h8 ?_
            refine tr_nil (rows2 := kb_169_66) rfl (List.cons_ne_nil _ _) ?_
            refine tr_blk 1 (pc' := 67) (rows' := kb_169_66.drop 1) (loc' := [.inr (12, 0, 0, 72), .inl (.int x1), .inl (.int x2), .inl (.int x3), .inl (.int x4)]) (st' := [.inl (.int (0 : Int32)), .inl (.int x3)]) (P1 := P3) rfl ⟨trivial, trivial⟩ ?_
            refine tr_nil (rows2 := kb_169_67) rfl (List.cons_ne_nil _ _) ?_
            refine tr_blk 2 (pc' := 69) (rows' := kb_169_67.drop 2) (loc' := [.inr (12, 0, 0, 72), .inl (.int x1), .inl (.int x2), .inl (.int x3), .inl (.int x4)]) (st' := [.inl (.int (1 : Int32)), .inl (.int x2), .inl (.int (0 : Int32)), .inl (.int x3)]) (P1 := P3) rfl ⟨trivial, trivial, trivial⟩ ?_
            refine tr_if (fun h9 => ?_) (fun h9 => ?_)
            · refine tr_icF (cd := .ne) (fun q => q h9) ?_
              refine tr_blk 1 (pc' := 73) (rows' := kb_169_67.drop 4) (loc' := [.inr (12, 0, 0, 72), .inl (.int x1), .inl (.int x2), .inl (.int x3), .inl (.int x4)]) (st' := [.inl (.int (1 : Int32)), .inl (.int (0 : Int32)), .inl (.int x3)]) (P1 := P3) rfl ⟨trivial, trivial⟩ ?_
              refine tr_goto ?_
              refine tr_nil (rows2 := kb_169_77) rfl (List.cons_ne_nil _ _) ?_
              refine tr_icT (cd := .ne) (ab_cdT (by decide)) ?_
              refine tr_nil (rows2 := kb_169_84) rfl (List.cons_ne_nil _ _) ?_
              refine tr_blk 1 (pc' := 85) (rows' := kb_169_84.drop 1) (loc' := [.inr (12, 0, 0, 72), .inl (.int x1), .inl (.int x2), .inl (.int x3), .inl (.int x4)]) (st' := [.inl (.int (0 : Int32)), .inl (.int x3)]) (P1 := P3) rfl ⟨trivial, trivial⟩ ?_
              refine tr_nil (rows2 := kb_169_85) rfl (List.cons_ne_nil _ _) ?_
              refine tr_blk 3 (pc' := 90) (rows' := kb_169_85.drop 3) (loc' := [.inr (12, 0, 0, 72), .inl (.int x1), .inl (.int x2), .inl (.int (x3 + (0 : Int32))), .inl (.int (x4 + 1))]) (st' := []) (P1 := P3) rfl ⟨trivial, trivial, trivial, trivial⟩ ?_
              refine tr_goto ?_
              exact ih x1 x2 (x3 + (0 : Int32)) (x4 + 1) P3
            · refine tr_icT (cd := .ne) h9 ?_
              refine tr_nil (rows2 := kb_169_76) rfl (List.cons_ne_nil _ _) ?_
              refine tr_blk 1 (pc' := 77) (rows' := kb_169_76.drop 1) (loc' := [.inr (12, 0, 0, 72), .inl (.int x1), .inl (.int x2), .inl (.int x3), .inl (.int x4)]) (st' := [.inl (.int (0 : Int32)), .inl (.int (0 : Int32)), .inl (.int x3)]) (P1 := P3) rfl ⟨trivial, trivial⟩ ?_
              refine tr_nil (rows2 := kb_169_77) rfl (List.cons_ne_nil _ _) ?_
              refine tr_icF (cd := .ne) (ab_cdF (by decide)) ?_
              refine tr_blk 1 (pc' := 81) (rows' := kb_169_77.drop 2) (loc' := [.inr (12, 0, 0, 72), .inl (.int x1), .inl (.int x2), .inl (.int x3), .inl (.int x4)]) (st' := [.inl (.int (1 : Int32)), .inl (.int x3)]) (P1 := P3) rfl ⟨trivial, trivial⟩ ?_
              refine tr_goto ?_
              refine tr_nil (rows2 := kb_169_85) rfl (List.cons_ne_nil _ _) ?_
              refine tr_blk 3 (pc' := 90) (rows' := kb_169_85.drop 3) (loc' := [.inr (12, 0, 0, 72), .inl (.int x1), .inl (.int x2), .inl (.int (x3 + (1 : Int32))), .inl (.int (x4 + 1))]) (st' := []) (P1 := P3) rfl ⟨trivial, trivial, trivial, trivial⟩ ?_
              refine tr_goto ?_
              exact ih x1 x2 (x3 + (1 : Int32)) (x4 + 1) P3
          · refine tr_icF (cd := .lt) h8 ?_
            refine tr_blk 1 (pc' := 63) (rows' := kb_169_5.drop 29) (loc' := [.inr (12, 0, 0, 72), .inl (.int x1), .inl (.int x2), .inl (.int x3), .inl (.int x4)]) (st' := [.inl (.int (1 : Int32)), .inl (.int x3)]) (P1 := P3) rfl ⟨trivial, trivial⟩ ?_
            refine tr_goto ?_
            refine tr_nil (rows2 := kb_169_67) rfl (List.cons_ne_nil _ _) ?_
            refine tr_blk 2 (pc' := 69) (rows' := kb_169_67.drop 2) (loc' := [.inr (12, 0, 0, 72), .inl (.int x1), .inl (.int x2), .inl (.int x3), .inl (.int x4)]) (st' := [.inl (.int (1 : Int32)), .inl (.int x2), .inl (.int (1 : Int32)), .inl (.int x3)]) (P1 := P3) rfl ⟨trivial, trivial, trivial⟩ ?_
            refine tr_if (fun h10 => ?_) (fun h10 => ?_)
            · refine tr_icF (cd := .ne) (fun q => q h10) ?_
              refine tr_blk 1 (pc' := 73) (rows' := kb_169_67.drop 4) (loc' := [.inr (12, 0, 0, 72), .inl (.int x1), .inl (.int x2), .inl (.int x3), .inl (.int x4)]) (st' := [.inl (.int (1 : Int32)), .inl (.int (1 : Int32)), .inl (.int x3)]) (P1 := P3) rfl ⟨trivial, trivial⟩ ?_
              refine tr_goto ?_
              refine tr_nil (rows2 := kb_169_77) rfl (List.cons_ne_nil _ _) ?_
              refine tr_icF (cd := .ne) (ab_cdF (by decide)) ?_
              refine tr_blk 1 (pc' := 81) (rows' := kb_169_77.drop 2) (loc' := [.inr (12, 0, 0, 72), .inl (.int x1), .inl (.int x2), .inl (.int x3), .inl (.int x4)]) (st' := [.inl (.int (1 : Int32)), .inl (.int x3)]) (P1 := P3) rfl ⟨trivial, trivial⟩ ?_
              refine tr_goto ?_
              refine tr_nil (rows2 := kb_169_85) rfl (List.cons_ne_nil _ _) ?_
              refine tr_blk 3 (pc' := 90) (rows' := kb_169_85.drop 3) (loc' := [.inr (12, 0, 0, 72), .inl (.int x1), .inl (.int x2), .inl (.int (x3 + (1 : Int32))), .inl (.int (x4 + 1))]) (st' := []) (P1 := P3) rfl ⟨trivial, trivial, trivial, trivial⟩ ?_
              refine tr_goto ?_
              exact ih x1 x2 (x3 + (1 : Int32)) (x4 + 1) P3
            · refine tr_icT (cd := .ne) h10 ?_
              refine tr_nil (rows2 := kb_169_76) rfl (List.cons_ne_nil _ _) ?_
              refine tr_blk 1 (pc' := 77) (rows' := kb_169_76.drop 1) (loc' := [.inr (12, 0, 0, 72), .inl (.int x1), .inl (.int x2), .inl (.int x3), .inl (.int x4)]) (st' := [.inl (.int (0 : Int32)), .inl (.int (1 : Int32)), .inl (.int x3)]) (P1 := P3) rfl ⟨trivial, trivial⟩ ?_
              refine tr_nil (rows2 := kb_169_77) rfl (List.cons_ne_nil _ _) ?_
              refine tr_icT (cd := .ne) (ab_cdT (by decide)) ?_
              refine tr_nil (rows2 := kb_169_84) rfl (List.cons_ne_nil _ _) ?_
              refine tr_blk 1 (pc' := 85) (rows' := kb_169_84.drop 1) (loc' := [.inr (12, 0, 0, 72), .inl (.int x1), .inl (.int x2), .inl (.int x3), .inl (.int x4)]) (st' := [.inl (.int (0 : Int32)), .inl (.int x3)]) (P1 := P3) rfl ⟨trivial, trivial⟩ ?_
              refine tr_nil (rows2 := kb_169_85) rfl (List.cons_ne_nil _ _) ?_
              refine tr_blk 3 (pc' := 90) (rows' := kb_169_85.drop 3) (loc' := [.inr (12, 0, 0, 72), .inl (.int x1), .inl (.int x2), .inl (.int (x3 + (0 : Int32))), .inl (.int (x4 + 1))]) (st' := []) (P1 := P3) rfl ⟨trivial, trivial, trivial, trivial⟩ ?_
              refine tr_goto ?_
              exact ih x1 x2 (x3 + (0 : Int32)) (x4 + 1) P3
        · refine tr_icT (cd := .ne) h7 ?_
          refine tr_nil (rows2 := kb_169_84) rfl (List.cons_ne_nil _ _) ?_
          refine tr_blk 1 (pc' := 85) (rows' := kb_169_84.drop 1) (loc' := [.inr (12, 0, 0, 72), .inl (.int x1), .inl (.int x2), .inl (.int x3), .inl (.int x4)]) (st' := [.inl (.int (0 : Int32)), .inl (.int x3)]) (P1 := P) rfl ⟨trivial, trivial⟩ ?_
          refine tr_nil (rows2 := kb_169_85) rfl (List.cons_ne_nil _ _) ?_
          refine tr_blk 3 (pc' := 90) (rows' := kb_169_85.drop 3) (loc' := [.inr (12, 0, 0, 72), .inl (.int x1), .inl (.int x2), .inl (.int (x3 + (0 : Int32))), .inl (.int (x4 + 1))]) (st' := []) (P1 := P) rfl ⟨trivial, trivial, trivial, trivial⟩ ?_
          refine tr_goto ?_
          exact ih x1 x2 (x3 + (0 : Int32)) (x4 + 1) P
    · refine tr_icT (cd := .ge) (Int32.not_lt.mp h5) ?_
      refine tr_nil (rows2 := kb_169_93) rfl (List.cons_ne_nil _ _) ?_
      refine tr_blk 1 (pc' := 94) (rows' := kb_169_93.drop 1) (loc' := [.inr (12, 0, 0, 72), .inl (.int x1), .inl (.int x2), .inl (.int x3), .inl (.int x4)]) (st' := [.inl (.int x3)]) (P1 := P) rfl ⟨trivial, trivial⟩ ?_
      exact tr_reI (z := km_169) rfl ⟨_, rfl, rfl⟩ rfl
def f_169 (N : Nat) (a1 : Int32) (a2 : Int32) (P : ab_P) : Option (Int32 × ab_P) :=
    f_169_5 N N a1 a2 (0 : Int32) (0 : Int32) P
theorem t_169 {xs : Nat × (Nat → Int32)} {d : Nat} (N : Nat) : ∀ (a1 : Int32) (a2 : Int32) (P : ab_P), ab_tr xs wI (d + 6) 169 0 [] [.inr (12, 0, 0, 72), .inl (.int a1), .inl (.int a2), ab_top, ab_top] [] P (f_169 N a1 a2 P) := by
  intro a1 a2 P
  unfold f_169
  refine tr_nil (rows2 := kb_169_0) rfl (List.cons_ne_nil _ _) ?_
  refine tr_blk 4 (pc' := 5) (rows' := kb_169_0.drop 4) (loc' := [.inr (12, 0, 0, 72), .inl (.int a1), .inl (.int a2), .inl (.int (0 : Int32)), .inl (.int (0 : Int32))]) (st' := []) (P1 := P) rfl ⟨trivial, trivial, trivial, trivial, trivial⟩ ?_
  exact t_169_5 N N a1 a2 (0 : Int32) (0 : Int32) P
def f_55_30 (N : Nat) (x1 : Int32) (x2 : Int32) (s0 : Int32) (P : ab_P) : Option (Int32 × ab_P) :=
    ab_b2 (f_113 s0 (1 : Int32) (1 : Int32) P) fun v5 P4 =>
    if v5 = (0 : Int32) then
      ab_b2 (f_169 N x1 x2 P4) fun v7 P6 =>
      some (v7, P6)
    else
    some ((0 : Int32), P4)
theorem t_55_30 {xs : Nat × (Nat → Int32)} {d : Nat} (N : Nat) : ∀ (x1 : Int32) (x2 : Int32) (s0 : Int32) (P : ab_P), ab_tr xs wI (d + 7) 55 30 [] [.inr (12, 0, 0, 72), .inl (.int x1), .inl (.int x2)] [.inl (.int s0), .inr (12, 0, 0, 72)] P (f_55_30 N x1 x2 s0 P) := by
  intro x1 x2 s0 P
  unfold f_55_30
  refine tr_nil (rows2 := kb_55_30) rfl (List.cons_ne_nil _ _) ?_
  refine tr_blk 2 (pc' := 32) (rows' := kb_55_30.drop 2) (loc' := [.inr (12, 0, 0, 72), .inl (.int x1), .inl (.int x2)]) (st' := [.inl (.int (1 : Int32)), .inl (.int (1 : Int32)), .inl (.int s0), .inr (12, 0, 0, 72)]) (P1 := P) rfl ⟨trivial, trivial, trivial⟩ ?_
  refine tr_cWI (z := km_113) (av := [.inr (12, 0, 0, 72), .inl (.int s0), .inl (.int (1 : Int32)), .inl (.int (1 : Int32))]) (st' := []) rfl rfl rfl (Nat.le_of_ble_eq_true rfl) ⟨rfl, Or.inl (by decide)⟩ rfl (Nat.le_of_ble_eq_true rfl) (t_113 s0 (1 : Int32) (1 : Int32) P) (fun v5 P4 => ?_)
  refine tr_if (fun h8 => ?_) (fun h8 => ?_)
  · refine tr_ifT (cd := .eq) h8 ?_
    refine tr_nil (rows2 := kb_55_40) rfl (List.cons_ne_nil _ _) ?_
    refine tr_blk 3 (pc' := 43) (rows' := kb_55_40.drop 3) (loc' := [.inr (12, 0, 0, 72), .inl (.int x1), .inl (.int x2)]) (st' := [.inl (.int x2), .inl (.int x1), .inr (12, 0, 0, 72)]) (P1 := P4) rfl ⟨trivial, trivial, trivial, trivial⟩ ?_
    refine tr_cWI (z := km_169) (av := [.inr (12, 0, 0, 72), .inl (.int x1), .inl (.int x2)]) (st' := []) rfl rfl rfl (Nat.le_of_ble_eq_true rfl) ⟨rfl, Or.inl (by decide)⟩ rfl (Nat.le_of_ble_eq_true rfl) (t_169 N x1 x2 P4) (fun v7 P6 => ?_)
    exact tr_reI (z := km_55) rfl ⟨_, rfl, rfl⟩ rfl
  · refine tr_ifF (cd := .eq) h8 ?_
    refine tr_blk 1 (pc' := 39) (rows' := kb_55_30.drop 5) (loc' := [.inr (12, 0, 0, 72), .inl (.int x1), .inl (.int x2)]) (st' := [.inl (.int (0 : Int32))]) (P1 := P4) rfl ⟨trivial, trivial⟩ ?_
    exact tr_reI (z := km_55) rfl ⟨_, rfl, rfl⟩ rfl
def f_55 (N : Nat) (a1 : Int32) (a2 : Int32) (P : ab_P) : Option (Int32 × ab_P) :=
    ab_lt (ab_pI P 72 0 (0 : Int32)) fun P1 =>
    Option.bind (f_112 P1 a1 (0 : Int32) (100 : Int32)) fun v2 =>
    if v2 = (0 : Int32) then
      f_55_30 N a1 a2 (1 : Int32) P1
    else
    Option.bind (f_112 P1 a2 (0 : Int32) (1 : Int32)) fun v3 =>
    if v3 = (0 : Int32) then
      f_55_30 N a1 a2 (1 : Int32) P1
    else
    f_55_30 N a1 a2 (0 : Int32) P1
theorem t_55 {xs : Nat × (Nat → Int32)} {d : Nat} (N : Nat) : ∀ (a1 : Int32) (a2 : Int32) (P : ab_P), ab_tr xs wI (d + 7) 55 0 [] [.inr (12, 0, 0, 72), .inl (.int a1), .inl (.int a2)] [] P (f_55 N a1 a2 P) := by
  intro a1 a2 P
  unfold f_55
  refine tr_nil (rows2 := kb_55_0) rfl (List.cons_ne_nil _ _) ?_
  refine tr_blk 3 (pc' := 5) (rows' := kb_55_0.drop 3) (loc' := [.inr (12, 0, 0, 72), .inl (.int a1), .inl (.int a2)]) (st' := []) (P1 := (ab_pI P 72 0 (0 : Int32))) rfl ⟨trivial, trivial, trivial, trivial⟩ ?_
  refine tr_lt (fun P1 => ?_)
  refine tr_blk 4 (pc' := 10) (rows' := kb_55_0.drop 7) (loc' := [.inr (12, 0, 0, 72), .inl (.int a1), .inl (.int a2)]) (st' := [.inl (.int (100 : Int32)), .inl (.int (0 : Int32)), .inl (.int a1), .inr (12, 0, 0, 72)]) (P1 := P1) rfl ⟨trivial, trivial, trivial, trivial, trivial⟩ ?_
  refine tr_cRI (z := km_112) (av := [.inl (.int a1), .inl (.int (0 : Int32)), .inl (.int (100 : Int32))]) (st' := [.inr (12, 0, 0, 72)]) rfl rfl rfl (Nat.le_of_ble_eq_true rfl) trivial rfl (Nat.le_of_ble_eq_true rfl) (t_112 P1 a1 (0 : Int32) (100 : Int32)) (fun v2 => ?_)
  refine tr_if (fun h9 => ?_) (fun h9 => ?_)
  · refine tr_ifT (cd := .eq) h9 ?_
    refine tr_nil (rows2 := kb_55_25) rfl (List.cons_ne_nil _ _) ?_
    refine tr_blk 1 (pc' := 26) (rows' := kb_55_25.drop 1) (loc' := [.inr (12, 0, 0, 72), .inl (.int a1), .inl (.int a2)]) (st' := [.inl (.int (1 : Int32)), .inr (12, 0, 0, 72)]) (P1 := P1) rfl ⟨trivial, trivial⟩ ?_
    refine tr_goto ?_
    exact t_55_30 N a1 a2 (1 : Int32) P1
  · refine tr_ifF (cd := .eq) h9 ?_
    refine tr_blk 3 (pc' := 19) (rows' := kb_55_0.drop 12) (loc' := [.inr (12, 0, 0, 72), .inl (.int a1), .inl (.int a2)]) (st' := [.inl (.int (1 : Int32)), .inl (.int (0 : Int32)), .inl (.int a2), .inr (12, 0, 0, 72)]) (P1 := P1) rfl ⟨trivial, trivial, trivial, trivial⟩ ?_
    refine tr_cRI (z := km_112) (av := [.inl (.int a2), .inl (.int (0 : Int32)), .inl (.int (1 : Int32))]) (st' := [.inr (12, 0, 0, 72)]) rfl rfl rfl (Nat.le_of_ble_eq_true rfl) trivial rfl (Nat.le_of_ble_eq_true rfl) (t_112 P1 a2 (0 : Int32) (1 : Int32)) (fun v3 => ?_)
    refine tr_if (fun h10 => ?_) (fun h10 => ?_)
    · refine tr_ifF (cd := .ne) (fun q => q h10) ?_
      refine tr_nil (rows2 := kb_55_25) rfl (List.cons_ne_nil _ _) ?_
      refine tr_blk 1 (pc' := 26) (rows' := kb_55_25.drop 1) (loc' := [.inr (12, 0, 0, 72), .inl (.int a1), .inl (.int a2)]) (st' := [.inl (.int (1 : Int32)), .inr (12, 0, 0, 72)]) (P1 := P1) rfl ⟨trivial, trivial⟩ ?_
      refine tr_goto ?_
      exact t_55_30 N a1 a2 (1 : Int32) P1
    · refine tr_ifT (cd := .ne) h10 ?_
      refine tr_nil (rows2 := kb_55_29) rfl (List.cons_ne_nil _ _) ?_
      refine tr_blk 1 (pc' := 30) (rows' := kb_55_29.drop 1) (loc' := [.inr (12, 0, 0, 72), .inl (.int a1), .inl (.int a2)]) (st' := [.inl (.int (0 : Int32)), .inr (12, 0, 0, 72)]) (P1 := P1) rfl ⟨trivial, trivial⟩ ?_
      exact t_55_30 N a1 a2 (0 : Int32) P1
def f_170_11 (N : Nat) : Nat → Int32 → Int32 → Int32 → ab_P → Option (Int32 × ab_P)
  | 0, _, _, _, _ => none
  | n + 1, x1, x2, x3, P =>
    if (100 : Int32) < x3 then
      some (x1, P)
    else
    Option.bind (f_262 N P x3 (1 : Int32)) fun v2 =>
    Option.bind (f_262 N P x3 (0 : Int32)) fun v3 =>
    if (v2 + v3) < x2 then
      f_170_11 N n x3 (v2 + v3) (x3 + 1) P
    else
    f_170_11 N n x1 x2 (x3 + 1) P
theorem t_170_11 {xs : Nat × (Nat → Int32)} {d : Nat} (N : Nat) : ∀ n : Nat, ∀ (x1 : Int32) (x2 : Int32) (x3 : Int32) (d4 : ab_V) (P : ab_P), ab_tr xs wI (d + 5) 170 11 [] [.inr (4, 0, 0, 46), .inl (.int x1), .inl (.int x2), .inl (.int x3), d4] [] P (f_170_11 N n x1 x2 x3 P) := by
  intro n
  induction n with
  | zero => intro x1 x2 x3 d4 P; exact tr_no
  | succ n ih =>
    intro x1 x2 x3 d4 P
    refine tr_nil (rows2 := kb_170_11) rfl (List.cons_ne_nil _ _) ?_
    refine tr_blk 2 (pc' := 14) (rows' := kb_170_11.drop 2) (loc' := [.inr (4, 0, 0, 46), .inl (.int x1), .inl (.int x2), .inl (.int x3), d4]) (st' := [.inl (.int (100 : Int32)), .inl (.int x3)]) (P1 := P) rfl ⟨trivial, trivial, trivial⟩ ?_
    refine tr_if (fun h4 => ?_) (fun h4 => ?_)
    · refine tr_icT (cd := .gt) h4 ?_
      refine tr_nil (rows2 := kb_170_49) rfl (List.cons_ne_nil _ _) ?_
      refine tr_blk 1 (pc' := 50) (rows' := kb_170_49.drop 1) (loc' := [.inr (4, 0, 0, 46), .inl (.int x1), .inl (.int x2), .inl (.int x3), d4]) (st' := [.inl (.int x1)]) (P1 := P) rfl ⟨trivial, trivial⟩ ?_
      exact tr_reI (z := km_170) rfl ⟨_, rfl, rfl⟩ rfl
    · refine tr_icF (cd := .gt) h4 ?_
      refine tr_blk 3 (pc' := 20) (rows' := kb_170_11.drop 6) (loc' := [.inr (4, 0, 0, 46), .inl (.int x1), .inl (.int x2), .inl (.int x3), d4]) (st' := [.inl (.int (1 : Int32)), .inl (.int x3), .inr (4, 0, 0, 46)]) (P1 := P) rfl ⟨trivial, trivial, trivial, trivial⟩ ?_
      refine tr_cRI (z := km_262) (av := [.inr (4, 0, 0, 46), .inl (.int x3), .inl (.int (1 : Int32))]) (st' := []) rfl rfl rfl (Nat.le_of_ble_eq_true rfl) ⟨rfl, Or.inl (by decide)⟩ rfl (Nat.le_of_ble_eq_true rfl) (t_262 N P x3 (1 : Int32)) (fun v2 => ?_)
      refine tr_blk 3 (pc' := 26) (rows' := kb_170_11.drop 10) (loc' := [.inr (4, 0, 0, 46), .inl (.int x1), .inl (.int x2), .inl (.int x3), d4]) (st' := [.inl (.int (0 : Int32)), .inl (.int x3), .inr (4, 0, 0, 46), .inl (.int v2)]) (P1 := P) rfl ⟨trivial, trivial, trivial, trivial⟩ ?_
      refine tr_cRI (z := km_262) (av := [.inr (4, 0, 0, 46), .inl (.int x3), .inl (.int (0 : Int32))]) (st' := [.inl (.int v2)]) rfl rfl rfl (Nat.le_of_ble_eq_true rfl) ⟨rfl, Or.inl (by decide)⟩ rfl (Nat.le_of_ble_eq_true rfl) (t_262 N P x3 (0 : Int32)) (fun v3 => ?_)
      refine tr_blk 4 (pc' := 35) (rows' := kb_170_11.drop 15) (loc' := [.inr (4, 0, 0, 46), .inl (.int x1), .inl (.int x2), .inl (.int x3), .inl (.int (v2 + v3))]) (st' := [.inl (.int x2), .inl (.int (v2 + v3))]) (P1 := P) rfl ⟨trivial, trivial, trivial, trivial, trivial⟩ ?_
      refine tr_if (fun h5 => ?_) (fun h5 => ?_)
      · refine tr_icF (cd := .ge) (Int32.not_le.mpr h5) ?_
        refine tr_blk 4 (pc' := 43) (rows' := kb_170_11.drop 20) (loc' := [.inr (4, 0, 0, 46), .inl (.int x3), .inl (.int (v2 + v3)), .inl (.int x3), .inl (.int (v2 + v3))]) (st' := []) (P1 := P) rfl ⟨trivial, trivial, trivial, trivial, trivial⟩ ?_
        refine tr_nil (rows2 := kb_170_43) rfl (List.cons_ne_nil _ _) ?_
        refine tr_blk 1 (pc' := 46) (rows' := kb_170_43.drop 1) (loc' := [.inr (4, 0, 0, 46), .inl (.int x3), .inl (.int (v2 + v3)), .inl (.int (x3 + 1)), .inl (.int (v2 + v3))]) (st' := []) (P1 := P) rfl ⟨trivial, trivial⟩ ?_
        refine tr_goto ?_
        exact ih x3 (v2 + v3) (x3 + 1) (.inl (.int (v2 + v3))) P
      · refine tr_icT (cd := .ge) (Int32.not_lt.mp h5) ?_
        refine tr_nil (rows2 := kb_170_43) rfl (List.cons_ne_nil _ _) ?_
        refine tr_blk 1 (pc' := 46) (rows' := kb_170_43.drop 1) (loc' := [.inr (4, 0, 0, 46), .inl (.int x1), .inl (.int x2), .inl (.int (x3 + 1)), .inl (.int (v2 + v3))]) (st' := []) (P1 := P) rfl ⟨trivial, trivial⟩ ?_
        refine tr_goto ?_
        exact ih x1 x2 (x3 + 1) (.inl (.int (v2 + v3))) P
def f_170 (N : Nat) (P : ab_P) : Option (Int32 × ab_P) :=
    Option.bind (f_261 N P) fun P1 =>
    f_170_11 N N (0 : Int32) (41 : Int32) (0 : Int32) P1
theorem t_170 {xs : Nat × (Nat → Int32)} {d : Nat} (N : Nat) : ∀ (P : ab_P), ab_tr xs wI (d + 5) 170 0 [] [.inr (4, 0, 0, 46), ab_top, ab_top, ab_top, ab_top] [] P (f_170 N P) := by
  intro P
  unfold f_170
  refine tr_nil (rows2 := kb_170_0) rfl (List.cons_ne_nil _ _) ?_
  refine tr_blk 1 (pc' := 1) (rows' := kb_170_0.drop 1) (loc' := [.inr (4, 0, 0, 46), ab_top, ab_top, ab_top, ab_top]) (st' := [.inr (4, 0, 0, 46)]) (P1 := P) rfl ⟨trivial, trivial⟩ ?_
  refine tr_cWV (z := km_261) (av := [.inr (4, 0, 0, 46)]) (st' := []) rfl rfl rfl (Nat.le_of_ble_eq_true rfl) ⟨rfl, Or.inl (by decide)⟩ rfl (Nat.le_of_ble_eq_true rfl) (t_261 N P) (fun P1 => ?_)
  refine tr_blk 6 (pc' := 11) (rows' := kb_170_0.drop 8) (loc' := [.inr (4, 0, 0, 46), .inl (.int (0 : Int32)), .inl (.int (41 : Int32)), .inl (.int (0 : Int32)), ab_top]) (st' := []) (P1 := P1) rfl ⟨trivial, trivial, trivial, trivial, trivial, trivial, trivial⟩ ?_
  exact t_170_11 N N (0 : Int32) (41 : Int32) (0 : Int32) (ab_top) P1
def f_56 (N : Nat) (P : ab_P) : Option (Int32 × ab_P) :=
    ab_b2 (f_170 N P) fun v2 P1 =>
    some (v2, P1)
theorem t_56 {xs : Nat × (Nat → Int32)} {d : Nat} (N : Nat) : ∀ (P : ab_P), ab_tr xs wI (d + 6) 56 0 [] [.inr (11, 0, 0, 0)] [] P (f_56 N P) := by
  intro P
  unfold f_56
  refine tr_nil (rows2 := kb_56_0) rfl (List.cons_ne_nil _ _) ?_
  refine tr_blk 2 (pc' := 4) (rows' := kb_56_0.drop 2) (loc' := [.inr (11, 0, 0, 0)]) (st' := [.inr (4, 0, 0, 46)]) (P1 := P) rfl ⟨trivial, trivial, trivial⟩ ?_
  refine tr_cWI (z := km_170) (av := [.inr (4, 0, 0, 46)]) (st' := []) rfl rfl rfl (Nat.le_of_ble_eq_true rfl) ⟨rfl, Or.inl (by decide)⟩ rfl (Nat.le_of_ble_eq_true rfl) (t_170 N P) (fun v2 P1 => ?_)
  exact tr_reI (z := km_56) rfl ⟨_, rfl, rfl⟩ rfl
def f_57_12 (N : Nat) : Nat → Int32 → Int32 → Int32 → ab_P → Option (Int32 × ab_P)
  | 0, _, _, _, _ => none
  | n + 1, x1, x2, x3, P =>
    if (100 : Int32) < x3 then
      some (x1, P)
    else
    ab_b2 (f_169 N x3 (0 : Int32) P) fun v3 P2 =>
    ab_b2 (f_169 N x3 (1 : Int32) P2) fun v5 P4 =>
    if (v3 + v5) < x2 then
      f_57_12 N n x3 (v3 + v5) (x3 + 1) P4
    else
    f_57_12 N n x1 x2 (x3 + 1) P4
theorem t_57_12 {xs : Nat × (Nat → Int32)} {d : Nat} (N : Nat) : ∀ n : Nat, ∀ (x1 : Int32) (x2 : Int32) (x3 : Int32) (d4 : ab_V) (P : ab_P), ab_tr xs wI (d + 7) 57 12 [] [.inr (12, 0, 0, 72), .inl (.int x1), .inl (.int x2), .inl (.int x3), d4] [] P (f_57_12 N n x1 x2 x3 P) := by
  intro n
  induction n with
  | zero => intro x1 x2 x3 d4 P; exact tr_no
  | succ n ih =>
    intro x1 x2 x3 d4 P
    refine tr_nil (rows2 := kb_57_12) rfl (List.cons_ne_nil _ _) ?_
    refine tr_blk 2 (pc' := 15) (rows' := kb_57_12.drop 2) (loc' := [.inr (12, 0, 0, 72), .inl (.int x1), .inl (.int x2), .inl (.int x3), d4]) (st' := [.inl (.int (100 : Int32)), .inl (.int x3)]) (P1 := P) rfl ⟨trivial, trivial, trivial⟩ ?_
    refine tr_if (fun h6 => ?_) (fun h6 => ?_)
    · refine tr_icT (cd := .gt) h6 ?_
      refine tr_nil (rows2 := kb_57_53) rfl (List.cons_ne_nil _ _) ?_
      refine tr_blk 1 (pc' := 54) (rows' := kb_57_53.drop 1) (loc' := [.inr (12, 0, 0, 72), .inl (.int x1), .inl (.int x2), .inl (.int x3), d4]) (st' := [.inl (.int x1)]) (P1 := P) rfl ⟨trivial, trivial⟩ ?_
      exact tr_reI (z := km_57) rfl ⟨_, rfl, rfl⟩ rfl
    · refine tr_icF (cd := .gt) h6 ?_
      refine tr_blk 3 (pc' := 21) (rows' := kb_57_12.drop 6) (loc' := [.inr (12, 0, 0, 72), .inl (.int x1), .inl (.int x2), .inl (.int x3), d4]) (st' := [.inl (.int (0 : Int32)), .inl (.int x3), .inr (12, 0, 0, 72)]) (P1 := P) rfl ⟨trivial, trivial, trivial, trivial⟩ ?_
      refine tr_cWI (z := km_169) (av := [.inr (12, 0, 0, 72), .inl (.int x3), .inl (.int (0 : Int32))]) (st' := []) rfl rfl rfl (Nat.le_of_ble_eq_true rfl) ⟨rfl, Or.inl (by decide)⟩ rfl (Nat.le_of_ble_eq_true rfl) (t_169 N x3 (0 : Int32) P) (fun v3 P2 => ?_)
      refine tr_blk 3 (pc' := 27) (rows' := kb_57_12.drop 10) (loc' := [.inr (12, 0, 0, 72), .inl (.int x1), .inl (.int x2), .inl (.int x3), d4]) (st' := [.inl (.int (1 : Int32)), .inl (.int x3), .inr (12, 0, 0, 72), .inl (.int v3)]) (P1 := P2) rfl ⟨trivial, trivial, trivial, trivial⟩ ?_
      refine tr_cWI (z := km_169) (av := [.inr (12, 0, 0, 72), .inl (.int x3), .inl (.int (1 : Int32))]) (st' := [.inl (.int v3)]) rfl rfl rfl (Nat.le_of_ble_eq_true rfl) ⟨rfl, Or.inl (by decide)⟩ rfl (Nat.le_of_ble_eq_true rfl) (t_169 N x3 (1 : Int32) P2) (fun v5 P4 => ?_)
      refine tr_blk 4 (pc' := 36) (rows' := kb_57_12.drop 15) (loc' := [.inr (12, 0, 0, 72), .inl (.int x1), .inl (.int x2), .inl (.int x3), .inl (.int (v3 + v5))]) (st' := [.inl (.int x2), .inl (.int (v3 + v5))]) (P1 := P4) rfl ⟨trivial, trivial, trivial, trivial, trivial⟩ ?_
      refine tr_if (fun h7 => ?_) (fun h7 => ?_)
      · refine tr_icT (cd := .lt) h7 ?_
        refine tr_nil (rows2 := kb_57_42) rfl (List.cons_ne_nil _ _) ?_
        refine tr_blk 4 (pc' := 47) (rows' := kb_57_42.drop 4) (loc' := [.inr (12, 0, 0, 72), .inl (.int x3), .inl (.int (v3 + v5)), .inl (.int x3), .inl (.int (v3 + v5))]) (st' := []) (P1 := P4) rfl ⟨trivial, trivial, trivial, trivial, trivial⟩ ?_
        refine tr_nil (rows2 := kb_57_47) rfl (List.cons_ne_nil _ _) ?_
        refine tr_blk 1 (pc' := 50) (rows' := kb_57_47.drop 1) (loc' := [.inr (12, 0, 0, 72), .inl (.int x3), .inl (.int (v3 + v5)), .inl (.int (x3 + 1)), .inl (.int (v3 + v5))]) (st' := []) (P1 := P4) rfl ⟨trivial, trivial⟩ ?_
        refine tr_goto ?_
        exact ih x3 (v3 + v5) (x3 + 1) (.inl (.int (v3 + v5))) P4
      · refine tr_icF (cd := .lt) h7 ?_
        refine tr_goto ?_
        refine tr_nil (rows2 := kb_57_47) rfl (List.cons_ne_nil _ _) ?_
        refine tr_blk 1 (pc' := 50) (rows' := kb_57_47.drop 1) (loc' := [.inr (12, 0, 0, 72), .inl (.int x1), .inl (.int x2), .inl (.int (x3 + 1)), .inl (.int (v3 + v5))]) (st' := []) (P1 := P4) rfl ⟨trivial, trivial⟩ ?_
        refine tr_goto ?_
        exact ih x1 x2 (x3 + 1) (.inl (.int (v3 + v5))) P4
def f_57 (N : Nat) (P : ab_P) : Option (Int32 × ab_P) :=
    ab_lt (ab_pI P 72 0 (0 : Int32)) fun P1 =>
    f_57_12 N N (0 : Int32) (41 : Int32) (0 : Int32) P1
theorem t_57 {xs : Nat × (Nat → Int32)} {d : Nat} (N : Nat) : ∀ (P : ab_P), ab_tr xs wI (d + 7) 57 0 [] [.inr (12, 0, 0, 72), ab_top, ab_top, ab_top, ab_top] [] P (f_57 N P) := by
  intro P
  unfold f_57
  refine tr_nil (rows2 := kb_57_0) rfl (List.cons_ne_nil _ _) ?_
  refine tr_blk 3 (pc' := 5) (rows' := kb_57_0.drop 3) (loc' := [.inr (12, 0, 0, 72), ab_top, ab_top, ab_top, ab_top]) (st' := []) (P1 := (ab_pI P 72 0 (0 : Int32))) rfl ⟨trivial, trivial, trivial, trivial⟩ ?_
  refine tr_lt (fun P1 => ?_)
  refine tr_blk 6 (pc' := 12) (rows' := kb_57_0.drop 9) (loc' := [.inr (12, 0, 0, 72), .inl (.int (0 : Int32)), .inl (.int (41 : Int32)), .inl (.int (0 : Int32)), ab_top]) (st' := []) (P1 := P1) rfl ⟨trivial, trivial, trivial, trivial, trivial, trivial, trivial⟩ ?_
  exact t_57_12 N N (0 : Int32) (41 : Int32) (0 : Int32) (ab_top) P1
def f_171 (a1 : Int32) (P : ab_P) : Option ((Int32 ⊕ Fin 3) × ab_P) :=
    Option.bind (f_240 P a1 (0 : Int32) (100 : Int32)) fun v1 =>
    ab_x2 (f_228 v1 P) (fun _ P2 =>
    ab_lt (ab_pI P2 46 5 a1) fun P3 =>
    some (.inl (P2.1 46 5), P3)) (fun q => q)
theorem t_171 {xs : Nat × (Nat → Int32)} {d : Nat} : ∀ (a1 : Int32) (P : ab_P), ab_tr xs xI (d + 1) 171 0 [] [.inr (11, 0, 0, 0), .inl (.int a1), ab_top] [] P (f_171 a1 P) := by
  intro a1 P
  unfold f_171
  refine tr_nil (rows2 := kb_171_0) rfl (List.cons_ne_nil _ _) ?_
  refine tr_blk 4 (pc' := 5) (rows' := kb_171_0.drop 4) (loc' := [.inr (11, 0, 0, 0), .inl (.int a1), ab_top]) (st' := [.inl (.int (100 : Int32)), .inl (.int (0 : Int32)), .inl (.int a1), .inr (11, 0, 0, 0)]) (P1 := P) rfl ⟨trivial, trivial, trivial, trivial, trivial⟩ ?_
  refine tr_cRI (z := km_240) (av := [.inl (.int a1), .inl (.int (0 : Int32)), .inl (.int (100 : Int32))]) (st' := [.inr (11, 0, 0, 0)]) rfl rfl rfl (Nat.le_of_ble_eq_true rfl) trivial rfl (Nat.le_of_ble_eq_true rfl) (t_240 P a1 (0 : Int32) (100 : Int32)) (fun v1 => ?_)
  refine tr_cax (fun _ => none) (zi := km_171) (fun _ => rfl) (fun _ _ => rfl) rfl rfl (z := km_228) (av := [.inr (11, 0, 0, 0), .inl (.int v1)]) (st' := []) rfl rfl rfl (Nat.le_of_ble_eq_true rfl) ⟨rfl, Or.inl (by decide)⟩ rfl (Nat.le_of_ble_eq_true rfl) (t_228 v1 P) (fun _ P2 => ?_)
  refine tr_blk 8 (pc' := 27) (rows' := kb_171_0.drop 14) (loc' := [.inr (11, 0, 0, 0), .inl (.int a1), .inl (.int (P2.1 46 5))]) (st' := []) (P1 := (ab_pI P2 46 5 a1)) rfl ⟨trivial, trivial, trivial, trivial, trivial, trivial, trivial, trivial, trivial⟩ ?_
  refine tr_lt (fun P3 => ?_)
  refine tr_blk 1 (pc' := 28) (rows' := kb_171_0.drop 15) (loc' := [.inr (11, 0, 0, 0), .inl (.int a1), .inl (.int (P2.1 46 5))]) (st' := [.inl (.int (P2.1 46 5))]) (P1 := P3) rfl ⟨trivial, trivial⟩ ?_
  exact tr_reI (z := km_171) rfl ⟨_, rfl, rfl⟩ rfl
def f_58_1 (a1 : Int32) (P : ab_P) : Option (Int32 × ab_P) :=
    ab_h2 (f_171 a1 P) (fun v2 P1 =>
    ab_lt (ab_pL P1 570 0 (v2).toInt64) fun P3 =>
    some ((0 : Int32), P3))
    (fun _ => none) (fun P9 => some ((1 : Int32), P9)) (fun _ => none)
theorem t_58_1 {xs : Nat × (Nat → Int32)} {d : Nat} : ∀ (a1 : Int32) (P : ab_P), ab_tr xs wI (d + 2) 58 0 [] [.inr (11, 0, 0, 0), .inl (.int a1), .inr (22, 1, 0, 570), ab_top] [] P (f_58_1 a1 P) := by
  intro a1 P
  unfold f_58_1
  refine tr_nil (rows2 := kb_58_0) rfl (List.cons_ne_nil _ _) ?_
  refine tr_blk 4 (pc' := 4) (rows' := kb_58_0.drop 4) (loc' := [.inr (11, 0, 0, 0), .inl (.int a1), .inr (22, 1, 0, 570), ab_top]) (st' := [.inl (.int a1), .inr (11, 0, 0, 0), .inl (.int (0 : Int32)), .inr (22, 1, 0, 570)]) (P1 := P) rfl ⟨trivial, trivial, trivial, trivial, trivial⟩ ?_
  refine tr_cah (fun b => some (.inl (.int b))) (zi := km_58) (fun _ => rfl) rfl (z := km_171) (av := [.inr (11, 0, 0, 0), .inl (.int a1)]) (st' := [.inl (.int (0 : Int32)), .inr (22, 1, 0, 570)]) rfl rfl rfl (Nat.le_of_ble_eq_true rfl) ⟨rfl, Or.inl (by decide)⟩ rfl (Nat.le_of_ble_eq_true rfl) (t_171 a1 P) (fun v2 P1 => ?_) ?_ ?_ ?_
  · refine tr_blk 2 (pc' := 9) (rows' := kb_58_0.drop 7) (loc' := [.inr (11, 0, 0, 0), .inl (.int a1), .inr (22, 1, 0, 570), ab_top]) (st' := []) (P1 := (ab_pL P1 570 0 (v2).toInt64)) rfl ⟨trivial, (ab_vi (by decide)), trivial⟩ ?_
    refine tr_lt (fun P3 => ?_)
    refine tr_goto ?_
    refine tr_nil (rows2 := kb_58_15) rfl (List.cons_ne_nil _ _) ?_
    refine tr_blk 1 (pc' := 16) (rows' := kb_58_15.drop 1) (loc' := [.inr (11, 0, 0, 0), .inl (.int a1), .inr (22, 1, 0, 570), ab_top]) (st' := [.inl (.int (0 : Int32))]) (P1 := P3) rfl ⟨trivial, trivial⟩ ?_
    exact tr_reI (z := km_58) rfl ⟨_, rfl, rfl⟩ rfl
  · exact fun _ => rfl
  · exact fun _ => tr_han (rows2 := kb_58_12) (z := km_58) _ (fun q => [.inr (11, 0, 0, 0), .inl (.int a1), .inr (22, 1, 0, 570), .inr (40, 1, 0, q)]) rfl (List.cons_ne_nil _ _) (fun q => rfl) ⟨trivial, trivial, trivial⟩ rfl ⟨_, rfl, rfl⟩ rfl
  · exact fun _ => rfl
def f_59_21 (x1 : Int32) (s0 : Int32) (P : ab_P) : Option (Int32 × ab_P) :=
    ab_b2 (f_113 s0 (1 : Int32) (1 : Int32) P) fun v4 P3 =>
    if v4 = (0 : Int32) then
      ab_lt (ab_pI P3 76 3 x1) fun P5 =>
      some ((P3.1 76 3), P5)
    else
    some ((0 : Int32), P3)
theorem t_59_21 {xs : Nat × (Nat → Int32)} {d : Nat} : ∀ (x1 : Int32) (s0 : Int32) (P : ab_P), ab_tr xs wI (d + 1) 59 21 [] [.inr (12, 0, 0, 72), .inl (.int x1), ab_top] [.inl (.int s0), .inr (12, 0, 0, 72)] P (f_59_21 x1 s0 P) := by
  intro x1 s0 P
  unfold f_59_21
  refine tr_nil (rows2 := kb_59_21) rfl (List.cons_ne_nil _ _) ?_
  refine tr_blk 2 (pc' := 23) (rows' := kb_59_21.drop 2) (loc' := [.inr (12, 0, 0, 72), .inl (.int x1), ab_top]) (st' := [.inl (.int (1 : Int32)), .inl (.int (1 : Int32)), .inl (.int s0), .inr (12, 0, 0, 72)]) (P1 := P) rfl ⟨trivial, trivial, trivial⟩ ?_
  refine tr_cWI (z := km_113) (av := [.inr (12, 0, 0, 72), .inl (.int s0), .inl (.int (1 : Int32)), .inl (.int (1 : Int32))]) (st' := []) rfl rfl rfl (Nat.le_of_ble_eq_true rfl) ⟨rfl, Or.inl (by decide)⟩ rfl (Nat.le_of_ble_eq_true rfl) (t_113 s0 (1 : Int32) (1 : Int32) P) (fun v4 P3 => ?_)
  refine tr_if (fun h6 => ?_) (fun h6 => ?_)
  · refine tr_ifT (cd := .eq) h6 ?_
    refine tr_nil (rows2 := kb_59_31) rfl (List.cons_ne_nil _ _) ?_
    refine tr_blk 10 (pc' := 45) (rows' := kb_59_31.drop 10) (loc' := [.inr (12, 0, 0, 72), .inl (.int x1), .inl (.int (P3.1 76 3))]) (st' := []) (P1 := (ab_pI P3 76 3 x1)) rfl ⟨trivial, trivial, trivial, (ab_vi (by decide)), trivial, trivial, trivial, trivial, trivial, (ab_vi (by decide)), trivial⟩ ?_
    refine tr_lt (fun P5 => ?_)
    refine tr_blk 1 (pc' := 46) (rows' := kb_59_31.drop 11) (loc' := [.inr (12, 0, 0, 72), .inl (.int x1), .inl (.int (P3.1 76 3))]) (st' := [.inl (.int (P3.1 76 3))]) (P1 := P5) rfl ⟨trivial, trivial⟩ ?_
    exact tr_reI (z := km_59) rfl ⟨_, rfl, rfl⟩ rfl
  · refine tr_ifF (cd := .eq) h6 ?_
    refine tr_blk 1 (pc' := 30) (rows' := kb_59_21.drop 5) (loc' := [.inr (12, 0, 0, 72), .inl (.int x1), ab_top]) (st' := [.inl (.int (0 : Int32))]) (P1 := P3) rfl ⟨trivial, trivial⟩ ?_
    exact tr_reI (z := km_59) rfl ⟨_, rfl, rfl⟩ rfl
def f_59 (a1 : Int32) (P : ab_P) : Option (Int32 × ab_P) :=
    ab_lt (ab_pI P 72 0 (0 : Int32)) fun P1 =>
    Option.bind (f_112 P1 a1 (0 : Int32) (100 : Int32)) fun v2 =>
    if v2 = (0 : Int32) then
      f_59_21 a1 (1 : Int32) P1
    else
    f_59_21 a1 (0 : Int32) P1
theorem t_59 {xs : Nat × (Nat → Int32)} {d : Nat} : ∀ (a1 : Int32) (P : ab_P), ab_tr xs wI (d + 1) 59 0 [] [.inr (12, 0, 0, 72), .inl (.int a1), ab_top] [] P (f_59 a1 P) := by
  intro a1 P
  unfold f_59
  refine tr_nil (rows2 := kb_59_0) rfl (List.cons_ne_nil _ _) ?_
  refine tr_blk 3 (pc' := 5) (rows' := kb_59_0.drop 3) (loc' := [.inr (12, 0, 0, 72), .inl (.int a1), ab_top]) (st' := []) (P1 := (ab_pI P 72 0 (0 : Int32))) rfl ⟨trivial, trivial, trivial, trivial⟩ ?_
  refine tr_lt (fun P1 => ?_)
  refine tr_blk 4 (pc' := 10) (rows' := kb_59_0.drop 7) (loc' := [.inr (12, 0, 0, 72), .inl (.int a1), ab_top]) (st' := [.inl (.int (100 : Int32)), .inl (.int (0 : Int32)), .inl (.int a1), .inr (12, 0, 0, 72)]) (P1 := P1) rfl ⟨trivial, trivial, trivial, trivial, trivial⟩ ?_
  refine tr_cRI (z := km_112) (av := [.inl (.int a1), .inl (.int (0 : Int32)), .inl (.int (100 : Int32))]) (st' := [.inr (12, 0, 0, 72)]) rfl rfl rfl (Nat.le_of_ble_eq_true rfl) trivial rfl (Nat.le_of_ble_eq_true rfl) (t_112 P1 a1 (0 : Int32) (100 : Int32)) (fun v2 => ?_)
  refine tr_if (fun h7 => ?_) (fun h7 => ?_)
  · refine tr_ifF (cd := .ne) (fun q => q h7) ?_
    refine tr_blk 1 (pc' := 17) (rows' := kb_59_0.drop 10) (loc' := [.inr (12, 0, 0, 72), .inl (.int a1), ab_top]) (st' := [.inl (.int (1 : Int32)), .inr (12, 0, 0, 72)]) (P1 := P1) rfl ⟨trivial, trivial⟩ ?_
    refine tr_goto ?_
    exact t_59_21 a1 (1 : Int32) P1
  · refine tr_ifT (cd := .ne) h7 ?_
    refine tr_nil (rows2 := kb_59_20) rfl (List.cons_ne_nil _ _) ?_
    refine tr_blk 1 (pc' := 21) (rows' := kb_59_20.drop 1) (loc' := [.inr (12, 0, 0, 72), .inl (.int a1), ab_top]) (st' := [.inl (.int (0 : Int32)), .inr (12, 0, 0, 72)]) (P1 := P1) rfl ⟨trivial, trivial⟩ ?_
    exact t_59_21 a1 (0 : Int32) P1
def f_174_5 (i0 : Nat) (N : Nat) (P : ab_P) : Nat → Int32 → Int32 → Int32 → Int32 → Option Int32
  | 0, _, _, _, _ => none
  | n + 1, x1, x2, x3, x4 =>
    if x4 < (P.1 i0 2) then
      Option.bind (f_263 i0 P x4) fun v1 =>
      if v1 = (0 : Int32) then
        f_174_5 i0 N P n x1 x2 (x3 + (0 : Int32)) (x4 + 1)
      else
      Option.bind (f_264 i0 N P x4 x1 x2) fun v2 =>
      f_174_5 i0 N P n x1 x2 (x3 + v2) (x4 + 1)
    else
    some x3
theorem t_174_5 {xs : Nat × (Nat → Int32)} {d : Nat} (i0 : Nat) (N : Nat) (P : ab_P) : ∀ n : Nat, ∀ (x1 : Int32) (x2 : Int32) (x3 : Int32) (x4 : Int32), ab_tr xs (rI P) (d + 2) 174 5 [] [.inr (6, 0, 0, i0), .inl (.int x1), .inl (.int x2), .inl (.int x3), .inl (.int x4)] [] P (f_174_5 i0 N P n x1 x2 x3 x4) := by
  intro n
  induction n with
  | zero => intro x1 x2 x3 x4; exact tr_no
  | succ n ih =>
    intro x1 x2 x3 x4
    refine tr_nil (rows2 := kb_174_5) rfl (List.cons_ne_nil _ _) ?_
    refine tr_blk 3 (pc' := 11) (rows' := kb_174_5.drop 3) (loc' := [.inr (6, 0, 0, i0), .inl (.int x1), .inl (.int x2), .inl (.int x3), .inl (.int x4)]) (st' := [.inl (.int (P.1 i0 2)), .inl (.int x4)]) (P1 := P) rfl ⟨trivial, trivial, trivial, trivial⟩ ?_
    refine tr_if (fun h3 => ?_) (fun h3 => ?_)
    · refine tr_icF (cd := .ge) (Int32.not_le.mpr h3) ?_
      refine tr_blk 3 (pc' := 18) (rows' := kb_174_5.drop 7) (loc' := [.inr (6, 0, 0, i0), .inl (.int x1), .inl (.int x2), .inl (.int x3), .inl (.int x4)]) (st' := [.inl (.int x4), .inr (6, 0, 0, i0), .inl (.int x3)]) (P1 := P) rfl ⟨trivial, trivial, trivial, trivial⟩ ?_
      refine tr_cRI (z := km_263) (av := [.inr (6, 0, 0, i0), .inl (.int x4)]) (st' := [.inl (.int x3)]) rfl rfl rfl (Nat.le_of_ble_eq_true rfl) ⟨rfl, Or.inl (by decide)⟩ rfl (Nat.le_of_ble_eq_true rfl) (t_263 i0 P x4) (fun v1 => ?_)
      refine tr_if (fun h4 => ?_) (fun h4 => ?_)
      · refine tr_ifT (cd := .eq) h4 ?_
        refine tr_nil (rows2 := kb_174_35) rfl (List.cons_ne_nil _ _) ?_
        refine tr_blk 1 (pc' := 36) (rows' := kb_174_35.drop 1) (loc' := [.inr (6, 0, 0, i0), .inl (.int x1), .inl (.int x2), .inl (.int x3), .inl (.int x4)]) (st' := [.inl (.int (0 : Int32)), .inl (.int x3)]) (P1 := P) rfl ⟨trivial, trivial⟩ ?_
        refine tr_nil (rows2 := kb_174_36) rfl (List.cons_ne_nil _ _) ?_
        refine tr_blk 3 (pc' := 41) (rows' := kb_174_36.drop 3) (loc' := [.inr (6, 0, 0, i0), .inl (.int x1), .inl (.int x2), .inl (.int (x3 + (0 : Int32))), .inl (.int (x4 + 1))]) (st' := []) (P1 := P) rfl ⟨trivial, trivial, trivial, trivial⟩ ?_
        refine tr_goto ?_
        exact ih x1 x2 (x3 + (0 : Int32)) (x4 + 1)
      · refine tr_ifF (cd := .eq) h4 ?_
        refine tr_blk 4 (pc' := 29) (rows' := kb_174_5.drop 13) (loc' := [.inr (6, 0, 0, i0), .inl (.int x1), .inl (.int x2), .inl (.int x3), .inl (.int x4)]) (st' := [.inl (.int x2), .inl (.int x1), .inl (.int x4), .inr (6, 0, 0, i0), .inl (.int x3)]) (P1 := P) rfl ⟨trivial, trivial, trivial, trivial, trivial⟩ ?_
        refine tr_cRI (z := km_264) (av := [.inr (6, 0, 0, i0), .inl (.int x4), .inl (.int x1), .inl (.int x2)]) (st' := [.inl (.int x3)]) rfl rfl rfl (Nat.le_of_ble_eq_true rfl) ⟨rfl, Or.inl (by decide)⟩ rfl (Nat.le_of_ble_eq_true rfl) (t_264 i0 N P x4 x1 x2) (fun v2 => ?_)
        refine tr_goto ?_
        refine tr_nil (rows2 := kb_174_36) rfl (List.cons_ne_nil _ _) ?_
        refine tr_blk 3 (pc' := 41) (rows' := kb_174_36.drop 3) (loc' := [.inr (6, 0, 0, i0), .inl (.int x1), .inl (.int x2), .inl (.int (x3 + v2)), .inl (.int (x4 + 1))]) (st' := []) (P1 := P) rfl ⟨trivial, trivial, trivial, trivial⟩ ?_
        refine tr_goto ?_
        exact ih x1 x2 (x3 + v2) (x4 + 1)
    · refine tr_icT (cd := .ge) (Int32.not_lt.mp h3) ?_
      refine tr_nil (rows2 := kb_174_44) rfl (List.cons_ne_nil _ _) ?_
      refine tr_blk 1 (pc' := 45) (rows' := kb_174_44.drop 1) (loc' := [.inr (6, 0, 0, i0), .inl (.int x1), .inl (.int x2), .inl (.int x3), .inl (.int x4)]) (st' := [.inl (.int x3)]) (P1 := P) rfl ⟨trivial, trivial⟩ ?_
      exact tr_reI (z := km_174) rfl ⟨_, rfl, rfl⟩ rfl
def f_174 (i0 : Nat) (N : Nat) (P : ab_P) (a1 : Int32) (a2 : Int32) : Option Int32 :=
    f_174_5 i0 N P N a1 a2 (0 : Int32) (0 : Int32)
theorem t_174 {xs : Nat × (Nat → Int32)} {d : Nat} (i0 : Nat) (N : Nat) (P : ab_P) : ∀ (a1 : Int32) (a2 : Int32), ab_tr xs (rI P) (d + 2) 174 0 [] [.inr (6, 0, 0, i0), .inl (.int a1), .inl (.int a2), ab_top, ab_top] [] P (f_174 i0 N P a1 a2) := by
  intro a1 a2
  unfold f_174
  refine tr_nil (rows2 := kb_174_0) rfl (List.cons_ne_nil _ _) ?_
  refine tr_blk 4 (pc' := 5) (rows' := kb_174_0.drop 4) (loc' := [.inr (6, 0, 0, i0), .inl (.int a1), .inl (.int a2), .inl (.int (0 : Int32)), .inl (.int (0 : Int32))]) (st' := []) (P1 := P) rfl ⟨trivial, trivial, trivial, trivial, trivial⟩ ?_
  exact t_174_5 i0 N P N a1 a2 (0 : Int32) (0 : Int32)
def f_172 (N : Nat) (a1 : Int32) (P : ab_P) : Option ((Int32 ⊕ Fin 3) × ab_P) :=
    Option.bind (f_240 P a1 (0 : Int32) (60 : Int32)) fun v1 =>
    ab_x2 (f_228 v1 P) (fun _ P2 =>
    Option.bind (f_174 43 N P2 a1 (P2.1 3 7)) fun v3 =>
    some (.inl v3, P2)) (fun q => q)
theorem t_172 {xs : Nat × (Nat → Int32)} {d : Nat} (N : Nat) : ∀ (a1 : Int32) (P : ab_P), ab_tr xs xI (d + 3) 172 0 [] [.inr (11, 0, 0, 0), .inl (.int a1)] [] P (f_172 N a1 P) := by
  intro a1 P
  unfold f_172
  refine tr_nil (rows2 := kb_172_0) rfl (List.cons_ne_nil _ _) ?_
  refine tr_blk 4 (pc' := 5) (rows' := kb_172_0.drop 4) (loc' := [.inr (11, 0, 0, 0), .inl (.int a1)]) (st' := [.inl (.int (60 : Int32)), .inl (.int (0 : Int32)), .inl (.int a1), .inr (11, 0, 0, 0)]) (P1 := P) rfl ⟨trivial, trivial, trivial, trivial, trivial⟩ ?_
  refine tr_cRI (z := km_240) (av := [.inl (.int a1), .inl (.int (0 : Int32)), .inl (.int (60 : Int32))]) (st' := [.inr (11, 0, 0, 0)]) rfl rfl rfl (Nat.le_of_ble_eq_true rfl) trivial rfl (Nat.le_of_ble_eq_true rfl) (t_240 P a1 (0 : Int32) (60 : Int32)) (fun v1 => ?_)
  refine tr_cax (fun _ => none) (zi := km_172) (fun _ => rfl) (fun _ _ => rfl) rfl rfl (z := km_228) (av := [.inr (11, 0, 0, 0), .inl (.int v1)]) (st' := []) rfl rfl rfl (Nat.le_of_ble_eq_true rfl) ⟨rfl, Or.inl (by decide)⟩ rfl (Nat.le_of_ble_eq_true rfl) (t_228 v1 P) (fun _ P2 => ?_)
  refine tr_blk 6 (pc' := 23) (rows' := kb_172_0.drop 12) (loc' := [.inr (11, 0, 0, 0), .inl (.int a1)]) (st' := [.inl (.int (P2.1 3 7)), .inl (.int a1), .inr (6, 0, 0, 43)]) (P1 := P2) rfl ⟨trivial, trivial, trivial, trivial, trivial, trivial, trivial⟩ ?_
  refine tr_cRI (z := km_174) (av := [.inr (6, 0, 0, 43), .inl (.int a1), .inl (.int (P2.1 3 7))]) (st' := []) rfl rfl rfl (Nat.le_of_ble_eq_true rfl) ⟨rfl, Or.inl (by decide)⟩ rfl (Nat.le_of_ble_eq_true rfl) (t_174 43 N P2 a1 (P2.1 3 7)) (fun v3 => ?_)
  exact tr_reI (z := km_172) rfl ⟨_, rfl, rfl⟩ rfl
def f_60_1 (N : Nat) (a1 : Int32) (P : ab_P) : Option (Int32 × ab_P) :=
    ab_h2 (f_172 N a1 P) (fun v2 P1 =>
    ab_lt (ab_pL P1 570 0 (v2).toInt64) fun P3 =>
    some ((0 : Int32), P3))
    (fun _ => none) (fun P9 => some ((1 : Int32), P9)) (fun _ => none)
theorem t_60_1 {xs : Nat × (Nat → Int32)} {d : Nat} (N : Nat) : ∀ (a1 : Int32) (P : ab_P), ab_tr xs wI (d + 4) 60 0 [] [.inr (11, 0, 0, 0), .inl (.int a1), .inr (22, 1, 0, 570), ab_top] [] P (f_60_1 N a1 P) := by
  intro a1 P
  unfold f_60_1
  refine tr_nil (rows2 := kb_60_0) rfl (List.cons_ne_nil _ _) ?_
  refine tr_blk 4 (pc' := 4) (rows' := kb_60_0.drop 4) (loc' := [.inr (11, 0, 0, 0), .inl (.int a1), .inr (22, 1, 0, 570), ab_top]) (st' := [.inl (.int a1), .inr (11, 0, 0, 0), .inl (.int (0 : Int32)), .inr (22, 1, 0, 570)]) (P1 := P) rfl ⟨trivial, trivial, trivial, trivial, trivial⟩ ?_
  refine tr_cah (fun b => some (.inl (.int b))) (zi := km_60) (fun _ => rfl) rfl (z := km_172) (av := [.inr (11, 0, 0, 0), .inl (.int a1)]) (st' := [.inl (.int (0 : Int32)), .inr (22, 1, 0, 570)]) rfl rfl rfl (Nat.le_of_ble_eq_true rfl) ⟨rfl, Or.inl (by decide)⟩ rfl (Nat.le_of_ble_eq_true rfl) (t_172 N a1 P) (fun v2 P1 => ?_) ?_ ?_ ?_
  · refine tr_blk 2 (pc' := 9) (rows' := kb_60_0.drop 7) (loc' := [.inr (11, 0, 0, 0), .inl (.int a1), .inr (22, 1, 0, 570), ab_top]) (st' := []) (P1 := (ab_pL P1 570 0 (v2).toInt64)) rfl ⟨trivial, (ab_vi (by decide)), trivial⟩ ?_
    refine tr_lt (fun P3 => ?_)
    refine tr_goto ?_
    refine tr_nil (rows2 := kb_60_15) rfl (List.cons_ne_nil _ _) ?_
    refine tr_blk 1 (pc' := 16) (rows' := kb_60_15.drop 1) (loc' := [.inr (11, 0, 0, 0), .inl (.int a1), .inr (22, 1, 0, 570), ab_top]) (st' := [.inl (.int (0 : Int32))]) (P1 := P3) rfl ⟨trivial, trivial⟩ ?_
    exact tr_reI (z := km_60) rfl ⟨_, rfl, rfl⟩ rfl
  · exact fun _ => rfl
  · exact fun _ => tr_han (rows2 := kb_60_12) (z := km_60) _ (fun q => [.inr (11, 0, 0, 0), .inl (.int a1), .inr (22, 1, 0, 570), .inr (40, 1, 0, q)]) rfl (List.cons_ne_nil _ _) (fun q => rfl) ⟨trivial, trivial, trivial⟩ rfl ⟨_, rfl, rfl⟩ rfl
  · exact fun _ => rfl
def f_185_5 (P : ab_P) : Nat → Int32 → Int32 → Int32 → Option Int32
  | 0, _, _, _ => none
  | n + 1, x2, x3, x4 =>
    if x4 < x2 then
      Option.bind (f_270 P x3) fun v1 =>
      f_185_5 P n x2 v1 (x4 + 1)
    else
    some x3
theorem t_185_5 {xs : Nat × (Nat → Int32)} {d : Nat} (P : ab_P) : ∀ n : Nat, ∀ (x2 : Int32) (x3 : Int32) (x4 : Int32) (d1 : Int32), ab_tr xs (rI P) (d + 2) 185 5 [] [.inr (12, 0, 0, 72), .inl (.int d1), .inl (.int x2), .inl (.int x3), .inl (.int x4)] [] P (f_185_5 P n x2 x3 x4) := by
  intro n
  induction n with
  | zero => intro x2 x3 x4 d1; exact tr_no
  | succ n ih =>
    intro x2 x3 x4 d1
    refine tr_nil (rows2 := kb_185_5) rfl (List.cons_ne_nil _ _) ?_
    refine tr_blk 2 (pc' := 8) (rows' := kb_185_5.drop 2) (loc' := [.inr (12, 0, 0, 72), .inl (.int d1), .inl (.int x2), .inl (.int x3), .inl (.int x4)]) (st' := [.inl (.int x2), .inl (.int x4)]) (P1 := P) rfl ⟨trivial, trivial, trivial⟩ ?_
    refine tr_if (fun h2 => ?_) (fun h2 => ?_)
    · refine tr_icF (cd := .ge) (Int32.not_le.mpr h2) ?_
      refine tr_blk 2 (pc' := 13) (rows' := kb_185_5.drop 5) (loc' := [.inr (12, 0, 0, 72), .inl (.int d1), .inl (.int x2), .inl (.int x3), .inl (.int x4)]) (st' := [.inl (.int x3), .inr (12, 0, 0, 72)]) (P1 := P) rfl ⟨trivial, trivial, trivial⟩ ?_
      refine tr_cRI (z := km_270) (av := [.inr (12, 0, 0, 72), .inl (.int x3)]) (st' := []) rfl rfl rfl (Nat.le_of_ble_eq_true rfl) ⟨rfl, Or.inl (by decide)⟩ rfl (Nat.le_of_ble_eq_true rfl) (t_270 P x3) (fun v1 => ?_)
      refine tr_blk 2 (pc' := 20) (rows' := kb_185_5.drop 8) (loc' := [.inr (12, 0, 0, 72), .inl (.int d1), .inl (.int x2), .inl (.int v1), .inl (.int (x4 + 1))]) (st' := []) (P1 := P) rfl ⟨trivial, trivial, trivial⟩ ?_
      refine tr_goto ?_
      exact ih x2 v1 (x4 + 1) (d1)
    · refine tr_icT (cd := .ge) (Int32.not_lt.mp h2) ?_
      refine tr_nil (rows2 := kb_185_23) rfl (List.cons_ne_nil _ _) ?_
      refine tr_blk 1 (pc' := 24) (rows' := kb_185_23.drop 1) (loc' := [.inr (12, 0, 0, 72), .inl (.int d1), .inl (.int x2), .inl (.int x3), .inl (.int x4)]) (st' := [.inl (.int x3)]) (P1 := P) rfl ⟨trivial, trivial⟩ ?_
      exact tr_reI (z := km_185) rfl ⟨_, rfl, rfl⟩ rfl
def f_185 (N : Nat) (P : ab_P) (a1 : Int32) (a2 : Int32) : Option Int32 :=
    f_185_5 P N a2 a1 (0 : Int32)
theorem t_185 {xs : Nat × (Nat → Int32)} {d : Nat} (N : Nat) (P : ab_P) : ∀ (a1 : Int32) (a2 : Int32), ab_tr xs (rI P) (d + 2) 185 0 [] [.inr (12, 0, 0, 72), .inl (.int a1), .inl (.int a2), ab_top, ab_top] [] P (f_185 N P a1 a2) := by
  intro a1 a2
  unfold f_185
  refine tr_nil (rows2 := kb_185_0) rfl (List.cons_ne_nil _ _) ?_
  refine tr_blk 4 (pc' := 5) (rows' := kb_185_0.drop 4) (loc' := [.inr (12, 0, 0, 72), .inl (.int a1), .inl (.int a2), .inl (.int a1), .inl (.int (0 : Int32))]) (st' := []) (P1 := P) rfl ⟨trivial, trivial, trivial, trivial, trivial⟩ ?_
  exact t_185_5 P N a2 a1 (0 : Int32) (a1)
def f_173_4 (N : Nat) (P : ab_P) : Nat → Int32 → Int32 → Int32 → Option Int32
  | 0, _, _, _ => none
  | n + 1, x1, x2, x3 =>
    if x3 < (P.1 477 360) then
      Option.bind (f_144_366 477 P x3) fun v1 =>
      if v1 = (0 : Int32) then
        f_173_4 N P n x1 (x2 + (0 : Int32)) (x3 + 1)
      else
      Option.bind (f_135_366 477 P x3 (2 : Int32)) fun v2 =>
      Option.bind (f_185 N P v2 x1) fun v3 =>
      f_173_4 N P n x1 (x2 + v3) (x3 + 1)
    else
    some x2
theorem t_173_4 {xs : Nat × (Nat → Int32)} {d : Nat} (N : Nat) (P : ab_P) : ∀ n : Nat, ∀ (x1 : Int32) (x2 : Int32) (x3 : Int32), ab_tr xs (rI P) (d + 3) 173 4 [] [.inr (12, 0, 0, 72), .inl (.int x1), .inl (.int x2), .inl (.int x3)] [] P (f_173_4 N P n x1 x2 x3) := by
  intro n
  induction n with
  | zero => intro x1 x2 x3; exact tr_no
  | succ n ih =>
    intro x1 x2 x3
    refine tr_nil (rows2 := kb_173_4) rfl (List.cons_ne_nil _ _) ?_
    refine tr_blk 5 (pc' := 13) (rows' := kb_173_4.drop 5) (loc' := [.inr (12, 0, 0, 72), .inl (.int x1), .inl (.int x2), .inl (.int x3)]) (st' := [.inl (.int (P.1 477 360)), .inl (.int x3)]) (P1 := P) rfl ⟨trivial, trivial, trivial, trivial, (ab_vi (by decide)), trivial⟩ ?_
    refine tr_if (fun h4 => ?_) (fun h4 => ?_)
    · refine tr_icF (cd := .ge) (Int32.not_le.mpr h4) ?_
      refine tr_blk 4 (pc' := 22) (rows' := kb_173_4.drop 10) (loc' := [.inr (12, 0, 0, 72), .inl (.int x1), .inl (.int x2), .inl (.int x3)]) (st' := [.inl (.int x3), .inr (20, 366, 0, 477), .inl (.int x2)]) (P1 := P) rfl ⟨trivial, trivial, trivial, trivial, trivial⟩ ?_
      refine tr_cRI (z := km_144) (av := [.inr (20, 366, 0, 477), .inl (.int x3)]) (st' := [.inl (.int x2)]) rfl rfl rfl (Nat.le_of_ble_eq_true rfl) trivial rfl (Nat.le_of_ble_eq_true rfl) (t_144_366 477 P x3) (fun v1 => ?_)
      refine tr_if (fun h5 => ?_) (fun h5 => ?_)
      · refine tr_ifT (cd := .eq) h5 ?_
        refine tr_nil (rows2 := kb_173_45) rfl (List.cons_ne_nil _ _) ?_
        refine tr_blk 1 (pc' := 46) (rows' := kb_173_45.drop 1) (loc' := [.inr (12, 0, 0, 72), .inl (.int x1), .inl (.int x2), .inl (.int x3)]) (st' := [.inl (.int (0 : Int32)), .inl (.int x2)]) (P1 := P) rfl ⟨trivial, trivial⟩ ?_
        refine tr_nil (rows2 := kb_173_46) rfl (List.cons_ne_nil _ _) ?_
        refine tr_blk 3 (pc' := 51) (rows' := kb_173_46.drop 3) (loc' := [.inr (12, 0, 0, 72), .inl (.int x1), .inl (.int (x2 + (0 : Int32))), .inl (.int (x3 + 1))]) (st' := []) (P1 := P) rfl ⟨trivial, trivial, trivial, trivial⟩ ?_
        refine tr_goto ?_
        exact ih x1 (x2 + (0 : Int32)) (x3 + 1)
      · refine tr_ifF (cd := .eq) h5 ?_
        refine tr_blk 5 (pc' := 35) (rows' := kb_173_4.drop 17) (loc' := [.inr (12, 0, 0, 72), .inl (.int x1), .inl (.int x2), .inl (.int x3)]) (st' := [.inl (.int (2 : Int32)), .inl (.int x3), .inr (20, 366, 0, 477), .inr (12, 0, 0, 72), .inl (.int x2)]) (P1 := P) rfl ⟨trivial, trivial, trivial, trivial, trivial, trivial⟩ ?_
        refine tr_cRI (z := km_135) (av := [.inr (20, 366, 0, 477), .inl (.int x3), .inl (.int (2 : Int32))]) (st' := [.inr (12, 0, 0, 72), .inl (.int x2)]) rfl rfl rfl (Nat.le_of_ble_eq_true rfl) trivial rfl (Nat.le_of_ble_eq_true rfl) (t_135_366 477 P x3 (2 : Int32)) (fun v2 => ?_)
        refine tr_blk 1 (pc' := 39) (rows' := kb_173_4.drop 19) (loc' := [.inr (12, 0, 0, 72), .inl (.int x1), .inl (.int x2), .inl (.int x3)]) (st' := [.inl (.int x1), .inl (.int v2), .inr (12, 0, 0, 72), .inl (.int x2)]) (P1 := P) rfl ⟨trivial, trivial⟩ ?_
        refine tr_cRI (z := km_185) (av := [.inr (12, 0, 0, 72), .inl (.int v2), .inl (.int x1)]) (st' := [.inl (.int x2)]) rfl rfl rfl (Nat.le_of_ble_eq_true rfl) ⟨rfl, Or.inl (by decide)⟩ rfl (Nat.le_of_ble_eq_true rfl) (t_185 N P v2 x1) (fun v3 => ?_)
        refine tr_goto ?_
        refine tr_nil (rows2 := kb_173_46) rfl (List.cons_ne_nil _ _) ?_
        refine tr_blk 3 (pc' := 51) (rows' := kb_173_46.drop 3) (loc' := [.inr (12, 0, 0, 72), .inl (.int x1), .inl (.int (x2 + v3)), .inl (.int (x3 + 1))]) (st' := []) (P1 := P) rfl ⟨trivial, trivial, trivial, trivial⟩ ?_
        refine tr_goto ?_
        exact ih x1 (x2 + v3) (x3 + 1)
    · refine tr_icT (cd := .ge) (Int32.not_lt.mp h4) ?_
      refine tr_nil (rows2 := kb_173_54) rfl (List.cons_ne_nil _ _) ?_
      refine tr_blk 1 (pc' := 55) (rows' := kb_173_54.drop 1) (loc' := [.inr (12, 0, 0, 72), .inl (.int x1), .inl (.int x2), .inl (.int x3)]) (st' := [.inl (.int x2)]) (P1 := P) rfl ⟨trivial, trivial⟩ ?_
      exact tr_reI (z := km_173) rfl ⟨_, rfl, rfl⟩ rfl
def f_173 (N : Nat) (P : ab_P) (a1 : Int32) : Option Int32 :=
    f_173_4 N P N a1 (0 : Int32) (0 : Int32)
theorem t_173 {xs : Nat × (Nat → Int32)} {d : Nat} (N : Nat) (P : ab_P) : ∀ (a1 : Int32), ab_tr xs (rI P) (d + 3) 173 0 [] [.inr (12, 0, 0, 72), .inl (.int a1), ab_top, ab_top] [] P (f_173 N P a1) := by
  intro a1
  unfold f_173
  refine tr_nil (rows2 := kb_173_0) rfl (List.cons_ne_nil _ _) ?_
  refine tr_blk 4 (pc' := 4) (rows' := kb_173_0.drop 4) (loc' := [.inr (12, 0, 0, 72), .inl (.int a1), .inl (.int (0 : Int32)), .inl (.int (0 : Int32))]) (st' := []) (P1 := P) rfl ⟨trivial, trivial, trivial, trivial, trivial⟩ ?_
  exact t_173_4 N P N a1 (0 : Int32) (0 : Int32)
def f_61_21 (N : Nat) (x1 : Int32) (s0 : Int32) (P : ab_P) : Option (Int32 × ab_P) :=
    ab_b2 (f_113 s0 (1 : Int32) (1 : Int32) P) fun v4 P3 =>
    if v4 = (0 : Int32) then
      Option.bind (f_173 N P3 x1) fun v5 =>
      some (v5, P3)
    else
    some ((0 : Int32), P3)
theorem t_61_21 {xs : Nat × (Nat → Int32)} {d : Nat} (N : Nat) : ∀ (x1 : Int32) (s0 : Int32) (P : ab_P), ab_tr xs wI (d + 4) 61 21 [] [.inr (12, 0, 0, 72), .inl (.int x1)] [.inl (.int s0), .inr (12, 0, 0, 72)] P (f_61_21 N x1 s0 P) := by
  intro x1 s0 P
  unfold f_61_21
  refine tr_nil (rows2 := kb_61_21) rfl (List.cons_ne_nil _ _) ?_
  refine tr_blk 2 (pc' := 23) (rows' := kb_61_21.drop 2) (loc' := [.inr (12, 0, 0, 72), .inl (.int x1)]) (st' := [.inl (.int (1 : Int32)), .inl (.int (1 : Int32)), .inl (.int s0), .inr (12, 0, 0, 72)]) (P1 := P) rfl ⟨trivial, trivial, trivial⟩ ?_
  refine tr_cWI (z := km_113) (av := [.inr (12, 0, 0, 72), .inl (.int s0), .inl (.int (1 : Int32)), .inl (.int (1 : Int32))]) (st' := []) rfl rfl rfl (Nat.le_of_ble_eq_true rfl) ⟨rfl, Or.inl (by decide)⟩ rfl (Nat.le_of_ble_eq_true rfl) (t_113 s0 (1 : Int32) (1 : Int32) P) (fun v4 P3 => ?_)
  refine tr_if (fun h6 => ?_) (fun h6 => ?_)
  · refine tr_ifT (cd := .eq) h6 ?_
    refine tr_nil (rows2 := kb_61_31) rfl (List.cons_ne_nil _ _) ?_
    refine tr_blk 2 (pc' := 33) (rows' := kb_61_31.drop 2) (loc' := [.inr (12, 0, 0, 72), .inl (.int x1)]) (st' := [.inl (.int x1), .inr (12, 0, 0, 72)]) (P1 := P3) rfl ⟨trivial, trivial, trivial⟩ ?_
    refine tr_cRI (z := km_173) (av := [.inr (12, 0, 0, 72), .inl (.int x1)]) (st' := []) rfl rfl rfl (Nat.le_of_ble_eq_true rfl) ⟨rfl, Or.inl (by decide)⟩ rfl (Nat.le_of_ble_eq_true rfl) (t_173 N P3 x1) (fun v5 => ?_)
    exact tr_reI (z := km_61) rfl ⟨_, rfl, rfl⟩ rfl
  · refine tr_ifF (cd := .eq) h6 ?_
    refine tr_blk 1 (pc' := 30) (rows' := kb_61_21.drop 5) (loc' := [.inr (12, 0, 0, 72), .inl (.int x1)]) (st' := [.inl (.int (0 : Int32))]) (P1 := P3) rfl ⟨trivial, trivial⟩ ?_
    exact tr_reI (z := km_61) rfl ⟨_, rfl, rfl⟩ rfl
def f_61 (N : Nat) (a1 : Int32) (P : ab_P) : Option (Int32 × ab_P) :=
    ab_lt (ab_pI P 72 0 (0 : Int32)) fun P1 =>
    Option.bind (f_112 P1 a1 (0 : Int32) (60 : Int32)) fun v2 =>
    if v2 = (0 : Int32) then
      f_61_21 N a1 (1 : Int32) P1
    else
    f_61_21 N a1 (0 : Int32) P1
theorem t_61 {xs : Nat × (Nat → Int32)} {d : Nat} (N : Nat) : ∀ (a1 : Int32) (P : ab_P), ab_tr xs wI (d + 4) 61 0 [] [.inr (12, 0, 0, 72), .inl (.int a1)] [] P (f_61 N a1 P) := by
  intro a1 P
  unfold f_61
  refine tr_nil (rows2 := kb_61_0) rfl (List.cons_ne_nil _ _) ?_
  refine tr_blk 3 (pc' := 5) (rows' := kb_61_0.drop 3) (loc' := [.inr (12, 0, 0, 72), .inl (.int a1)]) (st' := []) (P1 := (ab_pI P 72 0 (0 : Int32))) rfl ⟨trivial, trivial, trivial, trivial⟩ ?_
  refine tr_lt (fun P1 => ?_)
  refine tr_blk 4 (pc' := 10) (rows' := kb_61_0.drop 7) (loc' := [.inr (12, 0, 0, 72), .inl (.int a1)]) (st' := [.inl (.int (60 : Int32)), .inl (.int (0 : Int32)), .inl (.int a1), .inr (12, 0, 0, 72)]) (P1 := P1) rfl ⟨trivial, trivial, trivial, trivial, trivial⟩ ?_
  refine tr_cRI (z := km_112) (av := [.inl (.int a1), .inl (.int (0 : Int32)), .inl (.int (60 : Int32))]) (st' := [.inr (12, 0, 0, 72)]) rfl rfl rfl (Nat.le_of_ble_eq_true rfl) trivial rfl (Nat.le_of_ble_eq_true rfl) (t_112 P1 a1 (0 : Int32) (60 : Int32)) (fun v2 => ?_)
  refine tr_if (fun h7 => ?_) (fun h7 => ?_)
  · refine tr_ifF (cd := .ne) (fun q => q h7) ?_
    refine tr_blk 1 (pc' := 17) (rows' := kb_61_0.drop 10) (loc' := [.inr (12, 0, 0, 72), .inl (.int a1)]) (st' := [.inl (.int (1 : Int32)), .inr (12, 0, 0, 72)]) (P1 := P1) rfl ⟨trivial, trivial⟩ ?_
    refine tr_goto ?_
    exact t_61_21 N a1 (1 : Int32) P1
  · refine tr_ifT (cd := .ne) h7 ?_
    refine tr_nil (rows2 := kb_61_20) rfl (List.cons_ne_nil _ _) ?_
    refine tr_blk 1 (pc' := 21) (rows' := kb_61_20.drop 1) (loc' := [.inr (12, 0, 0, 72), .inl (.int a1)]) (st' := [.inl (.int (0 : Int32)), .inr (12, 0, 0, 72)]) (P1 := P1) rfl ⟨trivial, trivial⟩ ?_
    exact t_61_21 N a1 (0 : Int32) P1
def f_62_30 (N : Nat) (P : ab_P) : Nat → Int32 → Int32 → Int32 → Int32 → Option Int32
  | 0, _, _, _, _ => none
  | n + 1, x1, x2, x3, x4 =>
    if x4 < (60 : Int32) then
      if x2 < x3 then
        Option.bind (f_174 43 N P ((x2 + x3) / (2 : Int32)) (P.1 3 7)) fun v2 =>
        if v2 < x1 then
          f_62_30 N P n x1 (((x2 + x3) / (2 : Int32)) + (1 : Int32)) x3 (x4 + 1)
        else
        f_62_30 N P n x1 x2 ((x2 + x3) / (2 : Int32)) (x4 + 1)
      else
      some x2
    else
    some x2
theorem t_62_30 {xs : Nat × (Nat → Int32)} {d : Nat} (N : Nat) (P : ab_P) : ∀ n : Nat, ∀ (x1 : Int32) (x2 : Int32) (x3 : Int32) (x4 : Int32) (d5 : ab_V), ab_tr xs (rI P) (d + 3) 62 30 [] [.inr (11, 0, 0, 0), .inl (.int x1), .inl (.int x2), .inl (.int x3), .inl (.int x4), d5] [] P (f_62_30 N P n x1 x2 x3 x4) := by
  intro n
  induction n with
  | zero => intro x1 x2 x3 x4 d5; exact tr_no
  | succ n ih =>
    intro x1 x2 x3 x4 d5
    refine tr_nil (rows2 := kb_62_30) rfl (List.cons_ne_nil _ _) ?_
    refine tr_blk 2 (pc' := 34) (rows' := kb_62_30.drop 2) (loc' := [.inr (11, 0, 0, 0), .inl (.int x1), .inl (.int x2), .inl (.int x3), .inl (.int x4), d5]) (st' := [.inl (.int (60 : Int32)), .inl (.int x4)]) (P1 := P) rfl ⟨trivial, trivial, trivial⟩ ?_
    refine tr_if (fun h3 => ?_) (fun h3 => ?_)
    · refine tr_icF (cd := .ge) (Int32.not_le.mpr h3) ?_
      refine tr_blk 2 (pc' := 39) (rows' := kb_62_30.drop 5) (loc' := [.inr (11, 0, 0, 0), .inl (.int x1), .inl (.int x2), .inl (.int x3), .inl (.int x4), d5]) (st' := [.inl (.int x3), .inl (.int x2)]) (P1 := P) rfl ⟨trivial, trivial, trivial⟩ ?_
      refine tr_if (fun h4 => ?_) (fun h4 => ?_)
      · refine tr_icF (cd := .ge) (Int32.not_le.mpr h4) ?_
        refine tr_blk 12 (pc' := 62) (rows' := kb_62_30.drop 18) (loc' := [.inr (11, 0, 0, 0), .inl (.int x1), .inl (.int x2), .inl (.int x3), .inl (.int x4), .inl (.int ((x2 + x3) / (2 : Int32)))]) (st' := [.inl (.int (P.1 3 7)), .inl (.int ((x2 + x3) / (2 : Int32))), .inr (6, 0, 0, 43)]) (P1 := P) rfl ⟨trivial, trivial, trivial, trivial, (by decide), trivial, trivial, trivial, trivial, trivial, trivial, trivial, trivial⟩ ?_
        refine tr_cRI (z := km_174) (av := [.inr (6, 0, 0, 43), .inl (.int ((x2 + x3) / (2 : Int32))), .inl (.int (P.1 3 7))]) (st' := []) rfl rfl rfl (Nat.le_of_ble_eq_true rfl) ⟨rfl, Or.inl (by decide)⟩ rfl (Nat.le_of_ble_eq_true rfl) (t_174 43 N P ((x2 + x3) / (2 : Int32)) (P.1 3 7)) (fun v2 => ?_)
        refine tr_blk 1 (pc' := 66) (rows' := kb_62_30.drop 20) (loc' := [.inr (11, 0, 0, 0), .inl (.int x1), .inl (.int x2), .inl (.int x3), .inl (.int x4), .inl (.int ((x2 + x3) / (2 : Int32)))]) (st' := [.inl (.int x1), .inl (.int v2)]) (P1 := P) rfl ⟨trivial, trivial⟩ ?_
        refine tr_if (fun h5 => ?_) (fun h5 => ?_)
        · refine tr_icT (cd := .lt) h5 ?_
          refine tr_nil (rows2 := kb_62_75) rfl (List.cons_ne_nil _ _) ?_
          refine tr_blk 4 (pc' := 80) (rows' := kb_62_75.drop 4) (loc' := [.inr (11, 0, 0, 0), .inl (.int x1), .inl (.int (((x2 + x3) / (2 : Int32)) + (1 : Int32))), .inl (.int x3), .inl (.int x4), .inl (.int ((x2 + x3) / (2 : Int32)))]) (st' := []) (P1 := P) rfl ⟨trivial, trivial, trivial, trivial, trivial⟩ ?_
          refine tr_nil (rows2 := kb_62_80) rfl (List.cons_ne_nil _ _) ?_
          refine tr_blk 1 (pc' := 83) (rows' := kb_62_80.drop 1) (loc' := [.inr (11, 0, 0, 0), .inl (.int x1), .inl (.int (((x2 + x3) / (2 : Int32)) + (1 : Int32))), .inl (.int x3), .inl (.int (x4 + 1)), .inl (.int ((x2 + x3) / (2 : Int32)))]) (st' := []) (P1 := P) rfl ⟨trivial, trivial⟩ ?_
          refine tr_goto ?_
          exact ih x1 (((x2 + x3) / (2 : Int32)) + (1 : Int32)) x3 (x4 + 1) (.inl (.int ((x2 + x3) / (2 : Int32))))
        · refine tr_icF (cd := .lt) h5 ?_
          refine tr_blk 2 (pc' := 72) (rows' := kb_62_30.drop 23) (loc' := [.inr (11, 0, 0, 0), .inl (.int x1), .inl (.int x2), .inl (.int ((x2 + x3) / (2 : Int32))), .inl (.int x4), .inl (.int ((x2 + x3) / (2 : Int32)))]) (st' := []) (P1 := P) rfl ⟨trivial, trivial, trivial⟩ ?_
          refine tr_goto ?_
          refine tr_nil (rows2 := kb_62_80) rfl (List.cons_ne_nil _ _) ?_
          refine tr_blk 1 (pc' := 83) (rows' := kb_62_80.drop 1) (loc' := [.inr (11, 0, 0, 0), .inl (.int x1), .inl (.int x2), .inl (.int ((x2 + x3) / (2 : Int32))), .inl (.int (x4 + 1)), .inl (.int ((x2 + x3) / (2 : Int32)))]) (st' := []) (P1 := P) rfl ⟨trivial, trivial⟩ ?_
          refine tr_goto ?_
          exact ih x1 x2 ((x2 + x3) / (2 : Int32)) (x4 + 1) (.inl (.int ((x2 + x3) / (2 : Int32))))
      · refine tr_icT (cd := .ge) (Int32.not_lt.mp h4) ?_
        refine tr_nil (rows2 := kb_62_86) rfl (List.cons_ne_nil _ _) ?_
        refine tr_blk 1 (pc' := 87) (rows' := kb_62_86.drop 1) (loc' := [.inr (11, 0, 0, 0), .inl (.int x1), .inl (.int x2), .inl (.int x3), .inl (.int x4), d5]) (st' := [.inl (.int x2)]) (P1 := P) rfl ⟨trivial, trivial⟩ ?_
        exact tr_reI (z := km_62) rfl ⟨_, rfl, rfl⟩ rfl
    · refine tr_icT (cd := .ge) (Int32.not_lt.mp h3) ?_
      refine tr_nil (rows2 := kb_62_86) rfl (List.cons_ne_nil _ _) ?_
      refine tr_blk 1 (pc' := 87) (rows' := kb_62_86.drop 1) (loc' := [.inr (11, 0, 0, 0), .inl (.int x1), .inl (.int x2), .inl (.int x3), .inl (.int x4), d5]) (st' := [.inl (.int x2)]) (P1 := P) rfl ⟨trivial, trivial⟩ ?_
      exact tr_reI (z := km_62) rfl ⟨_, rfl, rfl⟩ rfl
def f_62 (N : Nat) (P : ab_P) (a1 : Int32) : Option Int32 :=
    Option.bind (f_174 43 N P (60 : Int32) (P.1 3 7)) fun v1 =>
    if v1 < a1 then
      some (-1 : Int32)
    else
    f_62_30 N P N a1 (1 : Int32) (60 : Int32) (0 : Int32)
theorem t_62 {xs : Nat × (Nat → Int32)} {d : Nat} (N : Nat) (P : ab_P) : ∀ (a1 : Int32), ab_tr xs (rI P) (d + 3) 62 0 [] [.inr (11, 0, 0, 0), .inl (.int a1), ab_top, ab_top, ab_top, ab_top] [] P (f_62 N P a1) := by
  intro a1
  unfold f_62
  refine tr_nil (rows2 := kb_62_0) rfl (List.cons_ne_nil _ _) ?_
  refine tr_blk 6 (pc' := 13) (rows' := kb_62_0.drop 6) (loc' := [.inr (11, 0, 0, 0), .inl (.int a1), ab_top, ab_top, ab_top, ab_top]) (st' := [.inl (.int (P.1 3 7)), .inl (.int (60 : Int32)), .inr (6, 0, 0, 43)]) (P1 := P) rfl ⟨trivial, trivial, trivial, trivial, trivial, trivial, trivial⟩ ?_
  refine tr_cRI (z := km_174) (av := [.inr (6, 0, 0, 43), .inl (.int (60 : Int32)), .inl (.int (P.1 3 7))]) (st' := []) rfl rfl rfl (Nat.le_of_ble_eq_true rfl) ⟨rfl, Or.inl (by decide)⟩ rfl (Nat.le_of_ble_eq_true rfl) (t_174 43 N P (60 : Int32) (P.1 3 7)) (fun v1 => ?_)
  refine tr_blk 1 (pc' := 17) (rows' := kb_62_0.drop 8) (loc' := [.inr (11, 0, 0, 0), .inl (.int a1), ab_top, ab_top, ab_top, ab_top]) (st' := [.inl (.int a1), .inl (.int v1)]) (P1 := P) rfl ⟨trivial, trivial⟩ ?_
  refine tr_if (fun h6 => ?_) (fun h6 => ?_)
  · refine tr_icF (cd := .ge) (Int32.not_le.mpr h6) ?_
    refine tr_blk 1 (pc' := 21) (rows' := kb_62_0.drop 10) (loc' := [.inr (11, 0, 0, 0), .inl (.int a1), ab_top, ab_top, ab_top, ab_top]) (st' := [.inl (.int (-1 : Int32))]) (P1 := P) rfl ⟨trivial, trivial⟩ ?_
    exact tr_reI (z := km_62) rfl ⟨_, rfl, rfl⟩ rfl
  · refine tr_icT (cd := .ge) (Int32.not_lt.mp h6) ?_
    refine tr_nil (rows2 := kb_62_22) rfl (List.cons_ne_nil _ _) ?_
    refine tr_blk 6 (pc' := 30) (rows' := kb_62_22.drop 6) (loc' := [.inr (11, 0, 0, 0), .inl (.int a1), .inl (.int (1 : Int32)), .inl (.int (60 : Int32)), .inl (.int (0 : Int32)), ab_top]) (st' := []) (P1 := P) rfl ⟨trivial, trivial, trivial, trivial, trivial, trivial, trivial⟩ ?_
    exact t_62_30 N P N a1 (1 : Int32) (60 : Int32) (0 : Int32) (ab_top)
def f_63_7 (N : Nat) : Nat → Int32 → Int32 → ab_P → Option (Int32 × ab_P)
  | 0, _, _, _ => none
  | n + 1, x1, x2, P =>
    if (60 : Int32) < x2 then
      some ((-1 : Int32), P)
    else
    Option.bind (f_173 N P x2) fun v2 =>
    if v2 < x1 then
      f_63_7 N n x1 (x2 + 1) P
    else
    some (x2, P)
theorem t_63_7 {xs : Nat × (Nat → Int32)} {d : Nat} (N : Nat) : ∀ n : Nat, ∀ (x1 : Int32) (x2 : Int32) (P : ab_P), ab_tr xs wI (d + 4) 63 7 [] [.inr (12, 0, 0, 72), .inl (.int x1), .inl (.int x2)] [] P (f_63_7 N n x1 x2 P) := by
  intro n
  induction n with
  | zero => intro x1 x2 P; exact tr_no
  | succ n ih =>
    intro x1 x2 P
    refine tr_nil (rows2 := kb_63_7) rfl (List.cons_ne_nil _ _) ?_
    refine tr_blk 2 (pc' := 10) (rows' := kb_63_7.drop 2) (loc' := [.inr (12, 0, 0, 72), .inl (.int x1), .inl (.int x2)]) (st' := [.inl (.int (60 : Int32)), .inl (.int x2)]) (P1 := P) rfl ⟨trivial, trivial, trivial⟩ ?_
    refine tr_if (fun h3 => ?_) (fun h3 => ?_)
    · refine tr_icT (cd := .gt) h3 ?_
      refine tr_nil (rows2 := kb_63_30) rfl (List.cons_ne_nil _ _) ?_
      refine tr_blk 1 (pc' := 31) (rows' := kb_63_30.drop 1) (loc' := [.inr (12, 0, 0, 72), .inl (.int x1), .inl (.int x2)]) (st' := [.inl (.int (-1 : Int32))]) (P1 := P) rfl ⟨trivial, trivial⟩ ?_
      exact tr_reI (z := km_63) rfl ⟨_, rfl, rfl⟩ rfl
    · refine tr_icF (cd := .gt) h3 ?_
      refine tr_blk 2 (pc' := 15) (rows' := kb_63_7.drop 5) (loc' := [.inr (12, 0, 0, 72), .inl (.int x1), .inl (.int x2)]) (st' := [.inl (.int x2), .inr (12, 0, 0, 72)]) (P1 := P) rfl ⟨trivial, trivial, trivial⟩ ?_
      refine tr_cRI (z := km_173) (av := [.inr (12, 0, 0, 72), .inl (.int x2)]) (st' := []) rfl rfl rfl (Nat.le_of_ble_eq_true rfl) ⟨rfl, Or.inl (by decide)⟩ rfl (Nat.le_of_ble_eq_true rfl) (t_173 N P x2) (fun v2 => ?_)
      refine tr_blk 1 (pc' := 19) (rows' := kb_63_7.drop 7) (loc' := [.inr (12, 0, 0, 72), .inl (.int x1), .inl (.int x2)]) (st' := [.inl (.int x1), .inl (.int v2)]) (P1 := P) rfl ⟨trivial, trivial⟩ ?_
      refine tr_if (fun h4 => ?_) (fun h4 => ?_)
      · refine tr_icT (cd := .lt) h4 ?_
        refine tr_nil (rows2 := kb_63_24) rfl (List.cons_ne_nil _ _) ?_
        refine tr_blk 1 (pc' := 27) (rows' := kb_63_24.drop 1) (loc' := [.inr (12, 0, 0, 72), .inl (.int x1), .inl (.int (x2 + 1))]) (st' := []) (P1 := P) rfl ⟨trivial, trivial⟩ ?_
        refine tr_goto ?_
        exact ih x1 (x2 + 1) P
      · refine tr_icF (cd := .lt) h4 ?_
        refine tr_blk 1 (pc' := 23) (rows' := kb_63_7.drop 9) (loc' := [.inr (12, 0, 0, 72), .inl (.int x1), .inl (.int x2)]) (st' := [.inl (.int x2)]) (P1 := P) rfl ⟨trivial, trivial⟩ ?_
        exact tr_reI (z := km_63) rfl ⟨_, rfl, rfl⟩ rfl
def f_63 (N : Nat) (a1 : Int32) (P : ab_P) : Option (Int32 × ab_P) :=
    ab_lt (ab_pI P 72 0 (0 : Int32)) fun P1 =>
    f_63_7 N N a1 (1 : Int32) P1
theorem t_63 {xs : Nat × (Nat → Int32)} {d : Nat} (N : Nat) : ∀ (a1 : Int32) (P : ab_P), ab_tr xs wI (d + 4) 63 0 [] [.inr (12, 0, 0, 72), .inl (.int a1), ab_top] [] P (f_63 N a1 P) := by
  intro a1 P
  unfold f_63
  refine tr_nil (rows2 := kb_63_0) rfl (List.cons_ne_nil _ _) ?_
  refine tr_blk 3 (pc' := 5) (rows' := kb_63_0.drop 3) (loc' := [.inr (12, 0, 0, 72), .inl (.int a1), ab_top]) (st' := []) (P1 := (ab_pI P 72 0 (0 : Int32))) rfl ⟨trivial, trivial, trivial, trivial⟩ ?_
  refine tr_lt (fun P1 => ?_)
  refine tr_blk 2 (pc' := 7) (rows' := kb_63_0.drop 5) (loc' := [.inr (12, 0, 0, 72), .inl (.int a1), .inl (.int (1 : Int32))]) (st' := []) (P1 := P1) rfl ⟨trivial, trivial, trivial⟩ ?_
  exact t_63_7 N N a1 (1 : Int32) P1
def f_175_119 (x7 : Int32) (x8 : Int32) (s0 : Int32) (P : ab_P) : Option ((Int32 ⊕ Fin 3) × ab_P) :=
    if x7 = (0 : Int32) then
      if x8 = (0 : Int32) then
        some (.inl ((s0 + (0 : Int32)) + (0 : Int32)), P)
      else
      some (.inl ((s0 + (0 : Int32)) + (8 : Int32)), P)
    else
    if x8 = (0 : Int32) then
      some (.inl ((s0 + (6 : Int32)) + (0 : Int32)), P)
    else
    some (.inl ((s0 + (6 : Int32)) + (8 : Int32)), P)
theorem t_175_119 {xs : Nat × (Nat → Int32)} {d : Nat} : ∀ (x7 : Int32) (x8 : Int32) (s0 : Int32) (d1 : Int32) (d2 : Int32) (d3 : Int32) (d4 : Int32) (d5 : Int32) (d6 : Int32) (P : ab_P), ab_tr xs xI (d + 1) 175 119 [] [.inr (11, 0, 0, 0), .inl (.int d1), .inl (.int d2), .inl (.int d3), .inl (.int d4), .inl (.int d5), .inl (.int d6), .inl (.int x7), .inl (.int x8)] [.inl (.int s0)] P (f_175_119 x7 x8 s0 P) := by
  intro x7 x8 s0 d1 d2 d3 d4 d5 d6 P
  unfold f_175_119
  refine tr_nil (rows2 := kb_175_119) rfl (List.cons_ne_nil _ _) ?_
  refine tr_blk 1 (pc' := 121) (rows' := kb_175_119.drop 1) (loc' := [.inr (11, 0, 0, 0), .inl (.int d1), .inl (.int d2), .inl (.int d3), .inl (.int d4), .inl (.int d5), .inl (.int d6), .inl (.int x7), .inl (.int x8)]) (st' := [.inl (.int x7), .inl (.int s0)]) (P1 := P) rfl ⟨trivial, trivial⟩ ?_
  refine tr_if (fun h6 => ?_) (fun h6 => ?_)
  · refine tr_ifT (cd := .eq) h6 ?_
    refine tr_nil (rows2 := kb_175_129) rfl (List.cons_ne_nil _ _) ?_
    refine tr_blk 1 (pc' := 130) (rows' := kb_175_129.drop 1) (loc' := [.inr (11, 0, 0, 0), .inl (.int d1), .inl (.int d2), .inl (.int d3), .inl (.int d4), .inl (.int d5), .inl (.int d6), .inl (.int x7), .inl (.int x8)]) (st' := [.inl (.int (0 : Int32)), .inl (.int s0)]) (P1 := P) rfl ⟨trivial, trivial⟩ ?_
    refine tr_nil (rows2 := kb_175_130) rfl (List.cons_ne_nil _ _) ?_
    refine tr_blk 2 (pc' := 133) (rows' := kb_175_130.drop 2) (loc' := [.inr (11, 0, 0, 0), .inl (.int d1), .inl (.int d2), .inl (.int d3), .inl (.int d4), .inl (.int d5), .inl (.int d6), .inl (.int x7), .inl (.int x8)]) (st' := [.inl (.int x8), .inl (.int (s0 + (0 : Int32)))]) (P1 := P) rfl ⟨trivial, trivial, trivial⟩ ?_
    refine tr_if (fun h7 => ?_) (fun h7 => ?_)
    · refine tr_ifT (cd := .eq) h7 ?_
      refine tr_nil (rows2 := kb_175_141) rfl (List.cons_ne_nil _ _) ?_
      refine tr_blk 1 (pc' := 142) (rows' := kb_175_141.drop 1) (loc' := [.inr (11, 0, 0, 0), .inl (.int d1), .inl (.int d2), .inl (.int d3), .inl (.int d4), .inl (.int d5), .inl (.int d6), .inl (.int x7), .inl (.int x8)]) (st' := [.inl (.int (0 : Int32)), .inl (.int (s0 + (0 : Int32)))]) (P1 := P) rfl ⟨trivial, trivial⟩ ?_
      refine tr_nil (rows2 := kb_175_142) rfl (List.cons_ne_nil _ _) ?_
      refine tr_blk 1 (pc' := 143) (rows' := kb_175_142.drop 1) (loc' := [.inr (11, 0, 0, 0), .inl (.int d1), .inl (.int d2), .inl (.int d3), .inl (.int d4), .inl (.int d5), .inl (.int d6), .inl (.int x7), .inl (.int x8)]) (st' := [.inl (.int ((s0 + (0 : Int32)) + (0 : Int32)))]) (P1 := P) rfl ⟨trivial, trivial⟩ ?_
      exact tr_reI (z := km_175) rfl ⟨_, rfl, rfl⟩ rfl
    · refine tr_ifF (cd := .eq) h7 ?_
      refine tr_blk 1 (pc' := 138) (rows' := kb_175_130.drop 4) (loc' := [.inr (11, 0, 0, 0), .inl (.int d1), .inl (.int d2), .inl (.int d3), .inl (.int d4), .inl (.int d5), .inl (.int d6), .inl (.int x7), .inl (.int x8)]) (st' := [.inl (.int (8 : Int32)), .inl (.int (s0 + (0 : Int32)))]) (P1 := P) rfl ⟨trivial, trivial⟩ ?_
      refine tr_goto ?_
      refine tr_nil (rows2 := kb_175_142) rfl (List.cons_ne_nil _ _) ?_
      refine tr_blk 1 (pc' := 143) (rows' := kb_175_142.drop 1) (loc' := [.inr (11, 0, 0, 0), .inl (.int d1), .inl (.int d2), .inl (.int d3), .inl (.int d4), .inl (.int d5), .inl (.int d6), .inl (.int x7), .inl (.int x8)]) (st' := [.inl (.int ((s0 + (0 : Int32)) + (8 : Int32)))]) (P1 := P) rfl ⟨trivial, trivial⟩ ?_
      exact tr_reI (z := km_175) rfl ⟨_, rfl, rfl⟩ rfl
  · refine tr_ifF (cd := .eq) h6 ?_
    refine tr_blk 1 (pc' := 126) (rows' := kb_175_119.drop 3) (loc' := [.inr (11, 0, 0, 0), .inl (.int d1), .inl (.int d2), .inl (.int d3), .inl (.int d4), .inl (.int d5), .inl (.int d6), .inl (.int x7), .inl (.int x8)]) (st' := [.inl (.int (6 : Int32)), .inl (.int s0)]) (P1 := P) rfl ⟨trivial, trivial⟩ ?_
    refine tr_goto ?_
    refine tr_nil (rows2 := kb_175_130) rfl (List.cons_ne_nil _ _) ?_
    refine tr_blk 2 (pc' := 133) (rows' := kb_175_130.drop 2) (loc' := [.inr (11, 0, 0, 0), .inl (.int d1), .inl (.int d2), .inl (.int d3), .inl (.int d4), .inl (.int d5), .inl (.int d6), .inl (.int x7), .inl (.int x8)]) (st' := [.inl (.int x8), .inl (.int (s0 + (6 : Int32)))]) (P1 := P) rfl ⟨trivial, trivial, trivial⟩ ?_
    refine tr_if (fun h8 => ?_) (fun h8 => ?_)
    · refine tr_ifT (cd := .eq) h8 ?_
      refine tr_nil (rows2 := kb_175_141) rfl (List.cons_ne_nil _ _) ?_
      refine tr_blk 1 (pc' := 142) (rows' := kb_175_141.drop 1) (loc' := [.inr (11, 0, 0, 0), .inl (.int d1), .inl (.int d2), .inl (.int d3), .inl (.int d4), .inl (.int d5), .inl (.int d6), .inl (.int x7), .inl (.int x8)]) (st' := [.inl (.int (0 : Int32)), .inl (.int (s0 + (6 : Int32)))]) (P1 := P) rfl ⟨trivial, trivial⟩ ?_
      refine tr_nil (rows2 := kb_175_142) rfl (List.cons_ne_nil _ _) ?_
      refine tr_blk 1 (pc' := 143) (rows' := kb_175_142.drop 1) (loc' := [.inr (11, 0, 0, 0), .inl (.int d1), .inl (.int d2), .inl (.int d3), .inl (.int d4), .inl (.int d5), .inl (.int d6), .inl (.int x7), .inl (.int x8)]) (st' := [.inl (.int ((s0 + (6 : Int32)) + (0 : Int32)))]) (P1 := P) rfl ⟨trivial, trivial⟩ ?_
      exact tr_reI (z := km_175) rfl ⟨_, rfl, rfl⟩ rfl
    · refine tr_ifF (cd := .eq) h8 ?_
      refine tr_blk 1 (pc' := 138) (rows' := kb_175_130.drop 4) (loc' := [.inr (11, 0, 0, 0), .inl (.int d1), .inl (.int d2), .inl (.int d3), .inl (.int d4), .inl (.int d5), .inl (.int d6), .inl (.int x7), .inl (.int x8)]) (st' := [.inl (.int (8 : Int32)), .inl (.int (s0 + (6 : Int32)))]) (P1 := P) rfl ⟨trivial, trivial⟩ ?_
      refine tr_goto ?_
      refine tr_nil (rows2 := kb_175_142) rfl (List.cons_ne_nil _ _) ?_
      refine tr_blk 1 (pc' := 143) (rows' := kb_175_142.drop 1) (loc' := [.inr (11, 0, 0, 0), .inl (.int d1), .inl (.int d2), .inl (.int d3), .inl (.int d4), .inl (.int d5), .inl (.int d6), .inl (.int x7), .inl (.int x8)]) (st' := [.inl (.int ((s0 + (6 : Int32)) + (8 : Int32)))]) (P1 := P) rfl ⟨trivial, trivial⟩ ?_
      exact tr_reI (z := km_175) rfl ⟨_, rfl, rfl⟩ rfl
def f_175_107 (x5 : Int32) (x7 : Int32) (s0 : Int32) (P : ab_P) : Option ((Int32 ⊕ Fin 3) × ab_P) :=
    if x5 = (0 : Int32) then
      f_175_119 x7 s0 (0 : Int32) P
    else
    f_175_119 x7 s0 (1 : Int32) P
theorem t_175_107 {xs : Nat × (Nat → Int32)} {d : Nat} : ∀ (x5 : Int32) (x7 : Int32) (s0 : Int32) (d1 : Int32) (d2 : Int32) (d3 : Int32) (d4 : Int32) (d6 : Int32) (P : ab_P), ab_tr xs xI (d + 1) 175 107 [] [.inr (11, 0, 0, 0), .inl (.int d1), .inl (.int d2), .inl (.int d3), .inl (.int d4), .inl (.int x5), .inl (.int d6), .inl (.int x7), ab_top] [.inl (.int s0)] P (f_175_107 x5 x7 s0 P) := by
  intro x5 x7 s0 d1 d2 d3 d4 d6 P
  unfold f_175_107
  refine tr_nil (rows2 := kb_175_107) rfl (List.cons_ne_nil _ _) ?_
  refine tr_blk 2 (pc' := 111) (rows' := kb_175_107.drop 2) (loc' := [.inr (11, 0, 0, 0), .inl (.int d1), .inl (.int d2), .inl (.int d3), .inl (.int d4), .inl (.int x5), .inl (.int d6), .inl (.int x7), .inl (.int s0)]) (st' := [.inl (.int x5)]) (P1 := P) rfl ⟨trivial, trivial, trivial⟩ ?_
  refine tr_if (fun h9 => ?_) (fun h9 => ?_)
  · refine tr_ifT (cd := .eq) h9 ?_
    refine tr_nil (rows2 := kb_175_118) rfl (List.cons_ne_nil _ _) ?_
    refine tr_blk 1 (pc' := 119) (rows' := kb_175_118.drop 1) (loc' := [.inr (11, 0, 0, 0), .inl (.int d1), .inl (.int d2), .inl (.int d3), .inl (.int d4), .inl (.int x5), .inl (.int d6), .inl (.int x7), .inl (.int s0)]) (st' := [.inl (.int (0 : Int32))]) (P1 := P) rfl ⟨trivial, trivial⟩ ?_
    exact t_175_119 x7 s0 (0 : Int32) (d1) (d2) (d3) (d4) (x5) (d6) P
  · refine tr_ifF (cd := .eq) h9 ?_
    refine tr_blk 1 (pc' := 115) (rows' := kb_175_107.drop 4) (loc' := [.inr (11, 0, 0, 0), .inl (.int d1), .inl (.int d2), .inl (.int d3), .inl (.int d4), .inl (.int x5), .inl (.int d6), .inl (.int x7), .inl (.int s0)]) (st' := [.inl (.int (1 : Int32))]) (P1 := P) rfl ⟨trivial, trivial⟩ ?_
    refine tr_goto ?_
    exact t_175_119 x7 s0 (1 : Int32) (d1) (d2) (d3) (d4) (x5) (d6) P
def f_175_94 (x2 : Int32) (x4 : Int32) (x5 : Int32) (s0 : Int32) (P : ab_P) : Option ((Int32 ⊕ Fin 3) × ab_P) :=
    if x4 < x2 then
      f_175_107 x5 s0 (0 : Int32) P
    else
    f_175_107 x5 s0 (1 : Int32) P
theorem t_175_94 {xs : Nat × (Nat → Int32)} {d : Nat} : ∀ (x2 : Int32) (x4 : Int32) (x5 : Int32) (s0 : Int32) (d1 : Int32) (d3 : Int32) (d6 : Int32) (P : ab_P), ab_tr xs xI (d + 1) 175 94 [] [.inr (11, 0, 0, 0), .inl (.int d1), .inl (.int x2), .inl (.int d3), .inl (.int x4), .inl (.int x5), .inl (.int d6), ab_top, ab_top] [.inl (.int s0)] P (f_175_94 x2 x4 x5 s0 P) := by
  intro x2 x4 x5 s0 d1 d3 d6 P
  unfold f_175_94
  refine tr_nil (rows2 := kb_175_94) rfl (List.cons_ne_nil _ _) ?_
  refine tr_blk 3 (pc' := 99) (rows' := kb_175_94.drop 3) (loc' := [.inr (11, 0, 0, 0), .inl (.int d1), .inl (.int x2), .inl (.int d3), .inl (.int x4), .inl (.int x5), .inl (.int d6), .inl (.int s0), ab_top]) (st' := [.inl (.int x2), .inl (.int x4)]) (P1 := P) rfl ⟨trivial, trivial, trivial, trivial⟩ ?_
  refine tr_if (fun h10 => ?_) (fun h10 => ?_)
  · refine tr_icT (cd := .lt) h10 ?_
    refine tr_nil (rows2 := kb_175_106) rfl (List.cons_ne_nil _ _) ?_
    refine tr_blk 1 (pc' := 107) (rows' := kb_175_106.drop 1) (loc' := [.inr (11, 0, 0, 0), .inl (.int d1), .inl (.int x2), .inl (.int d3), .inl (.int x4), .inl (.int x5), .inl (.int d6), .inl (.int s0), ab_top]) (st' := [.inl (.int (0 : Int32))]) (P1 := P) rfl ⟨trivial, trivial⟩ ?_
    exact t_175_107 x5 s0 (0 : Int32) (d1) (x2) (d3) (x4) (d6) P
  · refine tr_icF (cd := .lt) h10 ?_
    refine tr_blk 1 (pc' := 103) (rows' := kb_175_94.drop 5) (loc' := [.inr (11, 0, 0, 0), .inl (.int d1), .inl (.int x2), .inl (.int d3), .inl (.int x4), .inl (.int x5), .inl (.int d6), .inl (.int s0), ab_top]) (st' := [.inl (.int (1 : Int32))]) (P1 := P) rfl ⟨trivial, trivial⟩ ?_
    refine tr_goto ?_
    exact t_175_107 x5 s0 (1 : Int32) (d1) (x2) (d3) (x4) (d6) P
def f_175_64 (x1 : Int32) (x2 : Int32) (x3 : Int32) (x4 : Int32) (s0 : Int32) (P : ab_P) : Option ((Int32 ⊕ Fin 3) × ab_P) :=
    if x2 < x4 then
      f_175_94 x2 x4 s0 (0 : Int32) P
    else
    if x3 < x1 then
      f_175_94 x2 x4 s0 (0 : Int32) P
    else
    f_175_94 x2 x4 s0 (1 : Int32) P
theorem t_175_64 {xs : Nat × (Nat → Int32)} {d : Nat} : ∀ (x1 : Int32) (x2 : Int32) (x3 : Int32) (x4 : Int32) (s0 : Int32) (P : ab_P), ab_tr xs xI (d + 1) 175 64 [] [.inr (11, 0, 0, 0), .inl (.int x1), .inl (.int x2), .inl (.int x3), .inl (.int x4), ab_top, ab_top, ab_top, ab_top] [.inl (.int s0)] P (f_175_64 x1 x2 x3 x4 s0 P) := by
  intro x1 x2 x3 x4 s0 P
  unfold f_175_64
  refine tr_nil (rows2 := kb_175_64) rfl (List.cons_ne_nil _ _) ?_
  refine tr_blk 3 (pc' := 69) (rows' := kb_175_64.drop 3) (loc' := [.inr (11, 0, 0, 0), .inl (.int x1), .inl (.int x2), .inl (.int x3), .inl (.int x4), .inl (.int s0), ab_top, ab_top, ab_top]) (st' := [.inl (.int x4), .inl (.int x2)]) (P1 := P) rfl ⟨trivial, trivial, trivial, trivial⟩ ?_
  refine tr_if (fun h11 => ?_) (fun h11 => ?_)
  · refine tr_icT (cd := .lt) h11 ?_
    refine tr_nil (rows2 := kb_175_76) rfl (List.cons_ne_nil _ _) ?_
    refine tr_blk 1 (pc' := 77) (rows' := kb_175_76.drop 1) (loc' := [.inr (11, 0, 0, 0), .inl (.int x1), .inl (.int x2), .inl (.int x3), .inl (.int x4), .inl (.int s0), ab_top, ab_top, ab_top]) (st' := [.inl (.int (0 : Int32))]) (P1 := P) rfl ⟨trivial, trivial⟩ ?_
    refine tr_nil (rows2 := kb_175_77) rfl (List.cons_ne_nil _ _) ?_
    refine tr_blk 2 (pc' := 81) (rows' := kb_175_77.drop 2) (loc' := [.inr (11, 0, 0, 0), .inl (.int x1), .inl (.int x2), .inl (.int x3), .inl (.int x4), .inl (.int s0), .inl (.int (0 : Int32)), ab_top, ab_top]) (st' := [.inl (.int (0 : Int32))]) (P1 := P) rfl ⟨trivial, trivial, trivial⟩ ?_
    refine tr_ifT (cd := .eq) (ab_cdT (by decide)) ?_
    refine tr_nil (rows2 := kb_175_93) rfl (List.cons_ne_nil _ _) ?_
    refine tr_blk 1 (pc' := 94) (rows' := kb_175_93.drop 1) (loc' := [.inr (11, 0, 0, 0), .inl (.int x1), .inl (.int x2), .inl (.int x3), .inl (.int x4), .inl (.int s0), .inl (.int (0 : Int32)), ab_top, ab_top]) (st' := [.inl (.int (0 : Int32))]) (P1 := P) rfl ⟨trivial, trivial⟩ ?_
    exact t_175_94 x2 x4 s0 (0 : Int32) (x1) (x3) ((0 : Int32)) P
  · refine tr_icF (cd := .lt) h11 ?_
    refine tr_blk 1 (pc' := 73) (rows' := kb_175_64.drop 5) (loc' := [.inr (11, 0, 0, 0), .inl (.int x1), .inl (.int x2), .inl (.int x3), .inl (.int x4), .inl (.int s0), ab_top, ab_top, ab_top]) (st' := [.inl (.int (1 : Int32))]) (P1 := P) rfl ⟨trivial, trivial⟩ ?_
    refine tr_goto ?_
    refine tr_nil (rows2 := kb_175_77) rfl (List.cons_ne_nil _ _) ?_
    refine tr_blk 2 (pc' := 81) (rows' := kb_175_77.drop 2) (loc' := [.inr (11, 0, 0, 0), .inl (.int x1), .inl (.int x2), .inl (.int x3), .inl (.int x4), .inl (.int s0), .inl (.int (1 : Int32)), ab_top, ab_top]) (st' := [.inl (.int (1 : Int32))]) (P1 := P) rfl ⟨trivial, trivial, trivial⟩ ?_
    refine tr_ifF (cd := .eq) (ab_cdF (by decide)) ?_
    refine tr_blk 2 (pc' := 86) (rows' := kb_175_77.drop 5) (loc' := [.inr (11, 0, 0, 0), .inl (.int x1), .inl (.int x2), .inl (.int x3), .inl (.int x4), .inl (.int s0), .inl (.int (1 : Int32)), ab_top, ab_top]) (st' := [.inl (.int x1), .inl (.int x3)]) (P1 := P) rfl ⟨trivial, trivial, trivial⟩ ?_
    refine tr_if (fun h12 => ?_) (fun h12 => ?_)
    · refine tr_icT (cd := .lt) h12 ?_
      refine tr_nil (rows2 := kb_175_93) rfl (List.cons_ne_nil _ _) ?_
      refine tr_blk 1 (pc' := 94) (rows' := kb_175_93.drop 1) (loc' := [.inr (11, 0, 0, 0), .inl (.int x1), .inl (.int x2), .inl (.int x3), .inl (.int x4), .inl (.int s0), .inl (.int (1 : Int32)), ab_top, ab_top]) (st' := [.inl (.int (0 : Int32))]) (P1 := P) rfl ⟨trivial, trivial⟩ ?_
      exact t_175_94 x2 x4 s0 (0 : Int32) (x1) (x3) ((1 : Int32)) P
    · refine tr_icF (cd := .lt) h12 ?_
      refine tr_blk 1 (pc' := 90) (rows' := kb_175_77.drop 7) (loc' := [.inr (11, 0, 0, 0), .inl (.int x1), .inl (.int x2), .inl (.int x3), .inl (.int x4), .inl (.int s0), .inl (.int (1 : Int32)), ab_top, ab_top]) (st' := [.inl (.int (1 : Int32))]) (P1 := P) rfl ⟨trivial, trivial⟩ ?_
      refine tr_goto ?_
      exact t_175_94 x2 x4 s0 (1 : Int32) (x1) (x3) ((1 : Int32)) P
def f_175_51 (x1 : Int32) (x2 : Int32) (x3 : Int32) (x4 : Int32) (s0 : Int32) (P : ab_P) : Option ((Int32 ⊕ Fin 3) × ab_P) :=
    ab_x2 (f_228 s0 P) (fun _ P5 =>
    if x1 < x3 then
      f_175_64 x1 x2 x3 x4 (0 : Int32) P5
    else
    f_175_64 x1 x2 x3 x4 (1 : Int32) P5) (fun q => q)
theorem t_175_51 {xs : Nat × (Nat → Int32)} {d : Nat} : ∀ (x1 : Int32) (x2 : Int32) (x3 : Int32) (x4 : Int32) (s0 : Int32) (P : ab_P), ab_tr xs xI (d + 1) 175 51 [] [.inr (11, 0, 0, 0), .inl (.int x1), .inl (.int x2), .inl (.int x3), .inl (.int x4), ab_top, ab_top, ab_top, ab_top] [.inl (.int s0), .inr (11, 0, 0, 0)] P (f_175_51 x1 x2 x3 x4 s0 P) := by
  intro x1 x2 x3 x4 s0 P
  unfold f_175_51
  refine tr_nil (rows2 := kb_175_51) rfl (List.cons_ne_nil _ _) ?_
  refine tr_cax (fun _ => none) (zi := km_175) (fun _ => rfl) (fun _ _ => rfl) rfl rfl (z := km_228) (av := [.inr (11, 0, 0, 0), .inl (.int s0)]) (st' := []) rfl rfl rfl (Nat.le_of_ble_eq_true rfl) ⟨rfl, Or.inl (by decide)⟩ rfl (Nat.le_of_ble_eq_true rfl) (t_228 s0 P) (fun _ P5 => ?_)
  refine tr_blk 2 (pc' := 56) (rows' := kb_175_51.drop 3) (loc' := [.inr (11, 0, 0, 0), .inl (.int x1), .inl (.int x2), .inl (.int x3), .inl (.int x4), ab_top, ab_top, ab_top, ab_top]) (st' := [.inl (.int x3), .inl (.int x1)]) (P1 := P5) rfl ⟨trivial, trivial, trivial⟩ ?_
  refine tr_if (fun h13 => ?_) (fun h13 => ?_)
  · refine tr_icT (cd := .lt) h13 ?_
    refine tr_nil (rows2 := kb_175_63) rfl (List.cons_ne_nil _ _) ?_
    refine tr_blk 1 (pc' := 64) (rows' := kb_175_63.drop 1) (loc' := [.inr (11, 0, 0, 0), .inl (.int x1), .inl (.int x2), .inl (.int x3), .inl (.int x4), ab_top, ab_top, ab_top, ab_top]) (st' := [.inl (.int (0 : Int32))]) (P1 := P5) rfl ⟨trivial, trivial⟩ ?_
    exact t_175_64 x1 x2 x3 x4 (0 : Int32) P5
  · refine tr_icF (cd := .lt) h13 ?_
    refine tr_blk 1 (pc' := 60) (rows' := kb_175_51.drop 5) (loc' := [.inr (11, 0, 0, 0), .inl (.int x1), .inl (.int x2), .inl (.int x3), .inl (.int x4), ab_top, ab_top, ab_top, ab_top]) (st' := [.inl (.int (1 : Int32))]) (P1 := P5) rfl ⟨trivial, trivial⟩ ?_
    refine tr_goto ?_
    exact t_175_64 x1 x2 x3 x4 (1 : Int32) P5
def f_175 (a1 : Int32) (a2 : Int32) (a3 : Int32) (a4 : Int32) (P : ab_P) : Option ((Int32 ⊕ Fin 3) × ab_P) :=
    Option.bind (f_240 P a1 (-99 : Int32) (99 : Int32)) fun v1 =>
    if v1 = (0 : Int32) then
      f_175_51 a1 a2 a3 a4 (0 : Int32) P
    else
    Option.bind (f_240 P a2 (-99 : Int32) (99 : Int32)) fun v2 =>
    if v2 = (0 : Int32) then
      f_175_51 a1 a2 a3 a4 (0 : Int32) P
    else
    Option.bind (f_240 P a3 (-99 : Int32) (99 : Int32)) fun v3 =>
    if v3 = (0 : Int32) then
      f_175_51 a1 a2 a3 a4 (0 : Int32) P
    else
    Option.bind (f_240 P a4 (-99 : Int32) (99 : Int32)) fun v4 =>
    if v4 = (0 : Int32) then
      f_175_51 a1 a2 a3 a4 (0 : Int32) P
    else
    f_175_51 a1 a2 a3 a4 (1 : Int32) P
theorem t_175 {xs : Nat × (Nat → Int32)} {d : Nat} : ∀ (a1 : Int32) (a2 : Int32) (a3 : Int32) (a4 : Int32) (P : ab_P), ab_tr xs xI (d + 1) 175 0 [] [.inr (11, 0, 0, 0), .inl (.int a1), .inl (.int a2), .inl (.int a3), .inl (.int a4), ab_top, ab_top, ab_top, ab_top] [] P (f_175 a1 a2 a3 a4 P) := by
  intro a1 a2 a3 a4 P
  unfold f_175
  refine tr_nil (rows2 := kb_175_0) rfl (List.cons_ne_nil _ _) ?_
  refine tr_blk 4 (pc' := 6) (rows' := kb_175_0.drop 4) (loc' := [.inr (11, 0, 0, 0), .inl (.int a1), .inl (.int a2), .inl (.int a3), .inl (.int a4), ab_top, ab_top, ab_top, ab_top]) (st' := [.inl (.int (99 : Int32)), .inl (.int (-99 : Int32)), .inl (.int a1), .inr (11, 0, 0, 0)]) (P1 := P) rfl ⟨trivial, trivial, trivial, trivial, trivial⟩ ?_
  refine tr_cRI (z := km_240) (av := [.inl (.int a1), .inl (.int (-99 : Int32)), .inl (.int (99 : Int32))]) (st' := [.inr (11, 0, 0, 0)]) rfl rfl rfl (Nat.le_of_ble_eq_true rfl) trivial rfl (Nat.le_of_ble_eq_true rfl) (t_240 P a1 (-99 : Int32) (99 : Int32)) (fun v1 => ?_)
  refine tr_if (fun h14 => ?_) (fun h14 => ?_)
  · refine tr_ifT (cd := .eq) h14 ?_
    refine tr_nil (rows2 := kb_175_50) rfl (List.cons_ne_nil _ _) ?_
    refine tr_blk 1 (pc' := 51) (rows' := kb_175_50.drop 1) (loc' := [.inr (11, 0, 0, 0), .inl (.int a1), .inl (.int a2), .inl (.int a3), .inl (.int a4), ab_top, ab_top, ab_top, ab_top]) (st' := [.inl (.int (0 : Int32)), .inr (11, 0, 0, 0)]) (P1 := P) rfl ⟨trivial, trivial⟩ ?_
    exact t_175_51 a1 a2 a3 a4 (0 : Int32) P
  · refine tr_ifF (cd := .eq) h14 ?_
    refine tr_blk 3 (pc' := 17) (rows' := kb_175_0.drop 9) (loc' := [.inr (11, 0, 0, 0), .inl (.int a1), .inl (.int a2), .inl (.int a3), .inl (.int a4), ab_top, ab_top, ab_top, ab_top]) (st' := [.inl (.int (99 : Int32)), .inl (.int (-99 : Int32)), .inl (.int a2), .inr (11, 0, 0, 0)]) (P1 := P) rfl ⟨trivial, trivial, trivial, trivial⟩ ?_
    refine tr_cRI (z := km_240) (av := [.inl (.int a2), .inl (.int (-99 : Int32)), .inl (.int (99 : Int32))]) (st' := [.inr (11, 0, 0, 0)]) rfl rfl rfl (Nat.le_of_ble_eq_true rfl) trivial rfl (Nat.le_of_ble_eq_true rfl) (t_240 P a2 (-99 : Int32) (99 : Int32)) (fun v2 => ?_)
    refine tr_if (fun h15 => ?_) (fun h15 => ?_)
    · refine tr_ifT (cd := .eq) h15 ?_
      refine tr_nil (rows2 := kb_175_50) rfl (List.cons_ne_nil _ _) ?_
      refine tr_blk 1 (pc' := 51) (rows' := kb_175_50.drop 1) (loc' := [.inr (11, 0, 0, 0), .inl (.int a1), .inl (.int a2), .inl (.int a3), .inl (.int a4), ab_top, ab_top, ab_top, ab_top]) (st' := [.inl (.int (0 : Int32)), .inr (11, 0, 0, 0)]) (P1 := P) rfl ⟨trivial, trivial⟩ ?_
      exact t_175_51 a1 a2 a3 a4 (0 : Int32) P
    · refine tr_ifF (cd := .eq) h15 ?_
      refine tr_blk 3 (pc' := 28) (rows' := kb_175_0.drop 14) (loc' := [.inr (11, 0, 0, 0), .inl (.int a1), .inl (.int a2), .inl (.int a3), .inl (.int a4), ab_top, ab_top, ab_top, ab_top]) (st' := [.inl (.int (99 : Int32)), .inl (.int (-99 : Int32)), .inl (.int a3), .inr (11, 0, 0, 0)]) (P1 := P) rfl ⟨trivial, trivial, trivial, trivial⟩ ?_
      refine tr_cRI (z := km_240) (av := [.inl (.int a3), .inl (.int (-99 : Int32)), .inl (.int (99 : Int32))]) (st' := [.inr (11, 0, 0, 0)]) rfl rfl rfl (Nat.le_of_ble_eq_true rfl) trivial rfl (Nat.le_of_ble_eq_true rfl) (t_240 P a3 (-99 : Int32) (99 : Int32)) (fun v3 => ?_)
      refine tr_if (fun h16 => ?_) (fun h16 => ?_)
      · refine tr_ifT (cd := .eq) h16 ?_
        refine tr_nil (rows2 := kb_175_50) rfl (List.cons_ne_nil _ _) ?_
        refine tr_blk 1 (pc' := 51) (rows' := kb_175_50.drop 1) (loc' := [.inr (11, 0, 0, 0), .inl (.int a1), .inl (.int a2), .inl (.int a3), .inl (.int a4), ab_top, ab_top, ab_top, ab_top]) (st' := [.inl (.int (0 : Int32)), .inr (11, 0, 0, 0)]) (P1 := P) rfl ⟨trivial, trivial⟩ ?_
        exact t_175_51 a1 a2 a3 a4 (0 : Int32) P
      · refine tr_ifF (cd := .eq) h16 ?_
        refine tr_blk 3 (pc' := 40) (rows' := kb_175_0.drop 19) (loc' := [.inr (11, 0, 0, 0), .inl (.int a1), .inl (.int a2), .inl (.int a3), .inl (.int a4), ab_top, ab_top, ab_top, ab_top]) (st' := [.inl (.int (99 : Int32)), .inl (.int (-99 : Int32)), .inl (.int a4), .inr (11, 0, 0, 0)]) (P1 := P) rfl ⟨trivial, trivial, trivial, trivial⟩ ?_
        refine tr_cRI (z := km_240) (av := [.inl (.int a4), .inl (.int (-99 : Int32)), .inl (.int (99 : Int32))]) (st' := [.inr (11, 0, 0, 0)]) rfl rfl rfl (Nat.le_of_ble_eq_true rfl) trivial rfl (Nat.le_of_ble_eq_true rfl) (t_240 P a4 (-99 : Int32) (99 : Int32)) (fun v4 => ?_)
        refine tr_if (fun h17 => ?_) (fun h17 => ?_)
        · refine tr_ifT (cd := .eq) h17 ?_
          refine tr_nil (rows2 := kb_175_50) rfl (List.cons_ne_nil _ _) ?_
          refine tr_blk 1 (pc' := 51) (rows' := kb_175_50.drop 1) (loc' := [.inr (11, 0, 0, 0), .inl (.int a1), .inl (.int a2), .inl (.int a3), .inl (.int a4), ab_top, ab_top, ab_top, ab_top]) (st' := [.inl (.int (0 : Int32)), .inr (11, 0, 0, 0)]) (P1 := P) rfl ⟨trivial, trivial⟩ ?_
          exact t_175_51 a1 a2 a3 a4 (0 : Int32) P
        · refine tr_ifF (cd := .eq) h17 ?_
          refine tr_blk 1 (pc' := 47) (rows' := kb_175_0.drop 22) (loc' := [.inr (11, 0, 0, 0), .inl (.int a1), .inl (.int a2), .inl (.int a3), .inl (.int a4), ab_top, ab_top, ab_top, ab_top]) (st' := [.inl (.int (1 : Int32)), .inr (11, 0, 0, 0)]) (P1 := P) rfl ⟨trivial, trivial⟩ ?_
          refine tr_goto ?_
          exact t_175_51 a1 a2 a3 a4 (1 : Int32) P
def f_64_1 (a1 : Int32) (a2 : Int32) (a3 : Int32) (a4 : Int32) (P : ab_P) : Option (Int32 × ab_P) :=
    ab_h2 (f_175 a1 a2 a3 a4 P) (fun v2 P1 =>
    ab_lt (ab_pL P1 570 0 (v2).toInt64) fun P3 =>
    some ((0 : Int32), P3))
    (fun _ => none) (fun P9 => some ((1 : Int32), P9)) (fun _ => none)
theorem t_64_1 {xs : Nat × (Nat → Int32)} {d : Nat} : ∀ (a1 : Int32) (a2 : Int32) (a3 : Int32) (a4 : Int32) (P : ab_P), ab_tr xs wI (d + 2) 64 0 [] [.inr (11, 0, 0, 0), .inl (.int a1), .inl (.int a2), .inl (.int a3), .inl (.int a4), .inr (22, 1, 0, 570), ab_top] [] P (f_64_1 a1 a2 a3 a4 P) := by
  intro a1 a2 a3 a4 P
  unfold f_64_1
  refine tr_nil (rows2 := kb_64_0) rfl (List.cons_ne_nil _ _) ?_
  refine tr_blk 7 (pc' := 9) (rows' := kb_64_0.drop 7) (loc' := [.inr (11, 0, 0, 0), .inl (.int a1), .inl (.int a2), .inl (.int a3), .inl (.int a4), .inr (22, 1, 0, 570), ab_top]) (st' := [.inl (.int a4), .inl (.int a3), .inl (.int a2), .inl (.int a1), .inr (11, 0, 0, 0), .inl (.int (0 : Int32)), .inr (22, 1, 0, 570)]) (P1 := P) rfl ⟨trivial, trivial, trivial, trivial, trivial, trivial, trivial, trivial⟩ ?_
  refine tr_cah (fun b => some (.inl (.int b))) (zi := km_64) (fun _ => rfl) rfl (z := km_175) (av := [.inr (11, 0, 0, 0), .inl (.int a1), .inl (.int a2), .inl (.int a3), .inl (.int a4)]) (st' := [.inl (.int (0 : Int32)), .inr (22, 1, 0, 570)]) rfl rfl rfl (Nat.le_of_ble_eq_true rfl) ⟨rfl, Or.inl (by decide)⟩ rfl (Nat.le_of_ble_eq_true rfl) (t_175 a1 a2 a3 a4 P) (fun v2 P1 => ?_) ?_ ?_ ?_
  · refine tr_blk 2 (pc' := 14) (rows' := kb_64_0.drop 10) (loc' := [.inr (11, 0, 0, 0), .inl (.int a1), .inl (.int a2), .inl (.int a3), .inl (.int a4), .inr (22, 1, 0, 570), ab_top]) (st' := []) (P1 := (ab_pL P1 570 0 (v2).toInt64)) rfl ⟨trivial, (ab_vi (by decide)), trivial⟩ ?_
    refine tr_lt (fun P3 => ?_)
    refine tr_goto ?_
    refine tr_nil (rows2 := kb_64_21) rfl (List.cons_ne_nil _ _) ?_
    refine tr_blk 1 (pc' := 22) (rows' := kb_64_21.drop 1) (loc' := [.inr (11, 0, 0, 0), .inl (.int a1), .inl (.int a2), .inl (.int a3), .inl (.int a4), .inr (22, 1, 0, 570), ab_top]) (st' := [.inl (.int (0 : Int32))]) (P1 := P3) rfl ⟨trivial, trivial⟩ ?_
    exact tr_reI (z := km_64) rfl ⟨_, rfl, rfl⟩ rfl
  · exact fun _ => rfl
  · exact fun _ => tr_han (rows2 := kb_64_17) (z := km_64) _ (fun q => [.inr (11, 0, 0, 0), .inl (.int a1), .inl (.int a2), .inl (.int a3), .inl (.int a4), .inr (22, 1, 0, 570), .inr (40, 1, 0, q)]) rfl (List.cons_ne_nil _ _) (fun q => rfl) ⟨trivial, trivial, trivial⟩ rfl ⟨_, rfl, rfl⟩ rfl
  · exact fun _ => rfl
def f_65_110 (H101 : Int32 → Int32 → ab_P → Option (Int32 × ab_P)) : Nat → Int32 → Int32 → Int32 → ab_P → Option (Int32 × ab_P)
  | 0, _, _, _, _ => none
  | n + 1, x5, x6, x7, P =>
    if x7 < (2 : Int32) then
      if ab_gi (((2 : Int32) * x6) + x7) 4 then
      if ab_gi (((2 : Int32) - ((2 : Int32) * x6)) + x7) 4 then
      if (P.1 569 ((((2 : Int32) * x6) + x7)).toNatClampNeg) < (P.1 569 ((((2 : Int32) - ((2 : Int32) * x6)) + x7)).toNatClampNeg) then
        f_65_110 H101 n x5 x6 (x7 + 1) P
      else
      if ab_gi (((2 : Int32) * x7) + x6) 4 then
      if ab_gi (((2 : Int32) - ((2 : Int32) * x7)) + x6) 4 then
      if (P.1 569 ((((2 : Int32) * x7) + x6)).toNatClampNeg) < (P.1 569 ((((2 : Int32) - ((2 : Int32) * x7)) + x6)).toNatClampNeg) then
        f_65_110 H101 n x5 x6 (x7 + 1) P
      else
      f_65_110 H101 n (x5 ||| ((1 : Int32) <<< ((((2 : Int32) * x6) + x7) &&& 31))) x6 (x7 + 1) P
      else none
      else none
      else none
      else none
    else
    H101 x5 (x6 + 1) P
theorem t_65_110 {xs : Nat × (Nat → Int32)} {d : Nat} (H101 : Int32 → Int32 → ab_P → Option (Int32 × ab_P)) (hH101 : ∀ (x5 : Int32) (x6 : Int32) (d1 : Int32) (d2 : Int32) (d3 : Int32) (d4 : Int32) (d7 : ab_V) (P : ab_P), ab_tr xs wI (d + 1) 65 101 [] [.inr (12, 0, 0, 72), .inl (.int d1), .inl (.int d2), .inl (.int d3), .inl (.int d4), .inl (.int x5), .inl (.int x6), d7] [] P (H101 x5 x6 P)) : ∀ n : Nat, ∀ (x5 : Int32) (x6 : Int32) (x7 : Int32) (d1 : Int32) (d2 : Int32) (d3 : Int32) (d4 : Int32) (P : ab_P), ab_tr xs wI (d + 1) 65 110 [] [.inr (12, 0, 0, 72), .inl (.int d1), .inl (.int d2), .inl (.int d3), .inl (.int d4), .inl (.int x5), .inl (.int x6), .inl (.int x7)] [] P (f_65_110 H101 n x5 x6 x7 P) := by
  intro n
  induction n with
  | zero => intro x5 x6 x7 d1 d2 d3 d4 P; exact tr_no
  | succ n ih =>
    intro x5 x6 x7 d1 d2 d3 d4 P
    refine tr_nil (rows2 := kb_65_110) rfl (List.cons_ne_nil _ _) ?_
    refine tr_blk 2 (pc' := 113) (rows' := kb_65_110.drop 2) (loc' := [.inr (12, 0, 0, 72), .inl (.int d1), .inl (.int d2), .inl (.int d3), .inl (.int d4), .inl (.int x5), .inl (.int x6), .inl (.int x7)]) (st' := [.inl (.int (2 : Int32)), .inl (.int x7)]) (P1 := P) rfl ⟨trivial, trivial, trivial⟩ ?_
    refine tr_if (fun h16 => ?_) (fun h16 => ?_)
    · refine tr_icF (cd := .ge) (Int32.not_le.mpr h16) ?_
      refine tr_gd (fun h12 => ?_)
      refine tr_gd (fun h13 => ?_)
      refine tr_blk 18 (pc' := 142) (rows' := kb_65_110.drop 21) (loc' := [.inr (12, 0, 0, 72), .inl (.int d1), .inl (.int d2), .inl (.int d3), .inl (.int d4), .inl (.int x5), .inl (.int x6), .inl (.int x7)]) (st' := [.inl (.int (P.1 569 ((((2 : Int32) - ((2 : Int32) * x6)) + x7)).toNatClampNeg)), .inl (.int (P.1 569 ((((2 : Int32) * x6) + x7)).toNatClampNeg))]) (P1 := P) rfl ⟨trivial, trivial, trivial, trivial, trivial, trivial, trivial, h12, trivial, trivial, trivial, trivial, trivial, trivial, trivial, trivial, trivial, h13, trivial⟩ ?_
      refine tr_if (fun h17 => ?_) (fun h17 => ?_)
      · refine tr_icT (cd := .lt) h17 ?_
        refine tr_nil (rows2 := kb_65_188) rfl (List.cons_ne_nil _ _) ?_
        refine tr_blk 1 (pc' := 191) (rows' := kb_65_188.drop 1) (loc' := [.inr (12, 0, 0, 72), .inl (.int d1), .inl (.int d2), .inl (.int d3), .inl (.int d4), .inl (.int x5), .inl (.int x6), .inl (.int (x7 + 1))]) (st' := []) (P1 := P) rfl ⟨trivial, trivial⟩ ?_
        refine tr_goto ?_
        exact ih x5 x6 (x7 + 1) (d1) (d2) (d3) (d4) P
      · refine tr_icF (cd := .lt) h17 ?_
        refine tr_gd (fun h14 => ?_)
        refine tr_gd (fun h15 => ?_)
        refine tr_blk 18 (pc' := 171) (rows' := kb_65_110.drop 40) (loc' := [.inr (12, 0, 0, 72), .inl (.int d1), .inl (.int d2), .inl (.int d3), .inl (.int d4), .inl (.int x5), .inl (.int x6), .inl (.int x7)]) (st' := [.inl (.int (P.1 569 ((((2 : Int32) - ((2 : Int32) * x7)) + x6)).toNatClampNeg)), .inl (.int (P.1 569 ((((2 : Int32) * x7) + x6)).toNatClampNeg))]) (P1 := P) rfl ⟨trivial, trivial, trivial, trivial, trivial, trivial, trivial, h14, trivial, trivial, trivial, trivial, trivial, trivial, trivial, trivial, trivial, h15, trivial⟩ ?_
        refine tr_if (fun h18 => ?_) (fun h18 => ?_)
        · refine tr_icT (cd := .lt) h18 ?_
          refine tr_nil (rows2 := kb_65_188) rfl (List.cons_ne_nil _ _) ?_
          refine tr_blk 1 (pc' := 191) (rows' := kb_65_188.drop 1) (loc' := [.inr (12, 0, 0, 72), .inl (.int d1), .inl (.int d2), .inl (.int d3), .inl (.int d4), .inl (.int x5), .inl (.int x6), .inl (.int (x7 + 1))]) (st' := []) (P1 := P) rfl ⟨trivial, trivial⟩ ?_
          refine tr_goto ?_
          exact ih x5 x6 (x7 + 1) (d1) (d2) (d3) (d4) P
        · refine tr_icF (cd := .lt) h18 ?_
          refine tr_blk 10 (pc' := 188) (rows' := kb_65_110.drop 51) (loc' := [.inr (12, 0, 0, 72), .inl (.int d1), .inl (.int d2), .inl (.int d3), .inl (.int d4), .inl (.int (x5 ||| ((1 : Int32) <<< ((((2 : Int32) * x6) + x7) &&& 31)))), .inl (.int x6), .inl (.int x7)]) (st' := []) (P1 := P) rfl ⟨trivial, trivial, trivial, trivial, trivial, trivial, trivial, trivial, trivial, trivial, trivial⟩ ?_
          refine tr_nil (rows2 := kb_65_188) rfl (List.cons_ne_nil _ _) ?_
          refine tr_blk 1 (pc' := 191) (rows' := kb_65_188.drop 1) (loc' := [.inr (12, 0, 0, 72), .inl (.int d1), .inl (.int d2), .inl (.int d3), .inl (.int d4), .inl (.int (x5 ||| ((1 : Int32) <<< ((((2 : Int32) * x6) + x7) &&& 31)))), .inl (.int x6), .inl (.int (x7 + 1))]) (st' := []) (P1 := P) rfl ⟨trivial, trivial⟩ ?_
          refine tr_goto ?_
          exact ih (x5 ||| ((1 : Int32) <<< ((((2 : Int32) * x6) + x7) &&& 31))) x6 (x7 + 1) (d1) (d2) (d3) (d4) P
    · refine tr_icT (cd := .ge) (Int32.not_lt.mp h16) ?_
      refine tr_nil (rows2 := kb_65_194) rfl (List.cons_ne_nil _ _) ?_
      refine tr_blk 1 (pc' := 197) (rows' := kb_65_194.drop 1) (loc' := [.inr (12, 0, 0, 72), .inl (.int d1), .inl (.int d2), .inl (.int d3), .inl (.int d4), .inl (.int x5), .inl (.int (x6 + 1)), .inl (.int x7)]) (st' := []) (P1 := P) rfl ⟨trivial, trivial⟩ ?_
      refine tr_goto ?_
      exact hH101 x5 (x6 + 1) (d1) (d2) (d3) (d4) (.inl (.int x7)) P
def f_65_101 (N : Nat) : Nat → Int32 → Int32 → ab_P → Option (Int32 × ab_P)
  | 0, _, _, _ => none
  | n + 1, x5, x6, P =>
    if x6 < (2 : Int32) then
      f_65_110 (fun y0 y1 y2 => f_65_101 N n y0 y1 y2) N x5 x6 (0 : Int32) P
    else
    some (x5, P)
theorem t_65_101 {xs : Nat × (Nat → Int32)} {d : Nat} (N : Nat) : ∀ n : Nat, ∀ (x5 : Int32) (x6 : Int32) (d1 : Int32) (d2 : Int32) (d3 : Int32) (d4 : Int32) (d7 : ab_V) (P : ab_P), ab_tr xs wI (d + 1) 65 101 [] [.inr (12, 0, 0, 72), .inl (.int d1), .inl (.int d2), .inl (.int d3), .inl (.int d4), .inl (.int x5), .inl (.int x6), d7] [] P (f_65_101 N n x5 x6 P) := by
  intro n
  induction n with
  | zero => intro x5 x6 d1 d2 d3 d4 d7 P; exact tr_no
  | succ n ih =>
    intro x5 x6 d1 d2 d3 d4 d7 P
    refine tr_nil (rows2 := kb_65_101) rfl (List.cons_ne_nil _ _) ?_
    refine tr_blk 2 (pc' := 104) (rows' := kb_65_101.drop 2) (loc' := [.inr (12, 0, 0, 72), .inl (.int d1), .inl (.int d2), .inl (.int d3), .inl (.int d4), .inl (.int x5), .inl (.int x6), d7]) (st' := [.inl (.int (2 : Int32)), .inl (.int x6)]) (P1 := P) rfl ⟨trivial, trivial, trivial⟩ ?_
    refine tr_if (fun h19 => ?_) (fun h19 => ?_)
    · refine tr_icF (cd := .ge) (Int32.not_le.mpr h19) ?_
      refine tr_blk 2 (pc' := 110) (rows' := kb_65_101.drop 5) (loc' := [.inr (12, 0, 0, 72), .inl (.int d1), .inl (.int d2), .inl (.int d3), .inl (.int d4), .inl (.int x5), .inl (.int x6), .inl (.int (0 : Int32))]) (st' := []) (P1 := P) rfl ⟨trivial, trivial, trivial⟩ ?_
      exact t_65_110 _ ih N x5 x6 (0 : Int32) (d1) (d2) (d3) (d4) P
    · refine tr_icT (cd := .ge) (Int32.not_lt.mp h19) ?_
      refine tr_nil (rows2 := kb_65_200) rfl (List.cons_ne_nil _ _) ?_
      refine tr_blk 1 (pc' := 202) (rows' := kb_65_200.drop 1) (loc' := [.inr (12, 0, 0, 72), .inl (.int d1), .inl (.int d2), .inl (.int d3), .inl (.int d4), .inl (.int x5), .inl (.int x6), d7]) (st' := [.inl (.int x5)]) (P1 := P) rfl ⟨trivial, trivial⟩ ?_
      exact tr_reI (z := km_65) rfl ⟨_, rfl, rfl⟩ rfl
def f_65_56 (N : Nat) (x1 : Int32) (x2 : Int32) (x3 : Int32) (x4 : Int32) (s0 : Int32) (P : ab_P) : Option (Int32 × ab_P) :=
    ab_b2 (f_113 s0 (1 : Int32) (1 : Int32) P) fun v7 P6 =>
    if v7 = (0 : Int32) then
      ab_lt (ab_pI P6 569 0 x1) fun P8 =>
      ab_lt (ab_pI P8 569 1 x2) fun P9 =>
      ab_lt (ab_pI P9 569 2 x3) fun P10 =>
      ab_lt (ab_pI P10 569 3 x4) fun P11 =>
      f_65_101 N N (0 : Int32) (0 : Int32) P11
    else
    some ((0 : Int32), P6)
theorem t_65_56 {xs : Nat × (Nat → Int32)} {d : Nat} (N : Nat) : ∀ (x1 : Int32) (x2 : Int32) (x3 : Int32) (x4 : Int32) (s0 : Int32) (P : ab_P), ab_tr xs wI (d + 1) 65 56 [] [.inr (12, 0, 0, 72), .inl (.int x1), .inl (.int x2), .inl (.int x3), .inl (.int x4), ab_top, ab_top, ab_top] [.inl (.int s0), .inr (12, 0, 0, 72)] P (f_65_56 N x1 x2 x3 x4 s0 P) := by
  intro x1 x2 x3 x4 s0 P
  unfold f_65_56
  refine tr_nil (rows2 := kb_65_56) rfl (List.cons_ne_nil _ _) ?_
  refine tr_blk 2 (pc' := 58) (rows' := kb_65_56.drop 2) (loc' := [.inr (12, 0, 0, 72), .inl (.int x1), .inl (.int x2), .inl (.int x3), .inl (.int x4), ab_top, ab_top, ab_top]) (st' := [.inl (.int (1 : Int32)), .inl (.int (1 : Int32)), .inl (.int s0), .inr (12, 0, 0, 72)]) (P1 := P) rfl ⟨trivial, trivial, trivial⟩ ?_
  refine tr_cWI (z := km_113) (av := [.inr (12, 0, 0, 72), .inl (.int s0), .inl (.int (1 : Int32)), .inl (.int (1 : Int32))]) (st' := []) rfl rfl rfl (Nat.le_of_ble_eq_true rfl) ⟨rfl, Or.inl (by decide)⟩ rfl (Nat.le_of_ble_eq_true rfl) (t_113 s0 (1 : Int32) (1 : Int32) P) (fun v7 P6 => ?_)
  refine tr_if (fun h20 => ?_) (fun h20 => ?_)
  · refine tr_ifT (cd := .eq) h20 ?_
    refine tr_nil (rows2 := kb_65_66) rfl (List.cons_ne_nil _ _) ?_
    refine tr_blk 5 (pc' := 73) (rows' := kb_65_66.drop 5) (loc' := [.inr (12, 0, 0, 72), .inl (.int x1), .inl (.int x2), .inl (.int x3), .inl (.int x4), ab_top, ab_top, ab_top]) (st' := []) (P1 := (ab_pI P6 569 0 x1)) rfl ⟨trivial, trivial, trivial, trivial, (ab_vi (by decide)), trivial⟩ ?_
    refine tr_lt (fun P8 => ?_)
    refine tr_blk 5 (pc' := 80) (rows' := kb_65_66.drop 10) (loc' := [.inr (12, 0, 0, 72), .inl (.int x1), .inl (.int x2), .inl (.int x3), .inl (.int x4), ab_top, ab_top, ab_top]) (st' := []) (P1 := (ab_pI P8 569 1 x2)) rfl ⟨trivial, trivial, trivial, trivial, (ab_vi (by decide)), trivial⟩ ?_
    refine tr_lt (fun P9 => ?_)
    refine tr_blk 5 (pc' := 87) (rows' := kb_65_66.drop 15) (loc' := [.inr (12, 0, 0, 72), .inl (.int x1), .inl (.int x2), .inl (.int x3), .inl (.int x4), ab_top, ab_top, ab_top]) (st' := []) (P1 := (ab_pI P9 569 2 x3)) rfl ⟨trivial, trivial, trivial, trivial, (ab_vi (by decide)), trivial⟩ ?_
    refine tr_lt (fun P10 => ?_)
    refine tr_blk 5 (pc' := 95) (rows' := kb_65_66.drop 20) (loc' := [.inr (12, 0, 0, 72), .inl (.int x1), .inl (.int x2), .inl (.int x3), .inl (.int x4), ab_top, ab_top, ab_top]) (st' := []) (P1 := (ab_pI P10 569 3 x4)) rfl ⟨trivial, trivial, trivial, trivial, (ab_vi (by decide)), trivial⟩ ?_
    refine tr_lt (fun P11 => ?_)
    refine tr_blk 4 (pc' := 101) (rows' := kb_65_66.drop 24) (loc' := [.inr (12, 0, 0, 72), .inl (.int x1), .inl (.int x2), .inl (.int x3), .inl (.int x4), .inl (.int (0 : Int32)), .inl (.int (0 : Int32)), ab_top]) (st' := []) (P1 := P11) rfl ⟨trivial, trivial, trivial, trivial, trivial⟩ ?_
    exact t_65_101 N N (0 : Int32) (0 : Int32) (x1) (x2) (x3) (x4) (ab_top) P11
  · refine tr_ifF (cd := .eq) h20 ?_
    refine tr_blk 1 (pc' := 65) (rows' := kb_65_56.drop 5) (loc' := [.inr (12, 0, 0, 72), .inl (.int x1), .inl (.int x2), .inl (.int x3), .inl (.int x4), ab_top, ab_top, ab_top]) (st' := [.inl (.int (0 : Int32))]) (P1 := P6) rfl ⟨trivial, trivial⟩ ?_
    exact tr_reI (z := km_65) rfl ⟨_, rfl, rfl⟩ rfl
def f_65 (N : Nat) (a1 : Int32) (a2 : Int32) (a3 : Int32) (a4 : Int32) (P : ab_P) : Option (Int32 × ab_P) :=
    ab_lt (ab_pI P 72 0 (0 : Int32)) fun P1 =>
    Option.bind (f_112 P1 a1 (-99 : Int32) (99 : Int32)) fun v2 =>
    if v2 = (0 : Int32) then
      f_65_56 N a1 a2 a3 a4 (1 : Int32) P1
    else
    Option.bind (f_112 P1 a2 (-99 : Int32) (99 : Int32)) fun v3 =>
    if v3 = (0 : Int32) then
      f_65_56 N a1 a2 a3 a4 (1 : Int32) P1
    else
    Option.bind (f_112 P1 a3 (-99 : Int32) (99 : Int32)) fun v4 =>
    if v4 = (0 : Int32) then
      f_65_56 N a1 a2 a3 a4 (1 : Int32) P1
    else
    Option.bind (f_112 P1 a4 (-99 : Int32) (99 : Int32)) fun v5 =>
    if v5 = (0 : Int32) then
      f_65_56 N a1 a2 a3 a4 (1 : Int32) P1
    else
    f_65_56 N a1 a2 a3 a4 (0 : Int32) P1
theorem t_65 {xs : Nat × (Nat → Int32)} {d : Nat} (N : Nat) : ∀ (a1 : Int32) (a2 : Int32) (a3 : Int32) (a4 : Int32) (P : ab_P), ab_tr xs wI (d + 1) 65 0 [] [.inr (12, 0, 0, 72), .inl (.int a1), .inl (.int a2), .inl (.int a3), .inl (.int a4), ab_top, ab_top, ab_top] [] P (f_65 N a1 a2 a3 a4 P) := by
  intro a1 a2 a3 a4 P
  unfold f_65
  refine tr_nil (rows2 := kb_65_0) rfl (List.cons_ne_nil _ _) ?_
  refine tr_blk 3 (pc' := 5) (rows' := kb_65_0.drop 3) (loc' := [.inr (12, 0, 0, 72), .inl (.int a1), .inl (.int a2), .inl (.int a3), .inl (.int a4), ab_top, ab_top, ab_top]) (st' := []) (P1 := (ab_pI P 72 0 (0 : Int32))) rfl ⟨trivial, trivial, trivial, trivial⟩ ?_
  refine tr_lt (fun P1 => ?_)
  refine tr_blk 4 (pc' := 11) (rows' := kb_65_0.drop 7) (loc' := [.inr (12, 0, 0, 72), .inl (.int a1), .inl (.int a2), .inl (.int a3), .inl (.int a4), ab_top, ab_top, ab_top]) (st' := [.inl (.int (99 : Int32)), .inl (.int (-99 : Int32)), .inl (.int a1), .inr (12, 0, 0, 72)]) (P1 := P1) rfl ⟨trivial, trivial, trivial, trivial, trivial⟩ ?_
  refine tr_cRI (z := km_112) (av := [.inl (.int a1), .inl (.int (-99 : Int32)), .inl (.int (99 : Int32))]) (st' := [.inr (12, 0, 0, 72)]) rfl rfl rfl (Nat.le_of_ble_eq_true rfl) trivial rfl (Nat.le_of_ble_eq_true rfl) (t_112 P1 a1 (-99 : Int32) (99 : Int32)) (fun v2 => ?_)
  refine tr_if (fun h21 => ?_) (fun h21 => ?_)
  · refine tr_ifT (cd := .eq) h21 ?_
    refine tr_nil (rows2 := kb_65_51) rfl (List.cons_ne_nil _ _) ?_
    refine tr_blk 1 (pc' := 52) (rows' := kb_65_51.drop 1) (loc' := [.inr (12, 0, 0, 72), .inl (.int a1), .inl (.int a2), .inl (.int a3), .inl (.int a4), ab_top, ab_top, ab_top]) (st' := [.inl (.int (1 : Int32)), .inr (12, 0, 0, 72)]) (P1 := P1) rfl ⟨trivial, trivial⟩ ?_
    refine tr_goto ?_
    exact t_65_56 N a1 a2 a3 a4 (1 : Int32) P1
  · refine tr_ifF (cd := .eq) h21 ?_
    refine tr_blk 3 (pc' := 22) (rows' := kb_65_0.drop 12) (loc' := [.inr (12, 0, 0, 72), .inl (.int a1), .inl (.int a2), .inl (.int a3), .inl (.int a4), ab_top, ab_top, ab_top]) (st' := [.inl (.int (99 : Int32)), .inl (.int (-99 : Int32)), .inl (.int a2), .inr (12, 0, 0, 72)]) (P1 := P1) rfl ⟨trivial, trivial, trivial, trivial⟩ ?_
    refine tr_cRI (z := km_112) (av := [.inl (.int a2), .inl (.int (-99 : Int32)), .inl (.int (99 : Int32))]) (st' := [.inr (12, 0, 0, 72)]) rfl rfl rfl (Nat.le_of_ble_eq_true rfl) trivial rfl (Nat.le_of_ble_eq_true rfl) (t_112 P1 a2 (-99 : Int32) (99 : Int32)) (fun v3 => ?_)
    refine tr_if (fun h22 => ?_) (fun h22 => ?_)
    · refine tr_ifT (cd := .eq) h22 ?_
      refine tr_nil (rows2 := kb_65_51) rfl (List.cons_ne_nil _ _) ?_
      refine tr_blk 1 (pc' := 52) (rows' := kb_65_51.drop 1) (loc' := [.inr (12, 0, 0, 72), .inl (.int a1), .inl (.int a2), .inl (.int a3), .inl (.int a4), ab_top, ab_top, ab_top]) (st' := [.inl (.int (1 : Int32)), .inr (12, 0, 0, 72)]) (P1 := P1) rfl ⟨trivial, trivial⟩ ?_
      refine tr_goto ?_
      exact t_65_56 N a1 a2 a3 a4 (1 : Int32) P1
    · refine tr_ifF (cd := .eq) h22 ?_
      refine tr_blk 3 (pc' := 33) (rows' := kb_65_0.drop 17) (loc' := [.inr (12, 0, 0, 72), .inl (.int a1), .inl (.int a2), .inl (.int a3), .inl (.int a4), ab_top, ab_top, ab_top]) (st' := [.inl (.int (99 : Int32)), .inl (.int (-99 : Int32)), .inl (.int a3), .inr (12, 0, 0, 72)]) (P1 := P1) rfl ⟨trivial, trivial, trivial, trivial⟩ ?_
      refine tr_cRI (z := km_112) (av := [.inl (.int a3), .inl (.int (-99 : Int32)), .inl (.int (99 : Int32))]) (st' := [.inr (12, 0, 0, 72)]) rfl rfl rfl (Nat.le_of_ble_eq_true rfl) trivial rfl (Nat.le_of_ble_eq_true rfl) (t_112 P1 a3 (-99 : Int32) (99 : Int32)) (fun v4 => ?_)
      refine tr_if (fun h23 => ?_) (fun h23 => ?_)
      · refine tr_ifT (cd := .eq) h23 ?_
        refine tr_nil (rows2 := kb_65_51) rfl (List.cons_ne_nil _ _) ?_
        refine tr_blk 1 (pc' := 52) (rows' := kb_65_51.drop 1) (loc' := [.inr (12, 0, 0, 72), .inl (.int a1), .inl (.int a2), .inl (.int a3), .inl (.int a4), ab_top, ab_top, ab_top]) (st' := [.inl (.int (1 : Int32)), .inr (12, 0, 0, 72)]) (P1 := P1) rfl ⟨trivial, trivial⟩ ?_
        refine tr_goto ?_
        exact t_65_56 N a1 a2 a3 a4 (1 : Int32) P1
      · refine tr_ifF (cd := .eq) h23 ?_
        refine tr_blk 3 (pc' := 45) (rows' := kb_65_0.drop 22) (loc' := [.inr (12, 0, 0, 72), .inl (.int a1), .inl (.int a2), .inl (.int a3), .inl (.int a4), ab_top, ab_top, ab_top]) (st' := [.inl (.int (99 : Int32)), .inl (.int (-99 : Int32)), .inl (.int a4), .inr (12, 0, 0, 72)]) (P1 := P1) rfl ⟨trivial, trivial, trivial, trivial⟩ ?_
        refine tr_cRI (z := km_112) (av := [.inl (.int a4), .inl (.int (-99 : Int32)), .inl (.int (99 : Int32))]) (st' := [.inr (12, 0, 0, 72)]) rfl rfl rfl (Nat.le_of_ble_eq_true rfl) trivial rfl (Nat.le_of_ble_eq_true rfl) (t_112 P1 a4 (-99 : Int32) (99 : Int32)) (fun v5 => ?_)
        refine tr_if (fun h24 => ?_) (fun h24 => ?_)
        · refine tr_ifF (cd := .ne) (fun q => q h24) ?_
          refine tr_nil (rows2 := kb_65_51) rfl (List.cons_ne_nil _ _) ?_
          refine tr_blk 1 (pc' := 52) (rows' := kb_65_51.drop 1) (loc' := [.inr (12, 0, 0, 72), .inl (.int a1), .inl (.int a2), .inl (.int a3), .inl (.int a4), ab_top, ab_top, ab_top]) (st' := [.inl (.int (1 : Int32)), .inr (12, 0, 0, 72)]) (P1 := P1) rfl ⟨trivial, trivial⟩ ?_
          refine tr_goto ?_
          exact t_65_56 N a1 a2 a3 a4 (1 : Int32) P1
        · refine tr_ifT (cd := .ne) h24 ?_
          refine tr_nil (rows2 := kb_65_55) rfl (List.cons_ne_nil _ _) ?_
          refine tr_blk 1 (pc' := 56) (rows' := kb_65_55.drop 1) (loc' := [.inr (12, 0, 0, 72), .inl (.int a1), .inl (.int a2), .inl (.int a3), .inl (.int a4), ab_top, ab_top, ab_top]) (st' := [.inl (.int (0 : Int32)), .inr (12, 0, 0, 72)]) (P1 := P1) rfl ⟨trivial, trivial⟩ ?_
          exact t_65_56 N a1 a2 a3 a4 (0 : Int32) P1
def f_265_8 (i0 : Nat) (N : Nat) (P : ab_P) : Nat → Int32 → Int32 → Int32 → Int32 → Int32 → Option Int32
  | 0, _, _, _, _, _ => none
  | n + 1, x1, x2, x3, x4, x5 =>
    if x5 < x1 then
      Option.bind (f_186 i0 N P x5 (0 : Int32)) fun v1 =>
      if x3 = (-1 : Int32) then
        f_265_8 i0 N P n x1 x2 x5 (x2 * v1) (x5 + 1)
      else
      if x4 < (x2 * v1) then
        f_265_8 i0 N P n x1 x2 x5 (x2 * v1) (x5 + 1)
      else
      f_265_8 i0 N P n x1 x2 x3 x4 (x5 + 1)
    else
    some x3
theorem t_265_8 {xs : Nat × (Nat → Int32)} {d : Nat} (i0 : Nat) (N : Nat) (P : ab_P) : ∀ n : Nat, ∀ (x1 : Int32) (x2 : Int32) (x3 : Int32) (x4 : Int32) (x5 : Int32) (d6 : ab_V), ab_tr xs (rI P) (d + 3) 265 8 [] [.inr (6, 0, 0, i0), .inl (.int x1), .inl (.int x2), .inl (.int x3), .inl (.int x4), .inl (.int x5), d6] [] P (f_265_8 i0 N P n x1 x2 x3 x4 x5) := by
  intro n
  induction n with
  | zero => intro x1 x2 x3 x4 x5 d6; exact tr_no
  | succ n ih =>
    intro x1 x2 x3 x4 x5 d6
    refine tr_nil (rows2 := kb_265_8) rfl (List.cons_ne_nil _ _) ?_
    refine tr_blk 2 (pc' := 11) (rows' := kb_265_8.drop 2) (loc' := [.inr (6, 0, 0, i0), .inl (.int x1), .inl (.int x2), .inl (.int x3), .inl (.int x4), .inl (.int x5), d6]) (st' := [.inl (.int x1), .inl (.int x5)]) (P1 := P) rfl ⟨trivial, trivial, trivial⟩ ?_
    refine tr_if (fun h2 => ?_) (fun h2 => ?_)
    · refine tr_icF (cd := .ge) (Int32.not_le.mpr h2) ?_
      refine tr_blk 4 (pc' := 19) (rows' := kb_265_8.drop 7) (loc' := [.inr (6, 0, 0, i0), .inl (.int x1), .inl (.int x2), .inl (.int x3), .inl (.int x4), .inl (.int x5), d6]) (st' := [.inl (.int (0 : Int32)), .inl (.int x5), .inr (6, 0, 0, i0), .inl (.int x2)]) (P1 := P) rfl ⟨trivial, trivial, trivial, trivial, trivial⟩ ?_
      refine tr_cRI (z := km_186) (av := [.inr (6, 0, 0, i0), .inl (.int x5), .inl (.int (0 : Int32))]) (st' := [.inl (.int x2)]) rfl rfl rfl (Nat.le_of_ble_eq_true rfl) ⟨rfl, Or.inl (by decide)⟩ rfl (Nat.le_of_ble_eq_true rfl) (t_186 i0 N P x5 (0 : Int32)) (fun v1 => ?_)
      refine tr_blk 4 (pc' := 27) (rows' := kb_265_8.drop 12) (loc' := [.inr (6, 0, 0, i0), .inl (.int x1), .inl (.int x2), .inl (.int x3), .inl (.int x4), .inl (.int x5), .inl (.int (x2 * v1))]) (st' := [.inl (.int (-1 : Int32)), .inl (.int x3)]) (P1 := P) rfl ⟨trivial, trivial, trivial, trivial, trivial⟩ ?_
      refine tr_if (fun h3 => ?_) (fun h3 => ?_)
      · refine tr_icT (cd := .eq) h3 ?_
        refine tr_nil (rows2 := kb_265_37) rfl (List.cons_ne_nil _ _) ?_
        refine tr_blk 4 (pc' := 44) (rows' := kb_265_37.drop 4) (loc' := [.inr (6, 0, 0, i0), .inl (.int x1), .inl (.int x2), .inl (.int x5), .inl (.int (x2 * v1)), .inl (.int x5), .inl (.int (x2 * v1))]) (st' := []) (P1 := P) rfl ⟨trivial, trivial, trivial, trivial, trivial⟩ ?_
        refine tr_nil (rows2 := kb_265_44) rfl (List.cons_ne_nil _ _) ?_
        refine tr_blk 1 (pc' := 47) (rows' := kb_265_44.drop 1) (loc' := [.inr (6, 0, 0, i0), .inl (.int x1), .inl (.int x2), .inl (.int x5), .inl (.int (x2 * v1)), .inl (.int (x5 + 1)), .inl (.int (x2 * v1))]) (st' := []) (P1 := P) rfl ⟨trivial, trivial⟩ ?_
        refine tr_goto ?_
        exact ih x1 x2 x5 (x2 * v1) (x5 + 1) (.inl (.int (x2 * v1)))
      · refine tr_icF (cd := .eq) h3 ?_
        refine tr_blk 2 (pc' := 34) (rows' := kb_265_8.drop 15) (loc' := [.inr (6, 0, 0, i0), .inl (.int x1), .inl (.int x2), .inl (.int x3), .inl (.int x4), .inl (.int x5), .inl (.int (x2 * v1))]) (st' := [.inl (.int x4), .inl (.int (x2 * v1))]) (P1 := P) rfl ⟨trivial, trivial, trivial⟩ ?_
        refine tr_if (fun h4 => ?_) (fun h4 => ?_)
        · refine tr_icF (cd := .le) (Int32.not_le.mpr h4) ?_
          refine tr_nil (rows2 := kb_265_37) rfl (List.cons_ne_nil _ _) ?_
          refine tr_blk 4 (pc' := 44) (rows' := kb_265_37.drop 4) (loc' := [.inr (6, 0, 0, i0), .inl (.int x1), .inl (.int x2), .inl (.int x5), .inl (.int (x2 * v1)), .inl (.int x5), .inl (.int (x2 * v1))]) (st' := []) (P1 := P) rfl ⟨trivial, trivial, trivial, trivial, trivial⟩ ?_
          refine tr_nil (rows2 := kb_265_44) rfl (List.cons_ne_nil _ _) ?_
          refine tr_blk 1 (pc' := 47) (rows' := kb_265_44.drop 1) (loc' := [.inr (6, 0, 0, i0), .inl (.int x1), .inl (.int x2), .inl (.int x5), .inl (.int (x2 * v1)), .inl (.int (x5 + 1)), .inl (.int (x2 * v1))]) (st' := []) (P1 := P) rfl ⟨trivial, trivial⟩ ?_
          refine tr_goto ?_
          exact ih x1 x2 x5 (x2 * v1) (x5 + 1) (.inl (.int (x2 * v1)))
        · refine tr_icT (cd := .le) (Int32.not_lt.mp h4) ?_
          refine tr_nil (rows2 := kb_265_44) rfl (List.cons_ne_nil _ _) ?_
          refine tr_blk 1 (pc' := 47) (rows' := kb_265_44.drop 1) (loc' := [.inr (6, 0, 0, i0), .inl (.int x1), .inl (.int x2), .inl (.int x3), .inl (.int x4), .inl (.int (x5 + 1)), .inl (.int (x2 * v1))]) (st' := []) (P1 := P) rfl ⟨trivial, trivial⟩ ?_
          refine tr_goto ?_
          exact ih x1 x2 x3 x4 (x5 + 1) (.inl (.int (x2 * v1)))
    · refine tr_icT (cd := .ge) (Int32.not_lt.mp h2) ?_
      refine tr_nil (rows2 := kb_265_50) rfl (List.cons_ne_nil _ _) ?_
      refine tr_blk 1 (pc' := 51) (rows' := kb_265_50.drop 1) (loc' := [.inr (6, 0, 0, i0), .inl (.int x1), .inl (.int x2), .inl (.int x3), .inl (.int x4), .inl (.int x5), d6]) (st' := [.inl (.int x3)]) (P1 := P) rfl ⟨trivial, trivial⟩ ?_
      exact tr_reI (z := km_265) rfl ⟨_, rfl, rfl⟩ rfl
def f_265 (i0 : Nat) (N : Nat) (P : ab_P) (a1 : Int32) (a2 : Int32) : Option Int32 :=
    f_265_8 i0 N P N a1 a2 (-1 : Int32) (0 : Int32) (0 : Int32)
theorem t_265 {xs : Nat × (Nat → Int32)} {d : Nat} (i0 : Nat) (N : Nat) (P : ab_P) : ∀ (a1 : Int32) (a2 : Int32), ab_tr xs (rI P) (d + 3) 265 0 [] [.inr (6, 0, 0, i0), .inl (.int a1), .inl (.int a2), ab_top, ab_top, ab_top, ab_top] [] P (f_265 i0 N P a1 a2) := by
  intro a1 a2
  unfold f_265
  refine tr_nil (rows2 := kb_265_0) rfl (List.cons_ne_nil _ _) ?_
  refine tr_blk 6 (pc' := 8) (rows' := kb_265_0.drop 6) (loc' := [.inr (6, 0, 0, i0), .inl (.int a1), .inl (.int a2), .inl (.int (-1 : Int32)), .inl (.int (0 : Int32)), .inl (.int (0 : Int32)), ab_top]) (st' := []) (P1 := P) rfl ⟨trivial, trivial, trivial, trivial, trivial, trivial, trivial⟩ ?_
  exact t_265_8 i0 N P N a1 a2 (-1 : Int32) (0 : Int32) (0 : Int32) (ab_top)
def f_176_15 (N : Nat) (x1 : Int32) (s0 : Int32) (P : ab_P) : Option ((Int32 ⊕ Fin 3) × ab_P) :=
    ab_x2 (f_228 s0 P) (fun _ P1 =>
    if x1 = (0 : Int32) then
      Option.bind (f_265 43 N P1 (P1.1 3 5) (1 : Int32)) fun v3 =>
      some (.inl v3, P1)
    else
    Option.bind (f_265 43 N P1 (P1.1 3 5) (-1 : Int32)) fun v2 =>
    some (.inl v2, P1)) (fun q => q)
theorem t_176_15 {xs : Nat × (Nat → Int32)} {d : Nat} (N : Nat) : ∀ (x1 : Int32) (s0 : Int32) (P : ab_P), ab_tr xs xI (d + 4) 176 15 [] [.inr (11, 0, 0, 0), .inl (.int x1)] [.inl (.int s0), .inr (11, 0, 0, 0)] P (f_176_15 N x1 s0 P) := by
  intro x1 s0 P
  unfold f_176_15
  refine tr_nil (rows2 := kb_176_15) rfl (List.cons_ne_nil _ _) ?_
  refine tr_cax (fun _ => none) (zi := km_176) (fun _ => rfl) (fun _ _ => rfl) rfl rfl (z := km_228) (av := [.inr (11, 0, 0, 0), .inl (.int s0)]) (st' := []) rfl rfl rfl (Nat.le_of_ble_eq_true rfl) ⟨rfl, Or.inl (by decide)⟩ rfl (Nat.le_of_ble_eq_true rfl) (t_228 s0 P) (fun _ P1 => ?_)
  refine tr_blk 6 (pc' := 30) (rows' := kb_176_15.drop 7) (loc' := [.inr (11, 0, 0, 0), .inl (.int x1)]) (st' := [.inl (.int x1), .inl (.int (P1.1 3 5)), .inr (6, 0, 0, 43)]) (P1 := P1) rfl ⟨trivial, trivial, trivial, trivial, trivial, trivial, trivial⟩ ?_
  refine tr_if (fun h4 => ?_) (fun h4 => ?_)
  · refine tr_ifF (cd := .ne) (fun q => q h4) ?_
    refine tr_blk 1 (pc' := 34) (rows' := kb_176_15.drop 9) (loc' := [.inr (11, 0, 0, 0), .inl (.int x1)]) (st' := [.inl (.int (1 : Int32)), .inl (.int (P1.1 3 5)), .inr (6, 0, 0, 43)]) (P1 := P1) rfl ⟨trivial, trivial⟩ ?_
    refine tr_goto ?_
    refine tr_nil (rows2 := kb_176_38) rfl (List.cons_ne_nil _ _) ?_
    refine tr_cRI (z := km_265) (av := [.inr (6, 0, 0, 43), .inl (.int (P1.1 3 5)), .inl (.int (1 : Int32))]) (st' := []) rfl rfl rfl (Nat.le_of_ble_eq_true rfl) ⟨rfl, Or.inl (by decide)⟩ rfl (Nat.le_of_ble_eq_true rfl) (t_265 43 N P1 (P1.1 3 5) (1 : Int32)) (fun v3 => ?_)
    exact tr_reI (z := km_176) rfl ⟨_, rfl, rfl⟩ rfl
  · refine tr_ifT (cd := .ne) h4 ?_
    refine tr_nil (rows2 := kb_176_37) rfl (List.cons_ne_nil _ _) ?_
    refine tr_blk 1 (pc' := 38) (rows' := kb_176_37.drop 1) (loc' := [.inr (11, 0, 0, 0), .inl (.int x1)]) (st' := [.inl (.int (-1 : Int32)), .inl (.int (P1.1 3 5)), .inr (6, 0, 0, 43)]) (P1 := P1) rfl ⟨trivial, trivial⟩ ?_
    refine tr_nil (rows2 := kb_176_38) rfl (List.cons_ne_nil _ _) ?_
    refine tr_cRI (z := km_265) (av := [.inr (6, 0, 0, 43), .inl (.int (P1.1 3 5)), .inl (.int (-1 : Int32))]) (st' := []) rfl rfl rfl (Nat.le_of_ble_eq_true rfl) ⟨rfl, Or.inl (by decide)⟩ rfl (Nat.le_of_ble_eq_true rfl) (t_265 43 N P1 (P1.1 3 5) (-1 : Int32)) (fun v2 => ?_)
    exact tr_reI (z := km_176) rfl ⟨_, rfl, rfl⟩ rfl
def f_176 (N : Nat) (a1 : Int32) (P : ab_P) : Option ((Int32 ⊕ Fin 3) × ab_P) :=
    if a1 = (0 : Int32) then
      f_176_15 N a1 (1 : Int32) P
    else
    if a1 = (1 : Int32) then
      f_176_15 N a1 (1 : Int32) P
    else
    f_176_15 N a1 (0 : Int32) P
theorem t_176 {xs : Nat × (Nat → Int32)} {d : Nat} (N : Nat) : ∀ (a1 : Int32) (P : ab_P), ab_tr xs xI (d + 4) 176 0 [] [.inr (11, 0, 0, 0), .inl (.int a1)] [] P (f_176 N a1 P) := by
  intro a1 P
  unfold f_176
  refine tr_nil (rows2 := kb_176_0) rfl (List.cons_ne_nil _ _) ?_
  refine tr_blk 2 (pc' := 2) (rows' := kb_176_0.drop 2) (loc' := [.inr (11, 0, 0, 0), .inl (.int a1)]) (st' := [.inl (.int a1), .inr (11, 0, 0, 0)]) (P1 := P) rfl ⟨trivial, trivial, trivial⟩ ?_
  refine tr_if (fun h5 => ?_) (fun h5 => ?_)
  · refine tr_ifT (cd := .eq) h5 ?_
    refine tr_nil (rows2 := kb_176_10) rfl (List.cons_ne_nil _ _) ?_
    refine tr_blk 1 (pc' := 11) (rows' := kb_176_10.drop 1) (loc' := [.inr (11, 0, 0, 0), .inl (.int a1)]) (st' := [.inl (.int (1 : Int32)), .inr (11, 0, 0, 0)]) (P1 := P) rfl ⟨trivial, trivial⟩ ?_
    refine tr_goto ?_
    exact t_176_15 N a1 (1 : Int32) P
  · refine tr_ifF (cd := .eq) h5 ?_
    refine tr_blk 2 (pc' := 7) (rows' := kb_176_0.drop 5) (loc' := [.inr (11, 0, 0, 0), .inl (.int a1)]) (st' := [.inl (.int (1 : Int32)), .inl (.int a1), .inr (11, 0, 0, 0)]) (P1 := P) rfl ⟨trivial, trivial, trivial⟩ ?_
    refine tr_if (fun h6 => ?_) (fun h6 => ?_)
    · refine tr_icF (cd := .ne) (fun q => q h6) ?_
      refine tr_nil (rows2 := kb_176_10) rfl (List.cons_ne_nil _ _) ?_
      refine tr_blk 1 (pc' := 11) (rows' := kb_176_10.drop 1) (loc' := [.inr (11, 0, 0, 0), .inl (.int a1)]) (st' := [.inl (.int (1 : Int32)), .inr (11, 0, 0, 0)]) (P1 := P) rfl ⟨trivial, trivial⟩ ?_
      refine tr_goto ?_
      exact t_176_15 N a1 (1 : Int32) P
    · refine tr_icT (cd := .ne) h6 ?_
      refine tr_nil (rows2 := kb_176_14) rfl (List.cons_ne_nil _ _) ?_
      refine tr_blk 1 (pc' := 15) (rows' := kb_176_14.drop 1) (loc' := [.inr (11, 0, 0, 0), .inl (.int a1)]) (st' := [.inl (.int (0 : Int32)), .inr (11, 0, 0, 0)]) (P1 := P) rfl ⟨trivial, trivial⟩ ?_
      exact t_176_15 N a1 (0 : Int32) P
def f_66_1 (N : Nat) (a1 : Int32) (P : ab_P) : Option (Int32 × ab_P) :=
    ab_h2 (f_176 N a1 P) (fun v2 P1 =>
    ab_lt (ab_pL P1 570 0 (v2).toInt64) fun P3 =>
    some ((0 : Int32), P3))
    (fun _ => none) (fun P9 => some ((1 : Int32), P9)) (fun _ => none)
theorem t_66_1 {xs : Nat × (Nat → Int32)} {d : Nat} (N : Nat) : ∀ (a1 : Int32) (P : ab_P), ab_tr xs wI (d + 5) 66 0 [] [.inr (11, 0, 0, 0), .inl (.int a1), .inr (22, 1, 0, 570), ab_top] [] P (f_66_1 N a1 P) := by
  intro a1 P
  unfold f_66_1
  refine tr_nil (rows2 := kb_66_0) rfl (List.cons_ne_nil _ _) ?_
  refine tr_blk 4 (pc' := 4) (rows' := kb_66_0.drop 4) (loc' := [.inr (11, 0, 0, 0), .inl (.int a1), .inr (22, 1, 0, 570), ab_top]) (st' := [.inl (.int a1), .inr (11, 0, 0, 0), .inl (.int (0 : Int32)), .inr (22, 1, 0, 570)]) (P1 := P) rfl ⟨trivial, trivial, trivial, trivial, trivial⟩ ?_
  refine tr_cah (fun b => some (.inl (.int b))) (zi := km_66) (fun _ => rfl) rfl (z := km_176) (av := [.inr (11, 0, 0, 0), .inl (.int a1)]) (st' := [.inl (.int (0 : Int32)), .inr (22, 1, 0, 570)]) rfl rfl rfl (Nat.le_of_ble_eq_true rfl) ⟨rfl, Or.inl (by decide)⟩ rfl (Nat.le_of_ble_eq_true rfl) (t_176 N a1 P) (fun v2 P1 => ?_) ?_ ?_ ?_
  · refine tr_blk 2 (pc' := 9) (rows' := kb_66_0.drop 7) (loc' := [.inr (11, 0, 0, 0), .inl (.int a1), .inr (22, 1, 0, 570), ab_top]) (st' := []) (P1 := (ab_pL P1 570 0 (v2).toInt64)) rfl ⟨trivial, (ab_vi (by decide)), trivial⟩ ?_
    refine tr_lt (fun P3 => ?_)
    refine tr_goto ?_
    refine tr_nil (rows2 := kb_66_15) rfl (List.cons_ne_nil _ _) ?_
    refine tr_blk 1 (pc' := 16) (rows' := kb_66_15.drop 1) (loc' := [.inr (11, 0, 0, 0), .inl (.int a1), .inr (22, 1, 0, 570), ab_top]) (st' := [.inl (.int (0 : Int32))]) (P1 := P3) rfl ⟨trivial, trivial⟩ ?_
    exact tr_reI (z := km_66) rfl ⟨_, rfl, rfl⟩ rfl
  · exact fun _ => rfl
  · exact fun _ => tr_han (rows2 := kb_66_12) (z := km_66) _ (fun q => [.inr (11, 0, 0, 0), .inl (.int a1), .inr (22, 1, 0, 570), .inr (40, 1, 0, q)]) rfl (List.cons_ne_nil _ _) (fun q => rfl) ⟨trivial, trivial, trivial⟩ rfl ⟨_, rfl, rfl⟩ rfl
  · exact fun _ => rfl
def f_177_366_5 (i1 : Nat) (N : Nat) (P : ab_P) : Nat → Int32 → Int32 → Int32 → Option Int32
  | 0, _, _, _ => none
  | n + 1, x2, x3, x4 =>
    if x4 < (P.1 76 0) then
      if x3 = (-1 : Int32) then
        f_177_366_5 i1 N P n x2 x4 (x4 + 1)
      else
      Option.bind (f_140_366 i1 N P x4 (0 : Int32)) fun v1 =>
      Option.bind (f_140_366 i1 N P x3 (0 : Int32)) fun v2 =>
      if (x2 * v2) < (x2 * v1) then
        f_177_366_5 i1 N P n x2 x4 (x4 + 1)
      else
      f_177_366_5 i1 N P n x2 x3 (x4 + 1)
    else
    some x3
theorem t_177_366_5 {xs : Nat × (Nat → Int32)} {d : Nat} (i1 : Nat) (N : Nat) (P : ab_P) : ∀ n : Nat, ∀ (x2 : Int32) (x3 : Int32) (x4 : Int32), ab_tr xs (rI P) (d + 3) 177 5 [] [.inr (12, 0, 0, 72), .inr (20, 366, 0, i1), .inl (.int x2), .inl (.int x3), .inl (.int x4)] [] P (f_177_366_5 i1 N P n x2 x3 x4) := by
  intro n
  induction n with
  | zero => intro x2 x3 x4; exact tr_no
  | succ n ih =>
    intro x2 x3 x4
    refine tr_nil (rows2 := kb_177_5) rfl (List.cons_ne_nil _ _) ?_
    refine tr_blk 5 (pc' := 13) (rows' := kb_177_5.drop 5) (loc' := [.inr (12, 0, 0, 72), .inr (20, 366, 0, i1), .inl (.int x2), .inl (.int x3), .inl (.int x4)]) (st' := [.inl (.int (P.1 76 0)), .inl (.int x4)]) (P1 := P) rfl ⟨trivial, trivial, trivial, trivial, (ab_vi (by decide)), trivial⟩ ?_
    refine tr_if (fun h3 => ?_) (fun h3 => ?_)
    · refine tr_icF (cd := .ge) (Int32.not_le.mpr h3) ?_
      refine tr_blk 2 (pc' := 18) (rows' := kb_177_5.drop 8) (loc' := [.inr (12, 0, 0, 72), .inr (20, 366, 0, i1), .inl (.int x2), .inl (.int x3), .inl (.int x4)]) (st' := [.inl (.int (-1 : Int32)), .inl (.int x3)]) (P1 := P) rfl ⟨trivial, trivial, trivial⟩ ?_
      refine tr_if (fun h4 => ?_) (fun h4 => ?_)
      · refine tr_icT (cd := .eq) h4 ?_
        refine tr_nil (rows2 := kb_177_41) rfl (List.cons_ne_nil _ _) ?_
        refine tr_blk 2 (pc' := 44) (rows' := kb_177_41.drop 2) (loc' := [.inr (12, 0, 0, 72), .inr (20, 366, 0, i1), .inl (.int x2), .inl (.int x4), .inl (.int x4)]) (st' := []) (P1 := P) rfl ⟨trivial, trivial, trivial⟩ ?_
        refine tr_nil (rows2 := kb_177_44) rfl (List.cons_ne_nil _ _) ?_
        refine tr_blk 1 (pc' := 47) (rows' := kb_177_44.drop 1) (loc' := [.inr (12, 0, 0, 72), .inr (20, 366, 0, i1), .inl (.int x2), .inl (.int x4), .inl (.int (x4 + 1))]) (st' := []) (P1 := P) rfl ⟨trivial, trivial⟩ ?_
        refine tr_goto ?_
        exact ih x2 x4 (x4 + 1)
      · refine tr_icF (cd := .eq) h4 ?_
        refine tr_blk 4 (pc' := 26) (rows' := kb_177_5.drop 13) (loc' := [.inr (12, 0, 0, 72), .inr (20, 366, 0, i1), .inl (.int x2), .inl (.int x3), .inl (.int x4)]) (st' := [.inl (.int (0 : Int32)), .inl (.int x4), .inr (20, 366, 0, i1), .inl (.int x2)]) (P1 := P) rfl ⟨trivial, trivial, trivial, trivial, trivial⟩ ?_
        refine tr_cRI (z := km_140) (av := [.inr (20, 366, 0, i1), .inl (.int x4), .inl (.int (0 : Int32))]) (st' := [.inl (.int x2)]) rfl rfl rfl (Nat.le_of_ble_eq_true rfl) trivial rfl (Nat.le_of_ble_eq_true rfl) (t_140_366 i1 N P x4 (0 : Int32)) (fun v1 => ?_)
        refine tr_blk 5 (pc' := 34) (rows' := kb_177_5.drop 19) (loc' := [.inr (12, 0, 0, 72), .inr (20, 366, 0, i1), .inl (.int x2), .inl (.int x3), .inl (.int x4)]) (st' := [.inl (.int (0 : Int32)), .inl (.int x3), .inr (20, 366, 0, i1), .inl (.int x2), .inl (.int (x2 * v1))]) (P1 := P) rfl ⟨trivial, trivial, trivial, trivial, trivial, trivial⟩ ?_
        refine tr_cRI (z := km_140) (av := [.inr (20, 366, 0, i1), .inl (.int x3), .inl (.int (0 : Int32))]) (st' := [.inl (.int x2), .inl (.int (x2 * v1))]) rfl rfl rfl (Nat.le_of_ble_eq_true rfl) trivial rfl (Nat.le_of_ble_eq_true rfl) (t_140_366 i1 N P x3 (0 : Int32)) (fun v2 => ?_)
        refine tr_blk 1 (pc' := 38) (rows' := kb_177_5.drop 21) (loc' := [.inr (12, 0, 0, 72), .inr (20, 366, 0, i1), .inl (.int x2), .inl (.int x3), .inl (.int x4)]) (st' := [.inl (.int (x2 * v2)), .inl (.int (x2 * v1))]) (P1 := P) rfl ⟨trivial, trivial⟩ ?_
        refine tr_if (fun h5 => ?_) (fun h5 => ?_)
        · refine tr_icF (cd := .le) (Int32.not_le.mpr h5) ?_
          refine tr_nil (rows2 := kb_177_41) rfl (List.cons_ne_nil _ _) ?_
          refine tr_blk 2 (pc' := 44) (rows' := kb_177_41.drop 2) (loc' := [.inr (12, 0, 0, 72), .inr (20, 366, 0, i1), .inl (.int x2), .inl (.int x4), .inl (.int x4)]) (st' := []) (P1 := P) rfl ⟨trivial, trivial, trivial⟩ ?_
          refine tr_nil (rows2 := kb_177_44) rfl (List.cons_ne_nil _ _) ?_
          refine tr_blk 1 (pc' := 47) (rows' := kb_177_44.drop 1) (loc' := [.inr (12, 0, 0, 72), .inr (20, 366, 0, i1), .inl (.int x2), .inl (.int x4), .inl (.int (x4 + 1))]) (st' := []) (P1 := P) rfl ⟨trivial, trivial⟩ ?_
          refine tr_goto ?_
          exact ih x2 x4 (x4 + 1)
        · refine tr_icT (cd := .le) (Int32.not_lt.mp h5) ?_
          refine tr_nil (rows2 := kb_177_44) rfl (List.cons_ne_nil _ _) ?_
          refine tr_blk 1 (pc' := 47) (rows' := kb_177_44.drop 1) (loc' := [.inr (12, 0, 0, 72), .inr (20, 366, 0, i1), .inl (.int x2), .inl (.int x3), .inl (.int (x4 + 1))]) (st' := []) (P1 := P) rfl ⟨trivial, trivial⟩ ?_
          refine tr_goto ?_
          exact ih x2 x3 (x4 + 1)
    · refine tr_icT (cd := .ge) (Int32.not_lt.mp h3) ?_
      refine tr_nil (rows2 := kb_177_50) rfl (List.cons_ne_nil _ _) ?_
      refine tr_blk 1 (pc' := 51) (rows' := kb_177_50.drop 1) (loc' := [.inr (12, 0, 0, 72), .inr (20, 366, 0, i1), .inl (.int x2), .inl (.int x3), .inl (.int x4)]) (st' := [.inl (.int x3)]) (P1 := P) rfl ⟨trivial, trivial⟩ ?_
      exact tr_reI (z := km_177) rfl ⟨_, rfl, rfl⟩ rfl
def f_177_366 (i1 : Nat) (N : Nat) (P : ab_P) (a2 : Int32) : Option Int32 :=
    f_177_366_5 i1 N P N a2 (-1 : Int32) (0 : Int32)
theorem t_177_366 {xs : Nat × (Nat → Int32)} {d : Nat} (i1 : Nat) (N : Nat) (P : ab_P) : ∀ (a2 : Int32), ab_tr xs (rI P) (d + 3) 177 0 [] [.inr (12, 0, 0, 72), .inr (20, 366, 0, i1), .inl (.int a2), ab_top, ab_top] [] P (f_177_366 i1 N P a2) := by
  intro a2
  unfold f_177_366
  refine tr_nil (rows2 := kb_177_0) rfl (List.cons_ne_nil _ _) ?_
  refine tr_blk 4 (pc' := 5) (rows' := kb_177_0.drop 4) (loc' := [.inr (12, 0, 0, 72), .inr (20, 366, 0, i1), .inl (.int a2), .inl (.int (-1 : Int32)), .inl (.int (0 : Int32))]) (st' := []) (P1 := P) rfl ⟨trivial, trivial, trivial, trivial, trivial⟩ ?_
  exact t_177_366_5 i1 N P N a2 (-1 : Int32) (0 : Int32)
def f_67_20 (N : Nat) (x1 : Int32) (s0 : Int32) (P : ab_P) : Option (Int32 × ab_P) :=
    ab_b2 (f_113 s0 (1 : Int32) (1 : Int32) P) fun v4 P3 =>
    if v4 = (0 : Int32) then
      Option.bind (f_177_366 477 N P3 ((1 : Int32) - ((2 : Int32) * x1))) fun v5 =>
      some (v5, P3)
    else
    some ((0 : Int32), P3)
theorem t_67_20 {xs : Nat × (Nat → Int32)} {d : Nat} (N : Nat) : ∀ (x1 : Int32) (s0 : Int32) (P : ab_P), ab_tr xs wI (d + 4) 67 20 [] [.inr (12, 0, 0, 72), .inl (.int x1)] [.inl (.int s0), .inr (12, 0, 0, 72)] P (f_67_20 N x1 s0 P) := by
  intro x1 s0 P
  unfold f_67_20
  refine tr_nil (rows2 := kb_67_20) rfl (List.cons_ne_nil _ _) ?_
  refine tr_blk 2 (pc' := 22) (rows' := kb_67_20.drop 2) (loc' := [.inr (12, 0, 0, 72), .inl (.int x1)]) (st' := [.inl (.int (1 : Int32)), .inl (.int (1 : Int32)), .inl (.int s0), .inr (12, 0, 0, 72)]) (P1 := P) rfl ⟨trivial, trivial, trivial⟩ ?_
  refine tr_cWI (z := km_113) (av := [.inr (12, 0, 0, 72), .inl (.int s0), .inl (.int (1 : Int32)), .inl (.int (1 : Int32))]) (st' := []) rfl rfl rfl (Nat.le_of_ble_eq_true rfl) ⟨rfl, Or.inl (by decide)⟩ rfl (Nat.le_of_ble_eq_true rfl) (t_113 s0 (1 : Int32) (1 : Int32) P) (fun v4 P3 => ?_)
  refine tr_if (fun h6 => ?_) (fun h6 => ?_)
  · refine tr_ifT (cd := .eq) h6 ?_
    refine tr_nil (rows2 := kb_67_30) rfl (List.cons_ne_nil _ _) ?_
    refine tr_blk 8 (pc' := 40) (rows' := kb_67_30.drop 8) (loc' := [.inr (12, 0, 0, 72), .inl (.int x1)]) (st' := [.inl (.int ((1 : Int32) - ((2 : Int32) * x1))), .inr (20, 366, 0, 477), .inr (12, 0, 0, 72)]) (P1 := P3) rfl ⟨trivial, trivial, trivial, trivial, trivial, trivial, trivial, trivial, trivial⟩ ?_
    refine tr_cRI (z := km_177) (av := [.inr (12, 0, 0, 72), .inr (20, 366, 0, 477), .inl (.int ((1 : Int32) - ((2 : Int32) * x1)))]) (st' := []) rfl rfl rfl (Nat.le_of_ble_eq_true rfl) ⟨rfl, Or.inl (by decide)⟩ rfl (Nat.le_of_ble_eq_true rfl) (t_177_366 477 N P3 ((1 : Int32) - ((2 : Int32) * x1))) (fun v5 => ?_)
    exact tr_reI (z := km_67) rfl ⟨_, rfl, rfl⟩ rfl
  · refine tr_ifF (cd := .eq) h6 ?_
    refine tr_blk 1 (pc' := 29) (rows' := kb_67_20.drop 5) (loc' := [.inr (12, 0, 0, 72), .inl (.int x1)]) (st' := [.inl (.int (0 : Int32))]) (P1 := P3) rfl ⟨trivial, trivial⟩ ?_
    exact tr_reI (z := km_67) rfl ⟨_, rfl, rfl⟩ rfl
def f_67 (N : Nat) (a1 : Int32) (P : ab_P) : Option (Int32 × ab_P) :=
    ab_lt (ab_pI P 72 0 (0 : Int32)) fun P1 =>
    Option.bind (f_112 P1 a1 (0 : Int32) (1 : Int32)) fun v2 =>
    if v2 = (0 : Int32) then
      f_67_20 N a1 (1 : Int32) P1
    else
    f_67_20 N a1 (0 : Int32) P1
theorem t_67 {xs : Nat × (Nat → Int32)} {d : Nat} (N : Nat) : ∀ (a1 : Int32) (P : ab_P), ab_tr xs wI (d + 4) 67 0 [] [.inr (12, 0, 0, 72), .inl (.int a1)] [] P (f_67 N a1 P) := by
  intro a1 P
  unfold f_67
  refine tr_nil (rows2 := kb_67_0) rfl (List.cons_ne_nil _ _) ?_
  refine tr_blk 3 (pc' := 5) (rows' := kb_67_0.drop 3) (loc' := [.inr (12, 0, 0, 72), .inl (.int a1)]) (st' := []) (P1 := (ab_pI P 72 0 (0 : Int32))) rfl ⟨trivial, trivial, trivial, trivial⟩ ?_
  refine tr_lt (fun P1 => ?_)
  refine tr_blk 4 (pc' := 9) (rows' := kb_67_0.drop 7) (loc' := [.inr (12, 0, 0, 72), .inl (.int a1)]) (st' := [.inl (.int (1 : Int32)), .inl (.int (0 : Int32)), .inl (.int a1), .inr (12, 0, 0, 72)]) (P1 := P1) rfl ⟨trivial, trivial, trivial, trivial, trivial⟩ ?_
  refine tr_cRI (z := km_112) (av := [.inl (.int a1), .inl (.int (0 : Int32)), .inl (.int (1 : Int32))]) (st' := [.inr (12, 0, 0, 72)]) rfl rfl rfl (Nat.le_of_ble_eq_true rfl) trivial rfl (Nat.le_of_ble_eq_true rfl) (t_112 P1 a1 (0 : Int32) (1 : Int32)) (fun v2 => ?_)
  refine tr_if (fun h7 => ?_) (fun h7 => ?_)
  · refine tr_ifF (cd := .ne) (fun q => q h7) ?_
    refine tr_blk 1 (pc' := 16) (rows' := kb_67_0.drop 10) (loc' := [.inr (12, 0, 0, 72), .inl (.int a1)]) (st' := [.inl (.int (1 : Int32)), .inr (12, 0, 0, 72)]) (P1 := P1) rfl ⟨trivial, trivial⟩ ?_
    refine tr_goto ?_
    exact t_67_20 N a1 (1 : Int32) P1
  · refine tr_ifT (cd := .ne) h7 ?_
    refine tr_nil (rows2 := kb_67_19) rfl (List.cons_ne_nil _ _) ?_
    refine tr_blk 1 (pc' := 20) (rows' := kb_67_19.drop 1) (loc' := [.inr (12, 0, 0, 72), .inl (.int a1)]) (st' := [.inl (.int (0 : Int32)), .inr (12, 0, 0, 72)]) (P1 := P1) rfl ⟨trivial, trivial⟩ ?_
    exact t_67_20 N a1 (0 : Int32) P1
def f_267_6 (N : Nat) : Nat → Int32 → Int32 → Int32 → ab_P → Option (Int32 × ab_P)
  | 0, _, _, _, _ => none
  | n + 1, x1, x2, x3, P =>
    if x3 < (P.1 43 2) then
      Option.bind (f_263 43 P x3) fun v1 =>
      if v1 = (0 : Int32) then
        if x2 < (-1 : Int32) then
          f_267_6 N n x3 (-1 : Int32) (x3 + 1) P
        else
        f_267_6 N n x1 x2 (x3 + 1) P
      else
      ab_b2 (f_239 N x3 P) fun v3 P2 =>
      if x2 < v3 then
        f_267_6 N n x3 v3 (x3 + 1) P2
      else
      f_267_6 N n x1 x2 (x3 + 1) P2
    else
    some (x1, P)
theorem t_267_6 {xs : Nat × (Nat → Int32)} {d : Nat} (N : Nat) : ∀ n : Nat, ∀ (x1 : Int32) (x2 : Int32) (x3 : Int32) (d4 : ab_V) (P : ab_P), ab_tr xs wI (d + 4) 267 6 [] [.inr (4, 0, 0, 46), .inl (.int x1), .inl (.int x2), .inl (.int x3), d4] [] P (f_267_6 N n x1 x2 x3 P) := by
  intro n
  induction n with
  | zero => intro x1 x2 x3 d4 P; exact tr_no
  | succ n ih =>
    intro x1 x2 x3 d4 P
    refine tr_nil (rows2 := kb_267_6) rfl (List.cons_ne_nil _ _) ?_
    refine tr_blk 4 (pc' := 14) (rows' := kb_267_6.drop 4) (loc' := [.inr (4, 0, 0, 46), .inl (.int x1), .inl (.int x2), .inl (.int x3), d4]) (st' := [.inl (.int (P.1 43 2)), .inl (.int x3)]) (P1 := P) rfl ⟨trivial, trivial, trivial, trivial, trivial⟩ ?_
    refine tr_if (fun h4 => ?_) (fun h4 => ?_)
    · refine tr_icF (cd := .ge) (Int32.not_le.mpr h4) ?_
      refine tr_blk 3 (pc' := 22) (rows' := kb_267_6.drop 8) (loc' := [.inr (4, 0, 0, 46), .inl (.int x1), .inl (.int x2), .inl (.int x3), d4]) (st' := [.inl (.int x3), .inr (6, 0, 0, 43)]) (P1 := P) rfl ⟨trivial, trivial, trivial, trivial⟩ ?_
      refine tr_cRI (z := km_263) (av := [.inr (6, 0, 0, 43), .inl (.int x3)]) (st' := []) rfl rfl rfl (Nat.le_of_ble_eq_true rfl) ⟨rfl, Or.inl (by decide)⟩ rfl (Nat.le_of_ble_eq_true rfl) (t_263 43 P x3) (fun v1 => ?_)
      refine tr_if (fun h5 => ?_) (fun h5 => ?_)
      · refine tr_ifT (cd := .eq) h5 ?_
        refine tr_nil (rows2 := kb_267_36) rfl (List.cons_ne_nil _ _) ?_
        refine tr_blk 1 (pc' := 37) (rows' := kb_267_36.drop 1) (loc' := [.inr (4, 0, 0, 46), .inl (.int x1), .inl (.int x2), .inl (.int x3), d4]) (st' := [.inl (.int (-1 : Int32))]) (P1 := P) rfl ⟨trivial, trivial⟩ ?_
        refine tr_nil (rows2 := kb_267_37) rfl (List.cons_ne_nil _ _) ?_
        refine tr_blk 3 (pc' := 42) (rows' := kb_267_37.drop 3) (loc' := [.inr (4, 0, 0, 46), .inl (.int x1), .inl (.int x2), .inl (.int x3), .inl (.int (-1 : Int32))]) (st' := [.inl (.int x2), .inl (.int (-1 : Int32))]) (P1 := P) rfl ⟨trivial, trivial, trivial, trivial⟩ ?_
        refine tr_if (fun h6 => ?_) (fun h6 => ?_)
        · refine tr_icF (cd := .le) (Int32.not_le.mpr h6) ?_
          refine tr_blk 4 (pc' := 50) (rows' := kb_267_37.drop 8) (loc' := [.inr (4, 0, 0, 46), .inl (.int x3), .inl (.int (-1 : Int32)), .inl (.int x3), .inl (.int (-1 : Int32))]) (st' := []) (P1 := P) rfl ⟨trivial, trivial, trivial, trivial, trivial⟩ ?_
          refine tr_nil (rows2 := kb_267_50) rfl (List.cons_ne_nil _ _) ?_
          refine tr_blk 1 (pc' := 53) (rows' := kb_267_50.drop 1) (loc' := [.inr (4, 0, 0, 46), .inl (.int x3), .inl (.int (-1 : Int32)), .inl (.int (x3 + 1)), .inl (.int (-1 : Int32))]) (st' := []) (P1 := P) rfl ⟨trivial, trivial⟩ ?_
          refine tr_goto ?_
          exact ih x3 (-1 : Int32) (x3 + 1) (.inl (.int (-1 : Int32))) P
        · refine tr_icT (cd := .le) (Int32.not_lt.mp h6) ?_
          refine tr_nil (rows2 := kb_267_50) rfl (List.cons_ne_nil _ _) ?_
          refine tr_blk 1 (pc' := 53) (rows' := kb_267_50.drop 1) (loc' := [.inr (4, 0, 0, 46), .inl (.int x1), .inl (.int x2), .inl (.int (x3 + 1)), .inl (.int (-1 : Int32))]) (st' := []) (P1 := P) rfl ⟨trivial, trivial⟩ ?_
          refine tr_goto ?_
          exact ih x1 x2 (x3 + 1) (.inl (.int (-1 : Int32))) P
      · refine tr_ifF (cd := .eq) h5 ?_
        refine tr_blk 2 (pc' := 30) (rows' := kb_267_6.drop 12) (loc' := [.inr (4, 0, 0, 46), .inl (.int x1), .inl (.int x2), .inl (.int x3), d4]) (st' := [.inl (.int x3), .inr (4, 0, 0, 46)]) (P1 := P) rfl ⟨trivial, trivial, trivial⟩ ?_
        refine tr_cWI (z := km_239) (av := [.inr (4, 0, 0, 46), .inl (.int x3)]) (st' := []) rfl rfl rfl (Nat.le_of_ble_eq_true rfl) ⟨rfl, Or.inl (by decide)⟩ rfl (Nat.le_of_ble_eq_true rfl) (t_239 N x3 P) (fun v3 P2 => ?_)
        refine tr_goto ?_
        refine tr_nil (rows2 := kb_267_37) rfl (List.cons_ne_nil _ _) ?_
        refine tr_blk 3 (pc' := 42) (rows' := kb_267_37.drop 3) (loc' := [.inr (4, 0, 0, 46), .inl (.int x1), .inl (.int x2), .inl (.int x3), .inl (.int v3)]) (st' := [.inl (.int x2), .inl (.int v3)]) (P1 := P2) rfl ⟨trivial, trivial, trivial, trivial⟩ ?_
        refine tr_if (fun h7 => ?_) (fun h7 => ?_)
        · refine tr_icF (cd := .le) (Int32.not_le.mpr h7) ?_
          refine tr_blk 4 (pc' := 50) (rows' := kb_267_37.drop 8) (loc' := [.inr (4, 0, 0, 46), .inl (.int x3), .inl (.int v3), .inl (.int x3), .inl (.int v3)]) (st' := []) (P1 := P2) rfl ⟨trivial, trivial, trivial, trivial, trivial⟩ ?_
          refine tr_nil (rows2 := kb_267_50) rfl (List.cons_ne_nil _ _) ?_
          refine tr_blk 1 (pc' := 53) (rows' := kb_267_50.drop 1) (loc' := [.inr (4, 0, 0, 46), .inl (.int x3), .inl (.int v3), .inl (.int (x3 + 1)), .inl (.int v3)]) (st' := []) (P1 := P2) rfl ⟨trivial, trivial⟩ ?_
          refine tr_goto ?_
          exact ih x3 v3 (x3 + 1) (.inl (.int v3)) P2
        · refine tr_icT (cd := .le) (Int32.not_lt.mp h7) ?_
          refine tr_nil (rows2 := kb_267_50) rfl (List.cons_ne_nil _ _) ?_
          refine tr_blk 1 (pc' := 53) (rows' := kb_267_50.drop 1) (loc' := [.inr (4, 0, 0, 46), .inl (.int x1), .inl (.int x2), .inl (.int (x3 + 1)), .inl (.int v3)]) (st' := []) (P1 := P2) rfl ⟨trivial, trivial⟩ ?_
          refine tr_goto ?_
          exact ih x1 x2 (x3 + 1) (.inl (.int v3)) P2
    · refine tr_icT (cd := .ge) (Int32.not_lt.mp h4) ?_
      refine tr_nil (rows2 := kb_267_56) rfl (List.cons_ne_nil _ _) ?_
      refine tr_blk 1 (pc' := 57) (rows' := kb_267_56.drop 1) (loc' := [.inr (4, 0, 0, 46), .inl (.int x1), .inl (.int x2), .inl (.int x3), d4]) (st' := [.inl (.int x1)]) (P1 := P) rfl ⟨trivial, trivial⟩ ?_
      exact tr_reI (z := km_267) rfl ⟨_, rfl, rfl⟩ rfl
def f_267 (N : Nat) (P : ab_P) : Option (Int32 × ab_P) :=
    f_267_6 N N (-1 : Int32) (-1 : Int32) (0 : Int32) P
theorem t_267 {xs : Nat × (Nat → Int32)} {d : Nat} (N : Nat) : ∀ (P : ab_P), ab_tr xs wI (d + 4) 267 0 [] [.inr (4, 0, 0, 46), ab_top, ab_top, ab_top, ab_top] [] P (f_267 N P) := by
  intro P
  unfold f_267
  refine tr_nil (rows2 := kb_267_0) rfl (List.cons_ne_nil _ _) ?_
  refine tr_blk 6 (pc' := 6) (rows' := kb_267_0.drop 6) (loc' := [.inr (4, 0, 0, 46), .inl (.int (-1 : Int32)), .inl (.int (-1 : Int32)), .inl (.int (0 : Int32)), ab_top]) (st' := []) (P1 := P) rfl ⟨trivial, trivial, trivial, trivial, trivial, trivial, trivial⟩ ?_
  exact t_267_6 N N (-1 : Int32) (-1 : Int32) (0 : Int32) (ab_top) P
def f_266_4 (i0 : Nat) (P : ab_P) : Nat → Int32 → Int32 → Option Int32
  | 0, _, _ => none
  | n + 1, x1, x2 =>
    if x2 < (P.1 i0 2) then
      Option.bind (f_263 i0 P x2) fun v1 =>
      if v1 = (0 : Int32) then
        f_266_4 i0 P n x1 (x2 + 1)
      else
      if x1 = (-1 : Int32) then
        f_266_4 i0 P n x2 (x2 + 1)
      else
      Option.bind (f_231 i0 P (3 : Int32) x2) fun v2 =>
      Option.bind (f_231 i0 P (3 : Int32) x1) fun v3 =>
      if v2 < v3 then
        f_266_4 i0 P n x2 (x2 + 1)
      else
      f_266_4 i0 P n x1 (x2 + 1)
    else
    some x1
theorem t_266_4 {xs : Nat × (Nat → Int32)} {d : Nat} (i0 : Nat) (P : ab_P) : ∀ n : Nat, ∀ (x1 : Int32) (x2 : Int32), ab_tr xs (rI P) (d + 2) 266 4 [] [.inr (6, 0, 0, i0), .inl (.int x1), .inl (.int x2)] [] P (f_266_4 i0 P n x1 x2) := by
  intro n
  induction n with
  | zero => intro x1 x2; exact tr_no
  | succ n ih =>
    intro x1 x2
    refine tr_nil (rows2 := kb_266_4) rfl (List.cons_ne_nil _ _) ?_
    refine tr_blk 3 (pc' := 9) (rows' := kb_266_4.drop 3) (loc' := [.inr (6, 0, 0, i0), .inl (.int x1), .inl (.int x2)]) (st' := [.inl (.int (P.1 i0 2)), .inl (.int x2)]) (P1 := P) rfl ⟨trivial, trivial, trivial, trivial⟩ ?_
    refine tr_if (fun h4 => ?_) (fun h4 => ?_)
    · refine tr_icF (cd := .ge) (Int32.not_le.mpr h4) ?_
      refine tr_blk 2 (pc' := 14) (rows' := kb_266_4.drop 6) (loc' := [.inr (6, 0, 0, i0), .inl (.int x1), .inl (.int x2)]) (st' := [.inl (.int x2), .inr (6, 0, 0, i0)]) (P1 := P) rfl ⟨trivial, trivial, trivial⟩ ?_
      refine tr_cRI (z := km_263) (av := [.inr (6, 0, 0, i0), .inl (.int x2)]) (st' := []) rfl rfl rfl (Nat.le_of_ble_eq_true rfl) ⟨rfl, Or.inl (by decide)⟩ rfl (Nat.le_of_ble_eq_true rfl) (t_263 i0 P x2) (fun v1 => ?_)
      refine tr_if (fun h5 => ?_) (fun h5 => ?_)
      · refine tr_ifT (cd := .eq) h5 ?_
        refine tr_nil (rows2 := kb_266_42) rfl (List.cons_ne_nil _ _) ?_
        refine tr_blk 1 (pc' := 45) (rows' := kb_266_42.drop 1) (loc' := [.inr (6, 0, 0, i0), .inl (.int x1), .inl (.int (x2 + 1))]) (st' := []) (P1 := P) rfl ⟨trivial, trivial⟩ ?_
        refine tr_goto ?_
        exact ih x1 (x2 + 1)
      · refine tr_ifF (cd := .eq) h5 ?_
        refine tr_blk 2 (pc' := 22) (rows' := kb_266_4.drop 10) (loc' := [.inr (6, 0, 0, i0), .inl (.int x1), .inl (.int x2)]) (st' := [.inl (.int (-1 : Int32)), .inl (.int x1)]) (P1 := P) rfl ⟨trivial, trivial, trivial⟩ ?_
        refine tr_if (fun h6 => ?_) (fun h6 => ?_)
        · refine tr_icT (cd := .eq) h6 ?_
          refine tr_nil (rows2 := kb_266_40) rfl (List.cons_ne_nil _ _) ?_
          refine tr_blk 2 (pc' := 42) (rows' := kb_266_40.drop 2) (loc' := [.inr (6, 0, 0, i0), .inl (.int x2), .inl (.int x2)]) (st' := []) (P1 := P) rfl ⟨trivial, trivial, trivial⟩ ?_
          refine tr_nil (rows2 := kb_266_42) rfl (List.cons_ne_nil _ _) ?_
          refine tr_blk 1 (pc' := 45) (rows' := kb_266_42.drop 1) (loc' := [.inr (6, 0, 0, i0), .inl (.int x2), .inl (.int (x2 + 1))]) (st' := []) (P1 := P) rfl ⟨trivial, trivial⟩ ?_
          refine tr_goto ?_
          exact ih x2 (x2 + 1)
        · refine tr_icF (cd := .eq) h6 ?_
          refine tr_blk 3 (pc' := 28) (rows' := kb_266_4.drop 14) (loc' := [.inr (6, 0, 0, i0), .inl (.int x1), .inl (.int x2)]) (st' := [.inl (.int x2), .inl (.int (3 : Int32)), .inr (6, 0, 0, i0)]) (P1 := P) rfl ⟨trivial, trivial, trivial, trivial⟩ ?_
          refine tr_cRI (z := km_231) (av := [.inr (6, 0, 0, i0), .inl (.int (3 : Int32)), .inl (.int x2)]) (st' := []) rfl rfl rfl (Nat.le_of_ble_eq_true rfl) ⟨rfl, Or.inl (by decide)⟩ rfl (Nat.le_of_ble_eq_true rfl) (t_231 i0 P (3 : Int32) x2) (fun v2 => ?_)
          refine tr_blk 3 (pc' := 34) (rows' := kb_266_4.drop 18) (loc' := [.inr (6, 0, 0, i0), .inl (.int x1), .inl (.int x2)]) (st' := [.inl (.int x1), .inl (.int (3 : Int32)), .inr (6, 0, 0, i0), .inl (.int v2)]) (P1 := P) rfl ⟨trivial, trivial, trivial, trivial⟩ ?_
          refine tr_cRI (z := km_231) (av := [.inr (6, 0, 0, i0), .inl (.int (3 : Int32)), .inl (.int x1)]) (st' := [.inl (.int v2)]) rfl rfl rfl (Nat.le_of_ble_eq_true rfl) ⟨rfl, Or.inl (by decide)⟩ rfl (Nat.le_of_ble_eq_true rfl) (t_231 i0 P (3 : Int32) x1) (fun v3 => ?_)
          refine tr_if (fun h7 => ?_) (fun h7 => ?_)
          · refine tr_icF (cd := .ge) (Int32.not_le.mpr h7) ?_
            refine tr_nil (rows2 := kb_266_40) rfl (List.cons_ne_nil _ _) ?_
            refine tr_blk 2 (pc' := 42) (rows' := kb_266_40.drop 2) (loc' := [.inr (6, 0, 0, i0), .inl (.int x2), .inl (.int x2)]) (st' := []) (P1 := P) rfl ⟨trivial, trivial, trivial⟩ ?_
            refine tr_nil (rows2 := kb_266_42) rfl (List.cons_ne_nil _ _) ?_
            refine tr_blk 1 (pc' := 45) (rows' := kb_266_42.drop 1) (loc' := [.inr (6, 0, 0, i0), .inl (.int x2), .inl (.int (x2 + 1))]) (st' := []) (P1 := P) rfl ⟨trivial, trivial⟩ ?_
            refine tr_goto ?_
            exact ih x2 (x2 + 1)
          · refine tr_icT (cd := .ge) (Int32.not_lt.mp h7) ?_
            refine tr_nil (rows2 := kb_266_42) rfl (List.cons_ne_nil _ _) ?_
            refine tr_blk 1 (pc' := 45) (rows' := kb_266_42.drop 1) (loc' := [.inr (6, 0, 0, i0), .inl (.int x1), .inl (.int (x2 + 1))]) (st' := []) (P1 := P) rfl ⟨trivial, trivial⟩ ?_
            refine tr_goto ?_
            exact ih x1 (x2 + 1)
    · refine tr_icT (cd := .ge) (Int32.not_lt.mp h4) ?_
      refine tr_nil (rows2 := kb_266_48) rfl (List.cons_ne_nil _ _) ?_
      refine tr_blk 1 (pc' := 49) (rows' := kb_266_48.drop 1) (loc' := [.inr (6, 0, 0, i0), .inl (.int x1), .inl (.int x2)]) (st' := [.inl (.int x1)]) (P1 := P) rfl ⟨trivial, trivial⟩ ?_
      exact tr_reI (z := km_266) rfl ⟨_, rfl, rfl⟩ rfl
def f_266 (i0 : Nat) (N : Nat) (P : ab_P) : Option Int32 :=
    f_266_4 i0 P N (-1 : Int32) (0 : Int32)
theorem t_266 {xs : Nat × (Nat → Int32)} {d : Nat} (i0 : Nat) (N : Nat) (P : ab_P) : ab_tr xs (rI P) (d + 2) 266 0 [] [.inr (6, 0, 0, i0), ab_top, ab_top] [] P (f_266 i0 N P) := by
  unfold f_266
  refine tr_nil (rows2 := kb_266_0) rfl (List.cons_ne_nil _ _) ?_
  refine tr_blk 4 (pc' := 4) (rows' := kb_266_0.drop 4) (loc' := [.inr (6, 0, 0, i0), .inl (.int (-1 : Int32)), .inl (.int (0 : Int32))]) (st' := []) (P1 := P) rfl ⟨trivial, trivial, trivial, trivial, trivial⟩ ?_
  exact t_266_4 i0 P N (-1 : Int32) (0 : Int32)
def f_178_15 (N : Nat) (x1 : Int32) (s0 : Int32) (P : ab_P) : Option ((Int32 ⊕ Fin 3) × ab_P) :=
    ab_x2 (f_228 s0 P) (fun _ P1 =>
    if x1 = (0 : Int32) then
      Option.bind (f_266 43 N P1) fun v4 =>
      some (.inl v4, P1)
    else
    ab_b2 (f_267 N P1) fun v3 P2 =>
    some (.inl v3, P2)) (fun q => q)
theorem t_178_15 {xs : Nat × (Nat → Int32)} {d : Nat} (N : Nat) : ∀ (x1 : Int32) (s0 : Int32) (P : ab_P), ab_tr xs xI (d + 5) 178 15 [] [.inr (11, 0, 0, 0), .inl (.int x1)] [.inl (.int s0), .inr (11, 0, 0, 0)] P (f_178_15 N x1 s0 P) := by
  intro x1 s0 P
  unfold f_178_15
  refine tr_nil (rows2 := kb_178_15) rfl (List.cons_ne_nil _ _) ?_
  refine tr_cax (fun _ => none) (zi := km_178) (fun _ => rfl) (fun _ _ => rfl) rfl rfl (z := km_228) (av := [.inr (11, 0, 0, 0), .inl (.int s0)]) (st' := []) rfl rfl rfl (Nat.le_of_ble_eq_true rfl) ⟨rfl, Or.inl (by decide)⟩ rfl (Nat.le_of_ble_eq_true rfl) (t_228 s0 P) (fun _ P1 => ?_)
  refine tr_blk 1 (pc' := 19) (rows' := kb_178_15.drop 2) (loc' := [.inr (11, 0, 0, 0), .inl (.int x1)]) (st' := [.inl (.int x1)]) (P1 := P1) rfl ⟨trivial, trivial⟩ ?_
  refine tr_if (fun h5 => ?_) (fun h5 => ?_)
  · refine tr_ifF (cd := .ne) (fun q => q h5) ?_
    refine tr_blk 2 (pc' := 26) (rows' := kb_178_15.drop 5) (loc' := [.inr (11, 0, 0, 0), .inl (.int x1)]) (st' := [.inr (6, 0, 0, 43)]) (P1 := P1) rfl ⟨trivial, trivial, trivial⟩ ?_
    refine tr_cRI (z := km_266) (av := [.inr (6, 0, 0, 43)]) (st' := []) rfl rfl rfl (Nat.le_of_ble_eq_true rfl) ⟨rfl, Or.inl (by decide)⟩ rfl (Nat.le_of_ble_eq_true rfl) (t_266 43 N P1) (fun v4 => ?_)
    refine tr_goto ?_
    refine tr_nil (rows2 := kb_178_39) rfl (List.cons_ne_nil _ _) ?_
    exact tr_reI (z := km_178) rfl ⟨_, rfl, rfl⟩ rfl
  · refine tr_ifT (cd := .ne) h5 ?_
    refine tr_nil (rows2 := kb_178_32) rfl (List.cons_ne_nil _ _) ?_
    refine tr_blk 2 (pc' := 36) (rows' := kb_178_32.drop 2) (loc' := [.inr (11, 0, 0, 0), .inl (.int x1)]) (st' := [.inr (4, 0, 0, 46)]) (P1 := P1) rfl ⟨trivial, trivial, trivial⟩ ?_
    refine tr_cWI (z := km_267) (av := [.inr (4, 0, 0, 46)]) (st' := []) rfl rfl rfl (Nat.le_of_ble_eq_true rfl) ⟨rfl, Or.inl (by decide)⟩ rfl (Nat.le_of_ble_eq_true rfl) (t_267 N P1) (fun v3 P2 => ?_)
    refine tr_nil (rows2 := kb_178_39) rfl (List.cons_ne_nil _ _) ?_
    exact tr_reI (z := km_178) rfl ⟨_, rfl, rfl⟩ rfl
def f_178 (N : Nat) (a1 : Int32) (P : ab_P) : Option ((Int32 ⊕ Fin 3) × ab_P) :=
    if a1 = (0 : Int32) then
      f_178_15 N a1 (1 : Int32) P
    else
    if a1 = (1 : Int32) then
      f_178_15 N a1 (1 : Int32) P
    else
    f_178_15 N a1 (0 : Int32) P
theorem t_178 {xs : Nat × (Nat → Int32)} {d : Nat} (N : Nat) : ∀ (a1 : Int32) (P : ab_P), ab_tr xs xI (d + 5) 178 0 [] [.inr (11, 0, 0, 0), .inl (.int a1)] [] P (f_178 N a1 P) := by
  intro a1 P
  unfold f_178
  refine tr_nil (rows2 := kb_178_0) rfl (List.cons_ne_nil _ _) ?_
  refine tr_blk 2 (pc' := 2) (rows' := kb_178_0.drop 2) (loc' := [.inr (11, 0, 0, 0), .inl (.int a1)]) (st' := [.inl (.int a1), .inr (11, 0, 0, 0)]) (P1 := P) rfl ⟨trivial, trivial, trivial⟩ ?_
  refine tr_if (fun h6 => ?_) (fun h6 => ?_)
  · refine tr_ifT (cd := .eq) h6 ?_
    refine tr_nil (rows2 := kb_178_10) rfl (List.cons_ne_nil _ _) ?_
    refine tr_blk 1 (pc' := 11) (rows' := kb_178_10.drop 1) (loc' := [.inr (11, 0, 0, 0), .inl (.int a1)]) (st' := [.inl (.int (1 : Int32)), .inr (11, 0, 0, 0)]) (P1 := P) rfl ⟨trivial, trivial⟩ ?_
    refine tr_goto ?_
    exact t_178_15 N a1 (1 : Int32) P
  · refine tr_ifF (cd := .eq) h6 ?_
    refine tr_blk 2 (pc' := 7) (rows' := kb_178_0.drop 5) (loc' := [.inr (11, 0, 0, 0), .inl (.int a1)]) (st' := [.inl (.int (1 : Int32)), .inl (.int a1), .inr (11, 0, 0, 0)]) (P1 := P) rfl ⟨trivial, trivial, trivial⟩ ?_
    refine tr_if (fun h7 => ?_) (fun h7 => ?_)
    · refine tr_icF (cd := .ne) (fun q => q h7) ?_
      refine tr_nil (rows2 := kb_178_10) rfl (List.cons_ne_nil _ _) ?_
      refine tr_blk 1 (pc' := 11) (rows' := kb_178_10.drop 1) (loc' := [.inr (11, 0, 0, 0), .inl (.int a1)]) (st' := [.inl (.int (1 : Int32)), .inr (11, 0, 0, 0)]) (P1 := P) rfl ⟨trivial, trivial⟩ ?_
      refine tr_goto ?_
      exact t_178_15 N a1 (1 : Int32) P
    · refine tr_icT (cd := .ne) h7 ?_
      refine tr_nil (rows2 := kb_178_14) rfl (List.cons_ne_nil _ _) ?_
      refine tr_blk 1 (pc' := 15) (rows' := kb_178_14.drop 1) (loc' := [.inr (11, 0, 0, 0), .inl (.int a1)]) (st' := [.inl (.int (0 : Int32)), .inr (11, 0, 0, 0)]) (P1 := P) rfl ⟨trivial, trivial⟩ ?_
      exact t_178_15 N a1 (0 : Int32) P
def f_68_1 (N : Nat) (a1 : Int32) (P : ab_P) : Option (Int32 × ab_P) :=
    ab_h2 (f_178 N a1 P) (fun v2 P1 =>
    ab_lt (ab_pL P1 570 0 (v2).toInt64) fun P3 =>
    some ((0 : Int32), P3))
    (fun _ => none) (fun P9 => some ((1 : Int32), P9)) (fun _ => none)
theorem t_68_1 {xs : Nat × (Nat → Int32)} {d : Nat} (N : Nat) : ∀ (a1 : Int32) (P : ab_P), ab_tr xs wI (d + 6) 68 0 [] [.inr (11, 0, 0, 0), .inl (.int a1), .inr (22, 1, 0, 570), ab_top] [] P (f_68_1 N a1 P) := by
  intro a1 P
  unfold f_68_1
  refine tr_nil (rows2 := kb_68_0) rfl (List.cons_ne_nil _ _) ?_
  refine tr_blk 4 (pc' := 4) (rows' := kb_68_0.drop 4) (loc' := [.inr (11, 0, 0, 0), .inl (.int a1), .inr (22, 1, 0, 570), ab_top]) (st' := [.inl (.int a1), .inr (11, 0, 0, 0), .inl (.int (0 : Int32)), .inr (22, 1, 0, 570)]) (P1 := P) rfl ⟨trivial, trivial, trivial, trivial, trivial⟩ ?_
  refine tr_cah (fun b => some (.inl (.int b))) (zi := km_68) (fun _ => rfl) rfl (z := km_178) (av := [.inr (11, 0, 0, 0), .inl (.int a1)]) (st' := [.inl (.int (0 : Int32)), .inr (22, 1, 0, 570)]) rfl rfl rfl (Nat.le_of_ble_eq_true rfl) ⟨rfl, Or.inl (by decide)⟩ rfl (Nat.le_of_ble_eq_true rfl) (t_178 N a1 P) (fun v2 P1 => ?_) ?_ ?_ ?_
  · refine tr_blk 2 (pc' := 9) (rows' := kb_68_0.drop 7) (loc' := [.inr (11, 0, 0, 0), .inl (.int a1), .inr (22, 1, 0, 570), ab_top]) (st' := []) (P1 := (ab_pL P1 570 0 (v2).toInt64)) rfl ⟨trivial, (ab_vi (by decide)), trivial⟩ ?_
    refine tr_lt (fun P3 => ?_)
    refine tr_goto ?_
    refine tr_nil (rows2 := kb_68_15) rfl (List.cons_ne_nil _ _) ?_
    refine tr_blk 1 (pc' := 16) (rows' := kb_68_15.drop 1) (loc' := [.inr (11, 0, 0, 0), .inl (.int a1), .inr (22, 1, 0, 570), ab_top]) (st' := [.inl (.int (0 : Int32))]) (P1 := P3) rfl ⟨trivial, trivial⟩ ?_
    exact tr_reI (z := km_68) rfl ⟨_, rfl, rfl⟩ rfl
  · exact fun _ => rfl
  · exact fun _ => tr_han (rows2 := kb_68_12) (z := km_68) _ (fun q => [.inr (11, 0, 0, 0), .inl (.int a1), .inr (22, 1, 0, 570), .inr (40, 1, 0, q)]) rfl (List.cons_ne_nil _ _) (fun q => rfl) ⟨trivial, trivial, trivial⟩ rfl ⟨_, rfl, rfl⟩ rfl
  · exact fun _ => rfl
