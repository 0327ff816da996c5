def f_119_45 (N : Nat) (R : ab_P → Option ab_P) (H4 : ab_P → Option ab_P) (x1 : Int32) (P : ab_P) : Option ab_P :=
    Option.bind (f_212 N R P) fun P6 =>
    Option.bind (f_213 x1 (0 : Int32) P6) fun P7 =>
    H4 P7
theorem t_119_45 {xs : Nat × (Nat → Int32)} {d : Nat} (N : Nat) (R : ab_P → Option ab_P) (hR : ∀ (P : ab_P), ab_tr xs wV (d + 7) 119 0 [] [.inr (12, 0, 0, 72), ab_top] [] P (R P)) (H4 : ab_P → Option ab_P) (hH4 : ∀ (d1 : ab_V) (P : ab_P), ab_tr xs wV (d + 10) 119 4 [] [.inr (12, 0, 0, 72), d1] [] P (H4 P)) : ∀ (x1 : Int32) (P : ab_P), ab_tr xs wV (d + 10) 119 45 [] [.inr (12, 0, 0, 72), .inl (.int x1)] [] P (f_119_45 N R H4 x1 P) := by
  intro x1 P
  unfold f_119_45
  refine tr_nil (rows2 := kb_119_45) rfl (List.cons_ne_nil _ _) ?_
  refine tr_blk 1 (pc' := 46) (rows' := kb_119_45.drop 1) (loc' := [.inr (12, 0, 0, 72), .inl (.int x1)]) (st' := [.inr (12, 0, 0, 72)]) (P1 := P) rfl ⟨trivial, trivial⟩ ?_
  refine tr_cWV (z := km_212) (av := [.inr (12, 0, 0, 72)]) (st' := []) rfl rfl rfl (Nat.le_of_ble_eq_true rfl) ⟨rfl, Or.inl (by decide)⟩ rfl (Nat.le_of_ble_eq_true rfl) (t_212 N R hR P) (fun P6 => ?_)
  refine tr_blk 3 (pc' := 52) (rows' := kb_119_45.drop 5) (loc' := [.inr (12, 0, 0, 72), .inl (.int x1)]) (st' := [.inl (.int (0 : Int32)), .inl (.int x1), .inr (12, 0, 0, 72)]) (P1 := P6) rfl ⟨trivial, trivial, trivial, trivial⟩ ?_
  refine tr_cWV (z := km_213) (av := [.inr (12, 0, 0, 72), .inl (.int x1), .inl (.int (0 : Int32))]) (st' := []) rfl rfl rfl (Nat.le_of_ble_eq_true rfl) ⟨rfl, Or.inl (by decide)⟩ rfl (Nat.le_of_ble_eq_true rfl) (t_213 x1 (0 : Int32) P6) (fun P7 => ?_)
  refine tr_goto ?_
  exact hH4 (.inl (.int x1)) P7
def f_119_4 (N : Nat) (R : ab_P → Option ab_P) : Nat → ab_P → Option ab_P
  | 0, _ => none
  | n + 1, P =>
    if (P.1 72 5) = (0 : Int32) then
      ab_b2 (f_127 N (43 : Int32) P) fun v3 P2 =>
      if v3 = (0 : Int32) then
        ab_b2 (f_127 N (45 : Int32) P2) fun v5 P4 =>
        if v5 = (0 : Int32) then
          some P4
        else
        f_119_45 N R (fun y0 => f_119_4 N R n y0) (3 : Int32) P4
      else
      f_119_45 N R (fun y0 => f_119_4 N R n y0) (2 : Int32) P2
    else
    some P
theorem t_119_4 {xs : Nat × (Nat → Int32)} {d : Nat} (N : Nat) (R : ab_P → Option ab_P) (hR : ∀ (P : ab_P), ab_tr xs wV (d + 7) 119 0 [] [.inr (12, 0, 0, 72), ab_top] [] P (R P)) : ∀ n : Nat, ∀ (d1 : ab_V) (P : ab_P), ab_tr xs wV (d + 10) 119 4 [] [.inr (12, 0, 0, 72), d1] [] P (f_119_4 N R n P) := by
  intro n
  induction n with
  | zero => intro d1 P; exact tr_no
  | succ n ih =>
    intro d1 P
    refine tr_nil (rows2 := kb_119_4) rfl (List.cons_ne_nil _ _) ?_
    refine tr_blk 2 (pc' := 8) (rows' := kb_119_4.drop 2) (loc' := [.inr (12, 0, 0, 72), d1]) (st' := [.inl (.int (P.1 72 5))]) (P1 := P) rfl ⟨trivial, trivial, trivial⟩ ?_
    refine tr_if (fun h8 => ?_) (fun h8 => ?_)
    · refine tr_ifF (cd := .ne) (fun q => q h8) ?_
      refine tr_blk 2 (pc' := 14) (rows' := kb_119_4.drop 5) (loc' := [.inr (12, 0, 0, 72), d1]) (st' := [.inl (.int (43 : Int32)), .inr (12, 0, 0, 72)]) (P1 := P) rfl ⟨trivial, trivial, trivial⟩ ?_
      refine tr_cWI (z := km_127) (av := [.inr (12, 0, 0, 72), .inl (.int (43 : Int32))]) (st' := []) rfl rfl rfl (Nat.le_of_ble_eq_true rfl) ⟨rfl, Or.inl (by decide)⟩ rfl (Nat.le_of_ble_eq_true rfl) (t_127 N (43 : Int32) P) (fun v3 P2 => ?_)
      refine tr_if (fun h9 => ?_) (fun h9 => ?_)
      · refine tr_ifT (cd := .eq) h9 ?_
        refine tr_nil (rows2 := kb_119_24) rfl (List.cons_ne_nil _ _) ?_
        refine tr_blk 2 (pc' := 27) (rows' := kb_119_24.drop 2) (loc' := [.inr (12, 0, 0, 72), d1]) (st' := [.inl (.int (45 : Int32)), .inr (12, 0, 0, 72)]) (P1 := P2) rfl ⟨trivial, trivial, trivial⟩ ?_
        refine tr_cWI (z := km_127) (av := [.inr (12, 0, 0, 72), .inl (.int (45 : Int32))]) (st' := []) rfl rfl rfl (Nat.le_of_ble_eq_true rfl) ⟨rfl, Or.inl (by decide)⟩ rfl (Nat.le_of_ble_eq_true rfl) (t_127 N (45 : Int32) P2) (fun v5 P4 => ?_)
        refine tr_if (fun h10 => ?_) (fun h10 => ?_)
        · refine tr_ifT (cd := .eq) h10 ?_
          refine tr_nil (rows2 := kb_119_37) rfl (List.cons_ne_nil _ _) ?_
          refine tr_blk 1 (pc' := 38) (rows' := kb_119_37.drop 1) (loc' := [.inr (12, 0, 0, 72), d1]) (st' := [.inl (.int (-1 : Int32))]) (P1 := P4) rfl ⟨trivial, trivial⟩ ?_
          refine tr_nil (rows2 := kb_119_38) rfl (List.cons_ne_nil _ _) ?_
          refine tr_blk 3 (pc' := 41) (rows' := kb_119_38.drop 3) (loc' := [.inr (12, 0, 0, 72), .inl (.int (-1 : Int32))]) (st' := [.inl (.int (-1 : Int32)), .inl (.int (-1 : Int32))]) (P1 := P4) rfl ⟨trivial, trivial, trivial, trivial⟩ ?_
          refine tr_icF (cd := .ne) (ab_cdF (by decide)) ?_
          exact tr_reV (z := km_119) rfl rfl rfl
        · refine tr_ifF (cd := .eq) h10 ?_
          refine tr_blk 1 (pc' := 34) (rows' := kb_119_24.drop 5) (loc' := [.inr (12, 0, 0, 72), d1]) (st' := [.inl (.int (3 : Int32))]) (P1 := P4) rfl ⟨trivial, trivial⟩ ?_
          refine tr_goto ?_
          refine tr_nil (rows2 := kb_119_38) rfl (List.cons_ne_nil _ _) ?_
          refine tr_blk 3 (pc' := 41) (rows' := kb_119_38.drop 3) (loc' := [.inr (12, 0, 0, 72), .inl (.int (3 : Int32))]) (st' := [.inl (.int (-1 : Int32)), .inl (.int (3 : Int32))]) (P1 := P4) rfl ⟨trivial, trivial, trivial, trivial⟩ ?_
          refine tr_icT (cd := .ne) (ab_cdT (by decide)) ?_
          exact t_119_45 N R hR _ ih (3 : Int32) P4
      · refine tr_ifF (cd := .eq) h9 ?_
        refine tr_blk 1 (pc' := 21) (rows' := kb_119_4.drop 8) (loc' := [.inr (12, 0, 0, 72), d1]) (st' := [.inl (.int (2 : Int32))]) (P1 := P2) rfl ⟨trivial, trivial⟩ ?_
        refine tr_goto ?_
        refine tr_nil (rows2 := kb_119_38) rfl (List.cons_ne_nil _ _) ?_
        refine tr_blk 3 (pc' := 41) (rows' := kb_119_38.drop 3) (loc' := [.inr (12, 0, 0, 72), .inl (.int (2 : Int32))]) (st' := [.inl (.int (-1 : Int32)), .inl (.int (2 : Int32))]) (P1 := P2) rfl ⟨trivial, trivial, trivial, trivial⟩ ?_
        refine tr_icT (cd := .ne) (ab_cdT (by decide)) ?_
        exact t_119_45 N R hR _ ih (2 : Int32) P2
    · refine tr_ifT (cd := .ne) h8 ?_
      refine tr_nil (rows2 := kb_119_58) rfl (List.cons_ne_nil _ _) ?_
      exact tr_reV (z := km_119) rfl rfl rfl
def f_119 (N : Nat) : Nat → ab_P → Option ab_P
  | 0, _ => none
  | n + 1, P =>
    Option.bind (f_212 N (fun y0 => f_119 N n y0) P) fun P1 =>
    f_119_4 N (fun y0 => f_119 N n y0) N P1
theorem t_119 {xs : Nat × (Nat → Int32)} (N : Nat) : ∀ (n d : Nat) (P : ab_P), ab_tr xs wV (d + 3 * n + 7) 119 0 [] [.inr (12, 0, 0, 72), ab_top] [] P (f_119 N n P) := by
  intro n
  induction n with
  | zero => intro d P; exact tr_no
  | succ n ih =>
    intro d P
    refine tr_up (d1 := (d + 3 * n) + 10) (by omega) ?_
    refine tr_nil (rows2 := kb_119_0) rfl (List.cons_ne_nil _ _) ?_
    refine tr_blk 1 (pc' := 1) (rows' := kb_119_0.drop 1) (loc' := [.inr (12, 0, 0, 72), ab_top]) (st' := [.inr (12, 0, 0, 72)]) (P1 := P) rfl ⟨trivial, trivial⟩ ?_
    refine tr_cWV (z := km_212) (av := [.inr (12, 0, 0, 72)]) (st' := []) rfl rfl rfl (Nat.le_of_ble_eq_true rfl) ⟨rfl, Or.inl (by decide)⟩ rfl (Nat.le_of_ble_eq_true rfl) (t_212 N (fun y0 => f_119 N n y0) (ih d) P) (fun P1 => ?_)
    exact t_119_4 N (fun y0 => f_119 N n y0) (ih d) N (ab_top) P1
theorem tq_119 {xs : Nat × (Nat → Int32)} {d : Nat} (K : Nat) (N : Nat) (hd : 3 * K ≤ d) (P : ab_P) : ab_tr xs wV (d + 7) 119 0 [] [.inr (12, 0, 0, 72), ab_top] [] P (f_119 N K P) := by
  have h := t_119 (xs := xs) N K (d - 3 * K) P
  rw [Nat.sub_add_cancel hd] at h
  exact h
def f_9_122 (H112 : Int32 → ab_P → Option (Int32 × ab_P)) : Nat → Int32 → Int32 → ab_P → Option (Int32 × ab_P)
  | 0, _, _, _ => none
  | n + 1, x2, x3, P =>
    if x3 < (2 : Int32) then
      if ab_gi x2 160 then
      if ab_gi x2 160 then
      if ab_gi x3 2 then
      if ab_gi x3 2 then
      ab_lt (ab_pI P (104 + 1 + x2.toNatClampNeg) x3.toNatClampNeg (P.1 (265 + 1 + x2.toNatClampNeg) x3.toNatClampNeg)) fun P18 =>
      f_9_122 H112 n x2 (x3 + 1) P18
      else none
      else none
      else none
      else none
    else
    H112 (x2 + 1) P
theorem t_9_122 {xs : Nat × (Nat → Int32)} {d : Nat} (H112 : Int32 → ab_P → Option (Int32 × ab_P)) (hH112 : ∀ (x2 : Int32) (d1 : Int32) (d3 : ab_V) (P : ab_P), ab_tr xs wI (d + 8) 9 112 [] [.inr (12, 0, 0, 72), .inl (.int d1), .inl (.int x2), d3] [] P (H112 x2 P)) : ∀ n : Nat, ∀ (x2 : Int32) (x3 : Int32) (d1 : Int32) (P : ab_P), ab_tr xs wI (d + 8) 9 122 [] [.inr (12, 0, 0, 72), .inl (.int d1), .inl (.int x2), .inl (.int x3)] [] P (f_9_122 H112 n x2 x3 P) := by
  intro n
  induction n with
  | zero => intro x2 x3 d1 P; exact tr_no
  | succ n ih =>
    intro x2 x3 d1 P
    refine tr_nil (rows2 := kb_9_122) rfl (List.cons_ne_nil _ _) ?_
    refine tr_blk 2 (pc' := 124) (rows' := kb_9_122.drop 2) (loc' := [.inr (12, 0, 0, 72), .inl (.int d1), .inl (.int x2), .inl (.int x3)]) (st' := [.inl (.int (2 : Int32)), .inl (.int x3)]) (P1 := P) rfl ⟨trivial, trivial, trivial⟩ ?_
    refine tr_if (fun h19 => ?_) (fun h19 => ?_)
    · refine tr_icF (cd := .ge) (Int32.not_le.mpr h19) ?_
      refine tr_gd (fun h14 => ?_)
      refine tr_gd (fun h15 => ?_)
      refine tr_gd (fun h16 => ?_)
      refine tr_gd (fun h17 => ?_)
      refine tr_blk 12 (pc' := 143) (rows' := kb_9_122.drop 15) (loc' := [.inr (12, 0, 0, 72), .inl (.int d1), .inl (.int x2), .inl (.int x3)]) (st' := []) (P1 := (ab_pI P (104 + 1 + x2.toNatClampNeg) x3.toNatClampNeg (P.1 (265 + 1 + x2.toNatClampNeg) x3.toNatClampNeg))) rfl ⟨trivial, trivial, trivial, ⟨h14, ab_grl h14⟩, trivial, trivial, trivial, trivial, ⟨h15, ab_grl h15⟩, trivial, h16, h17, trivial⟩ ?_
      refine tr_lt (fun P18 => ?_)
      refine tr_blk 1 (pc' := 146) (rows' := kb_9_122.drop 16) (loc' := [.inr (12, 0, 0, 72), .inl (.int d1), .inl (.int x2), .inl (.int (x3 + 1))]) (st' := []) (P1 := P18) rfl ⟨trivial, trivial⟩ ?_
      refine tr_goto ?_
      exact ih x2 (x3 + 1) (d1) P18
    · refine tr_icT (cd := .ge) (Int32.not_lt.mp h19) ?_
      refine tr_nil (rows2 := kb_9_149) rfl (List.cons_ne_nil _ _) ?_
      refine tr_blk 1 (pc' := 152) (rows' := kb_9_149.drop 1) (loc' := [.inr (12, 0, 0, 72), .inl (.int d1), .inl (.int (x2 + 1)), .inl (.int x3)]) (st' := []) (P1 := P) rfl ⟨trivial, trivial⟩ ?_
      refine tr_goto ?_
      exact hH112 (x2 + 1) (d1) (.inl (.int x3)) P
def f_9_112 (N : Nat) : Nat → Int32 → ab_P → Option (Int32 × ab_P)
  | 0, _, _ => none
  | n + 1, x2, P =>
    if x2 < (P.1 72 16) then
      f_9_122 (fun y0 y1 => f_9_112 N n y0 y1) N x2 (0 : Int32) P
    else
    some ((1 : Int32), P)
theorem t_9_112 {xs : Nat × (Nat → Int32)} {d : Nat} (N : Nat) : ∀ n : Nat, ∀ (x2 : Int32) (d1 : Int32) (d3 : ab_V) (P : ab_P), ab_tr xs wI (d + 8) 9 112 [] [.inr (12, 0, 0, 72), .inl (.int d1), .inl (.int x2), d3] [] P (f_9_112 N n x2 P) := by
  intro n
  induction n with
  | zero => intro x2 d1 d3 P; exact tr_no
  | succ n ih =>
    intro x2 d1 d3 P
    refine tr_nil (rows2 := kb_9_112) rfl (List.cons_ne_nil _ _) ?_
    refine tr_blk 3 (pc' := 117) (rows' := kb_9_112.drop 3) (loc' := [.inr (12, 0, 0, 72), .inl (.int d1), .inl (.int x2), d3]) (st' := [.inl (.int (P.1 72 16)), .inl (.int x2)]) (P1 := P) rfl ⟨trivial, trivial, trivial, trivial⟩ ?_
    refine tr_if (fun h20 => ?_) (fun h20 => ?_)
    · refine tr_icF (cd := .ge) (Int32.not_le.mpr h20) ?_
      refine tr_blk 2 (pc' := 122) (rows' := kb_9_112.drop 6) (loc' := [.inr (12, 0, 0, 72), .inl (.int d1), .inl (.int x2), .inl (.int (0 : Int32))]) (st' := []) (P1 := P) rfl ⟨trivial, trivial, trivial⟩ ?_
      exact t_9_122 _ ih N x2 (0 : Int32) (d1) P
    · refine tr_icT (cd := .ge) (Int32.not_lt.mp h20) ?_
      refine tr_nil (rows2 := kb_9_155) rfl (List.cons_ne_nil _ _) ?_
      refine tr_blk 1 (pc' := 156) (rows' := kb_9_155.drop 1) (loc' := [.inr (12, 0, 0, 72), .inl (.int d1), .inl (.int x2), d3]) (st' := [.inl (.int (1 : Int32))]) (P1 := P) rfl ⟨trivial, trivial⟩ ?_
      exact tr_reI (z := km_9) rfl ⟨_, rfl, rfl⟩ rfl
def f_9_85 (N : Nat) (P : ab_P) : Option (Int32 × ab_P) :=
    if (P.1 72 5) = (0 : Int32) then
      ab_lt (ab_pI P 72 3 (-1 : Int32)) fun P10 =>
      ab_lt (ab_pI P10 72 16 (P10.1 72 17)) fun P11 =>
      f_9_112 N N (0 : Int32) P11
    else
    ab_b2 (f_117 P) fun v13 P12 =>
    some (v13, P12)
theorem t_9_85 {xs : Nat × (Nat → Int32)} {d : Nat} (N : Nat) : ∀ (d1 : Int32) (P : ab_P), ab_tr xs wI (d + 8) 9 85 [] [.inr (12, 0, 0, 72), .inl (.int d1), ab_top, ab_top] [] P (f_9_85 N P) := by
  intro d1 P
  unfold f_9_85
  refine tr_nil (rows2 := kb_9_85) rfl (List.cons_ne_nil _ _) ?_
  refine tr_blk 2 (pc' := 89) (rows' := kb_9_85.drop 2) (loc' := [.inr (12, 0, 0, 72), .inl (.int d1), ab_top, ab_top]) (st' := [.inl (.int (P.1 72 5))]) (P1 := P) rfl ⟨trivial, trivial, trivial⟩ ?_
  refine tr_if (fun h21 => ?_) (fun h21 => ?_)
  · refine tr_ifT (cd := .eq) h21 ?_
    refine tr_nil (rows2 := kb_9_97) rfl (List.cons_ne_nil _ _) ?_
    refine tr_blk 3 (pc' := 102) (rows' := kb_9_97.drop 3) (loc' := [.inr (12, 0, 0, 72), .inl (.int d1), ab_top, ab_top]) (st' := []) (P1 := (ab_pI P 72 3 (-1 : Int32))) rfl ⟨trivial, trivial, trivial, trivial⟩ ?_
    refine tr_lt (fun P10 => ?_)
    refine tr_blk 4 (pc' := 110) (rows' := kb_9_97.drop 7) (loc' := [.inr (12, 0, 0, 72), .inl (.int d1), ab_top, ab_top]) (st' := []) (P1 := (ab_pI P10 72 16 (P10.1 72 17))) rfl ⟨trivial, trivial, trivial, trivial, trivial⟩ ?_
    refine tr_lt (fun P11 => ?_)
    refine tr_blk 2 (pc' := 112) (rows' := kb_9_97.drop 9) (loc' := [.inr (12, 0, 0, 72), .inl (.int d1), .inl (.int (0 : Int32)), ab_top]) (st' := []) (P1 := P11) rfl ⟨trivial, trivial, trivial⟩ ?_
    exact t_9_112 N N (0 : Int32) (d1) (ab_top) P11
  · refine tr_ifF (cd := .eq) h21 ?_
    refine tr_blk 1 (pc' := 93) (rows' := kb_9_85.drop 4) (loc' := [.inr (12, 0, 0, 72), .inl (.int d1), ab_top, ab_top]) (st' := [.inr (12, 0, 0, 72)]) (P1 := P) rfl ⟨trivial, trivial⟩ ?_
    refine tr_cWI (z := km_117) (av := [.inr (12, 0, 0, 72)]) (st' := []) rfl rfl rfl (Nat.le_of_ble_eq_true rfl) ⟨rfl, Or.inl (by decide)⟩ rfl (Nat.le_of_ble_eq_true rfl) (t_117 P) (fun v13 P12 => ?_)
    exact tr_reI (z := km_9) rfl ⟨_, rfl, rfl⟩ rfl
def f_9_40 (K : Nat) (N : Nat) (x1 : Int32) (P : ab_P) : Option (Int32 × ab_P) :=
    Option.bind (f_114 N x1 P) fun P5 =>
    ab_lt (ab_pI P5 72 17 (0 : Int32)) fun P6 =>
    Option.bind (f_119 N K P6) fun P7 =>
    Option.bind (f_116 N P7) fun P8 =>
    if (P8.1 72 5) = (0 : Int32) then
      if (P8.1 72 4) < (P8.1 72 2) then
        Option.bind (f_120 (1 : Int32) (P8.1 72 4) P8) fun P9 =>
        f_9_85 N P9
      else
      f_9_85 N P8
    else
    f_9_85 N P8
theorem t_9_40 {xs : Nat × (Nat → Int32)} {d : Nat} (K : Nat) (N : Nat) (hd : 3 * K ≤ d) : ∀ (x1 : Int32) (P : ab_P), ab_tr xs wI (d + 8) 9 40 [] [.inr (12, 0, 0, 72), .inl (.int x1), ab_top, ab_top] [] P (f_9_40 K N x1 P) := by
  intro x1 P
  unfold f_9_40
  refine tr_nil (rows2 := kb_9_40) rfl (List.cons_ne_nil _ _) ?_
  refine tr_blk 2 (pc' := 42) (rows' := kb_9_40.drop 2) (loc' := [.inr (12, 0, 0, 72), .inl (.int x1), ab_top, ab_top]) (st' := [.inl (.int x1), .inr (12, 0, 0, 72)]) (P1 := P) rfl ⟨trivial, trivial, trivial⟩ ?_
  refine tr_cWV (z := km_114) (av := [.inr (12, 0, 0, 72), .inl (.int x1)]) (st' := []) rfl rfl rfl (Nat.le_of_ble_eq_true rfl) ⟨rfl, Or.inl (by decide)⟩ rfl (Nat.le_of_ble_eq_true rfl) (t_114 N x1 P) (fun P5 => ?_)
  refine tr_blk 3 (pc' := 50) (rows' := kb_9_40.drop 6) (loc' := [.inr (12, 0, 0, 72), .inl (.int x1), ab_top, ab_top]) (st' := []) (P1 := (ab_pI P5 72 17 (0 : Int32))) rfl ⟨trivial, trivial, trivial, trivial⟩ ?_
  refine tr_lt (fun P6 => ?_)
  refine tr_blk 1 (pc' := 51) (rows' := kb_9_40.drop 7) (loc' := [.inr (12, 0, 0, 72), .inl (.int x1), ab_top, ab_top]) (st' := [.inr (12, 0, 0, 72)]) (P1 := P6) rfl ⟨trivial, trivial⟩ ?_
  refine tr_cWV (z := km_119) (av := [.inr (12, 0, 0, 72)]) (st' := []) rfl rfl rfl (Nat.le_of_ble_eq_true rfl) ⟨rfl, Or.inl (by decide)⟩ rfl (Nat.le_of_ble_eq_true rfl) (tq_119 K N (by omega) P6) (fun P7 => ?_)
  refine tr_blk 1 (pc' := 55) (rows' := kb_9_40.drop 9) (loc' := [.inr (12, 0, 0, 72), .inl (.int x1), ab_top, ab_top]) (st' := [.inr (12, 0, 0, 72)]) (P1 := P7) rfl ⟨trivial, trivial⟩ ?_
  refine tr_cWV (z := km_116) (av := [.inr (12, 0, 0, 72)]) (st' := []) rfl rfl rfl (Nat.le_of_ble_eq_true rfl) ⟨rfl, Or.inl (by decide)⟩ rfl (Nat.le_of_ble_eq_true rfl) (t_116 N P7) (fun P8 => ?_)
  refine tr_blk 2 (pc' := 62) (rows' := kb_9_40.drop 12) (loc' := [.inr (12, 0, 0, 72), .inl (.int x1), ab_top, ab_top]) (st' := [.inl (.int (P8.1 72 5))]) (P1 := P8) rfl ⟨trivial, trivial, trivial⟩ ?_
  refine tr_if (fun h22 => ?_) (fun h22 => ?_)
  · refine tr_ifF (cd := .ne) (fun q => q h22) ?_
    refine tr_blk 4 (pc' := 73) (rows' := kb_9_40.drop 17) (loc' := [.inr (12, 0, 0, 72), .inl (.int x1), ab_top, ab_top]) (st' := [.inl (.int (P8.1 72 2)), .inl (.int (P8.1 72 4))]) (P1 := P8) rfl ⟨trivial, trivial, trivial, trivial, trivial⟩ ?_
    refine tr_if (fun h23 => ?_) (fun h23 => ?_)
    · refine tr_icF (cd := .ge) (Int32.not_le.mpr h23) ?_
      refine tr_blk 4 (pc' := 82) (rows' := kb_9_40.drop 22) (loc' := [.inr (12, 0, 0, 72), .inl (.int x1), ab_top, ab_top]) (st' := [.inl (.int (P8.1 72 4)), .inl (.int (1 : Int32)), .inr (12, 0, 0, 72)]) (P1 := P8) rfl ⟨trivial, trivial, trivial, trivial, trivial⟩ ?_
      refine tr_cWV (z := km_120) (av := [.inr (12, 0, 0, 72), .inl (.int (1 : Int32)), .inl (.int (P8.1 72 4))]) (st' := []) rfl rfl rfl (Nat.le_of_ble_eq_true rfl) ⟨rfl, Or.inl (by decide)⟩ rfl (Nat.le_of_ble_eq_true rfl) (t_120 (1 : Int32) (P8.1 72 4) P8) (fun P9 => ?_)
      exact t_9_85 N (x1) P9
    · refine tr_icT (cd := .ge) (Int32.not_lt.mp h23) ?_
      exact t_9_85 N (x1) P8
  · refine tr_ifT (cd := .ne) h22 ?_
    exact t_9_85 N (x1) P8
def f_9_30 (K : Nat) (N : Nat) (x1 : Int32) (s0 : Int32) (P : ab_P) : Option (Int32 × ab_P) :=
    ab_b2 (f_113 s0 (1 : Int32) (1 : Int32) P) fun v4 P3 =>
    if v4 = (0 : Int32) then
      f_9_40 K N x1 P3
    else
    some ((0 : Int32), P3)
theorem t_9_30 {xs : Nat × (Nat → Int32)} {d : Nat} (K : Nat) (N : Nat) (hd : 3 * K ≤ d) : ∀ (x1 : Int32) (s0 : Int32) (P : ab_P), ab_tr xs wI (d + 8) 9 30 [] [.inr (12, 0, 0, 72), .inl (.int x1), ab_top, ab_top] [.inl (.int s0), .inr (12, 0, 0, 72)] P (f_9_30 K N x1 s0 P) := by
  intro x1 s0 P
  unfold f_9_30
  refine tr_nil (rows2 := kb_9_30) rfl (List.cons_ne_nil _ _) ?_
  refine tr_blk 2 (pc' := 32) (rows' := kb_9_30.drop 2) (loc' := [.inr (12, 0, 0, 72), .inl (.int x1), ab_top, ab_top]) (st' := [.inl (.int (1 : Int32)), .inl (.int (1 : Int32)), .inl (.int s0), .inr (12, 0, 0, 72)]) (P1 := P) rfl ⟨trivial, trivial, trivial⟩ ?_
  refine tr_cWI (z := km_113) (av := [.inr (12, 0, 0, 72), .inl (.int s0), .inl (.int (1 : Int32)), .inl (.int (1 : Int32))]) (st' := []) rfl rfl rfl (Nat.le_of_ble_eq_true rfl) ⟨rfl, Or.inl (by decide)⟩ rfl (Nat.le_of_ble_eq_true rfl) (t_113 s0 (1 : Int32) (1 : Int32) P) (fun v4 P3 => ?_)
  refine tr_if (fun h24 => ?_) (fun h24 => ?_)
  · refine tr_ifT (cd := .eq) h24 ?_
    exact t_9_40 K N hd x1 P3
  · refine tr_ifF (cd := .eq) h24 ?_
    refine tr_blk 1 (pc' := 39) (rows' := kb_9_30.drop 5) (loc' := [.inr (12, 0, 0, 72), .inl (.int x1), ab_top, ab_top]) (st' := [.inl (.int (0 : Int32))]) (P1 := P3) rfl ⟨trivial, trivial⟩ ?_
    exact tr_reI (z := km_9) rfl ⟨_, rfl, rfl⟩ rfl
def f_9 (K : Nat) (N : Nat) (a1 : Int32) (P : ab_P) : Option (Int32 × ab_P) :=
    ab_lt (ab_pI P 72 0 (0 : Int32)) fun P1 =>
    Option.bind (f_112 P1 a1 (0 : Int32) (P1.1 72 1)) fun v2 =>
    if v2 = (0 : Int32) then
      f_9_30 K N a1 (1 : Int32) P1
    else
    if (150 : Int32) < a1 then
      f_9_30 K N a1 (1 : Int32) P1
    else
    f_9_30 K N a1 (0 : Int32) P1
theorem t_9 {xs : Nat × (Nat → Int32)} {d : Nat} (K : Nat) (N : Nat) (hd : 3 * K ≤ d) : ∀ (a1 : Int32) (P : ab_P), ab_tr xs wI (d + 8) 9 0 [] [.inr (12, 0, 0, 72), .inl (.int a1), ab_top, ab_top] [] P (f_9 K N a1 P) := by
  intro a1 P
  unfold f_9
  refine tr_nil (rows2 := kb_9_0) rfl (List.cons_ne_nil _ _) ?_
  refine tr_blk 3 (pc' := 5) (rows' := kb_9_0.drop 3) (loc' := [.inr (12, 0, 0, 72), .inl (.int a1), ab_top, ab_top]) (st' := []) (P1 := (ab_pI P 72 0 (0 : Int32))) rfl ⟨trivial, trivial, trivial, trivial⟩ ?_
  refine tr_lt (fun P1 => ?_)
  refine tr_blk 5 (pc' := 12) (rows' := kb_9_0.drop 8) (loc' := [.inr (12, 0, 0, 72), .inl (.int a1), ab_top, ab_top]) (st' := [.inl (.int (P1.1 72 1)), .inl (.int (0 : Int32)), .inl (.int a1), .inr (12, 0, 0, 72)]) (P1 := P1) rfl ⟨trivial, trivial, trivial, trivial, trivial, trivial⟩ ?_
  refine tr_cRI (z := km_112) (av := [.inl (.int a1), .inl (.int (0 : Int32)), .inl (.int (P1.1 72 1))]) (st' := [.inr (12, 0, 0, 72)]) rfl rfl rfl (Nat.le_of_ble_eq_true rfl) trivial rfl (Nat.le_of_ble_eq_true rfl) (t_112 P1 a1 (0 : Int32) (P1.1 72 1)) (fun v2 => ?_)
  refine tr_if (fun h25 => ?_) (fun h25 => ?_)
  · refine tr_ifT (cd := .eq) h25 ?_
    refine tr_nil (rows2 := kb_9_25) rfl (List.cons_ne_nil _ _) ?_
    refine tr_blk 1 (pc' := 26) (rows' := kb_9_25.drop 1) (loc' := [.inr (12, 0, 0, 72), .inl (.int a1), ab_top, ab_top]) (st' := [.inl (.int (1 : Int32)), .inr (12, 0, 0, 72)]) (P1 := P1) rfl ⟨trivial, trivial⟩ ?_
    refine tr_goto ?_
    exact t_9_30 K N hd a1 (1 : Int32) P1
  · refine tr_ifF (cd := .eq) h25 ?_
    refine tr_blk 2 (pc' := 22) (rows' := kb_9_0.drop 12) (loc' := [.inr (12, 0, 0, 72), .inl (.int a1), ab_top, ab_top]) (st' := [.inl (.int (150 : Int32)), .inl (.int a1), .inr (12, 0, 0, 72)]) (P1 := P1) rfl ⟨trivial, trivial, trivial⟩ ?_
    refine tr_if (fun h26 => ?_) (fun h26 => ?_)
    · refine tr_icF (cd := .le) (Int32.not_le.mpr h26) ?_
      refine tr_nil (rows2 := kb_9_25) rfl (List.cons_ne_nil _ _) ?_
      refine tr_blk 1 (pc' := 26) (rows' := kb_9_25.drop 1) (loc' := [.inr (12, 0, 0, 72), .inl (.int a1), ab_top, ab_top]) (st' := [.inl (.int (1 : Int32)), .inr (12, 0, 0, 72)]) (P1 := P1) rfl ⟨trivial, trivial⟩ ?_
      refine tr_goto ?_
      exact t_9_30 K N hd a1 (1 : Int32) P1
    · refine tr_icT (cd := .le) (Int32.not_lt.mp h26) ?_
      refine tr_nil (rows2 := kb_9_29) rfl (List.cons_ne_nil _ _) ?_
      refine tr_blk 1 (pc' := 30) (rows' := kb_9_29.drop 1) (loc' := [.inr (12, 0, 0, 72), .inl (.int a1), ab_top, ab_top]) (st' := [.inl (.int (0 : Int32)), .inr (12, 0, 0, 72)]) (P1 := P1) rfl ⟨trivial, trivial⟩ ?_
      exact t_9_30 K N hd a1 (0 : Int32) P1
def f_356_2 (P : ab_P) : Option Int32 :=
    some (0 : Int32)
theorem t_356_2 {xs : Nat × (Nat → Int32)} {d : Nat} (P : ab_P) : ab_tr xs (rI P) (d + 0) 356 0 [] [.inr (30, 2, 0, 6)] [] P (f_356_2 P) := by
  unfold f_356_2
  refine tr_nil (rows2 := kb_356_0) rfl (List.cons_ne_nil _ _) ?_
  refine tr_blk 1 (pc' := 3) (rows' := kb_356_0.drop 1) (loc' := [.inr (30, 2, 0, 6)]) (st' := [.inl (.int (1 : Int32))]) (P1 := P) rfl ⟨trivial, trivial⟩ ?_
  refine tr_ifF (cd := .eq) (ab_cdF (by decide)) ?_
  refine tr_blk 2 (pc' := 10) (rows' := kb_356_0.drop 4) (loc' := [.inr (30, 2, 0, 6)]) (st' := [.inl (.int (0 : Int32))]) (P1 := P) rfl ⟨trivial, trivial, trivial⟩ ?_
  refine tr_goto ?_
  refine tr_nil (rows2 := kb_356_14) rfl (List.cons_ne_nil _ _) ?_
  exact tr_reI (z := km_356) rfl ⟨_, rfl, rfl⟩ rfl
def f_354_2 (P : ab_P) : Option Int32 :=
    Option.bind (f_356_2 P) fun v1 =>
    some ((55 : Int32) >>> (v1 &&& 31))
theorem t_354_2 {xs : Nat × (Nat → Int32)} {d : Nat} (P : ab_P) : ab_tr xs (rI P) (d + 1) 354 0 [] [.inr (30, 2, 0, 6)] [] P (f_354_2 P) := by
  unfold f_354_2
  refine tr_nil (rows2 := kb_354_0) rfl (List.cons_ne_nil _ _) ?_
  refine tr_blk 4 (pc' := 6) (rows' := kb_354_0.drop 4) (loc' := [.inr (30, 2, 0, 6)]) (st' := [.inr (30, 2, 0, 6), .inl (.int (55 : Int32))]) (P1 := P) rfl ⟨trivial, trivial, (Or.inr (Or.inr (Or.inr (by decide)))), trivial, trivial⟩ ?_
  refine tr_cRI (z := km_356) (av := [.inr (30, 2, 0, 6)]) (st' := [.inl (.int (55 : Int32))]) rfl rfl rfl (Nat.le_of_ble_eq_true rfl) ⟨rfl, Or.inr (by decide)⟩ rfl (Nat.le_of_ble_eq_true rfl) (t_356_2 P) (fun v1 => ?_)
  refine tr_blk 1 (pc' := 10) (rows' := kb_354_0.drop 6) (loc' := [.inr (30, 2, 0, 6)]) (st' := [.inl (.int ((55 : Int32) >>> (v1 &&& 31)))]) (P1 := P) rfl ⟨trivial, trivial⟩ ?_
  exact tr_reI (z := km_354) rfl ⟨_, rfl, rfl⟩ rfl
def f_357_2 (P : ab_P) : Option Int32 :=
    some (1 : Int32)
theorem t_357_2 {xs : Nat × (Nat → Int32)} {d : Nat} (P : ab_P) : ab_tr xs (rI P) (d + 0) 357 0 [] [.inr (30, 2, 0, 6)] [] P (f_357_2 P) := by
  unfold f_357_2
  refine tr_nil (rows2 := kb_357_0) rfl (List.cons_ne_nil _ _) ?_
  refine tr_blk 1 (pc' := 3) (rows' := kb_357_0.drop 1) (loc' := [.inr (30, 2, 0, 6)]) (st' := [.inl (.int (1 : Int32))]) (P1 := P) rfl ⟨trivial, trivial⟩ ?_
  refine tr_ifF (cd := .eq) (ab_cdF (by decide)) ?_
  refine tr_blk 2 (pc' := 10) (rows' := kb_357_0.drop 4) (loc' := [.inr (30, 2, 0, 6)]) (st' := [.inl (.int (0 : Int32))]) (P1 := P) rfl ⟨trivial, trivial, trivial⟩ ?_
  refine tr_ifF (cd := .ne) (ab_cdF (by decide)) ?_
  refine tr_blk 1 (pc' := 14) (rows' := kb_357_0.drop 6) (loc' := [.inr (30, 2, 0, 6)]) (st' := [.inl (.int (1 : Int32))]) (P1 := P) rfl ⟨trivial, trivial⟩ ?_
  refine tr_goto ?_
  refine tr_nil (rows2 := kb_357_18) rfl (List.cons_ne_nil _ _) ?_
  exact tr_reI (z := km_357) rfl ⟨_, rfl, rfl⟩ rfl
def f_358_2 (P : ab_P) (a1 : Int32) : Option Int32 :=
    if (¬ a1 < 0 ∧ a1 < (55 : Int32)) then
    if ab_gi a1 55 then
    if vp_nar .char ((((ab_txc 2 a1.toNatClampNeg) &&& (255 : Int32))).toUInt32 % 65536).toInt32 = ((((ab_txc 2 a1.toNatClampNeg) &&& (255 : Int32))).toUInt32 % 65536).toInt32 then
    some ((((ab_txc 2 a1.toNatClampNeg) &&& (255 : Int32))).toUInt32 % 65536).toInt32
    else none
    else none
    else none
theorem t_358_2 {xs : Nat × (Nat → Int32)} {d : Nat} (P : ab_P) : ∀ (a1 : Int32), ab_tr xs (rI P) (d + 0) 358 0 [] [.inr (33, 55, 2, 7), .inl (.int a1)] [] P (f_358_2 P a1) := by
  intro a1
  unfold f_358_2
  refine tr_nil (rows2 := kb_358_0) rfl (List.cons_ne_nil _ _) ?_
  refine tr_gd (fun h1 => ?_)
  refine tr_gd (fun h2 => ?_)
  refine tr_gd (fun h3 => ?_)
  refine tr_blk 10 (pc' := 14) (rows' := kb_358_0.drop 10) (loc' := [.inr (33, 55, 2, 7), .inl (.int a1)]) (st' := [.inl (.int ((((ab_txc 2 a1.toNatClampNeg) &&& (255 : Int32))).toUInt32 % 65536).toInt32)]) (P1 := P) rfl ⟨trivial, trivial, (Or.inr (Or.inr (Or.inr (by decide)))), ⟨h1, Nat.le_of_ble_eq_true rfl⟩, trivial, trivial, ⟨h2, rfl, rfl, by decide⟩, trivial, trivial, trivial, trivial⟩ ?_
  exact tr_reI (z := km_358) rfl ⟨_, rfl, ab_nar (by decide) h3⟩ rfl
def f_355_2 (P : ab_P) (a1 : Int32) : Option Int32 :=
    Option.bind (f_357_2 P) fun v1 =>
    if v1 = (0 : Int32) then
      none
    else
    Option.bind (f_358_2 P a1) fun v2 =>
    if vp_nar .char v2 = v2 then
    some v2
    else none
theorem t_355_2 {xs : Nat × (Nat → Int32)} {d : Nat} (P : ab_P) : ∀ (a1 : Int32), ab_tr xs (rI P) (d + 1) 355 0 [] [.inr (30, 2, 0, 6), .inl (.int a1)] [] P (f_355_2 P a1) := by
  intro a1
  unfold f_355_2
  refine tr_nil (rows2 := kb_355_0) rfl (List.cons_ne_nil _ _) ?_
  refine tr_blk 1 (pc' := 1) (rows' := kb_355_0.drop 1) (loc' := [.inr (30, 2, 0, 6), .inl (.int a1)]) (st' := [.inr (30, 2, 0, 6)]) (P1 := P) rfl ⟨trivial, trivial⟩ ?_
  refine tr_cRI (z := km_357) (av := [.inr (30, 2, 0, 6)]) (st' := []) rfl rfl rfl (Nat.le_of_ble_eq_true rfl) ⟨rfl, Or.inr (by decide)⟩ rfl (Nat.le_of_ble_eq_true rfl) (t_357_2 P) (fun v1 => ?_)
  refine tr_if (fun h4 => ?_) (fun h4 => ?_)
  · refine tr_ifT (cd := .eq) h4 ?_
    refine tr_nil (rows2 := kb_355_16) rfl (List.cons_ne_nil _ _) ?_
    refine tr_blk 3 (pc' := 21) (rows' := kb_355_16.drop 3) (loc' := [.inr (30, 2, 0, 6), .inl (.int a1)]) (st' := [.inl (.int a1), .inr (33, 55, 2, 7)]) (P1 := P) rfl ⟨trivial, trivial, trivial, trivial⟩ ?_
    exact tr_no
  · refine tr_ifF (cd := .eq) h4 ?_
    refine tr_blk 3 (pc' := 12) (rows' := kb_355_0.drop 6) (loc' := [.inr (30, 2, 0, 6), .inl (.int a1)]) (st' := [.inl (.int a1), .inr (33, 55, 2, 7)]) (P1 := P) rfl ⟨trivial, trivial, trivial, trivial⟩ ?_
    refine tr_cRI (z := km_358) (av := [.inr (33, 55, 2, 7), .inl (.int a1)]) (st' := []) rfl rfl rfl (Nat.le_of_ble_eq_true rfl) trivial rfl (Nat.le_of_ble_eq_true rfl) (t_358_2 P a1) (fun v2 => ?_)
    refine tr_gd (fun h3 => ?_)
    exact tr_reI (z := km_355) rfl ⟨_, rfl, ab_nar (by decide) h3⟩ rfl
def f_349_2_43 (P : ab_P) (H14 : Int32 → Int32 → Int32 → Int32 → Int32 → Option Int32) (x2 : Int32) (x3 : Int32) (x4 : Int32) (x5 : Int32) (x6 : Int32) (s0 : Int32) : Option Int32 :=
    if s0 = (32 : Int32) then
      if x5 = (0 : Int32) then
        H14 x2 (x3 + 1) (P.1 1 4) (1 : Int32) (x6 + 1)
      else
      if x4 = x2 then
        some x3
      else
      H14 x2 (x3 + 1) (P.1 1 4) (1 : Int32) (x6 + 1)
    else
    if x5 = (0 : Int32) then
      H14 x2 x3 (x4 + 1) (0 : Int32) (x6 + 1)
    else
    if x4 < x2 then
      Option.bind (f_347 P x4) fun v4 =>
      if v4 = s0 then
        H14 x2 x3 (x4 + 1) (1 : Int32) (x6 + 1)
      else
      H14 x2 x3 (x4 + 1) (0 : Int32) (x6 + 1)
    else
    H14 x2 x3 (x4 + 1) (0 : Int32) (x6 + 1)
theorem t_349_2_43 {xs : Nat × (Nat → Int32)} {d : Nat} (P : ab_P) (H14 : Int32 → Int32 → Int32 → Int32 → Int32 → Option Int32) (hH14 : ∀ (x2 : Int32) (x3 : Int32) (x4 : Int32) (x5 : Int32) (x6 : Int32) (d7 : ab_V), ab_tr xs (rI P) (d + 2) 349 14 [] [.inr (9, 0, 0, 1), .inr (30, 2, 0, 6), .inl (.int x2), .inl (.int x3), .inl (.int x4), .inl (.int x5), .inl (.int x6), d7] [] P (H14 x2 x3 x4 x5 x6)) : ∀ (x2 : Int32) (x3 : Int32) (x4 : Int32) (x5 : Int32) (x6 : Int32) (s0 : Int32) (d7 : ab_V), ab_tr xs (rI P) (d + 2) 349 43 [] [.inr (9, 0, 0, 1), .inr (30, 2, 0, 6), .inl (.int x2), .inl (.int x3), .inl (.int x4), .inl (.int x5), .inl (.int x6), d7] [.inl (.int s0)] P (f_349_2_43 P H14 x2 x3 x4 x5 x6 s0) := by
  intro x2 x3 x4 x5 x6 s0 d7
  unfold f_349_2_43
  refine tr_nil (rows2 := kb_349_43) rfl (List.cons_ne_nil _ _) ?_
  refine tr_blk 3 (pc' := 49) (rows' := kb_349_43.drop 3) (loc' := [.inr (9, 0, 0, 1), .inr (30, 2, 0, 6), .inl (.int x2), .inl (.int x3), .inl (.int x4), .inl (.int x5), .inl (.int x6), .inl (.int s0)]) (st' := [.inl (.int (32 : Int32)), .inl (.int s0)]) (P1 := P) rfl ⟨trivial, trivial, trivial, trivial⟩ ?_
  refine tr_if (fun h5 => ?_) (fun h5 => ?_)
  · refine tr_icT (cd := .eq) h5 ?_
    refine tr_nil (rows2 := kb_349_87) rfl (List.cons_ne_nil _ _) ?_
    refine tr_blk 1 (pc' := 89) (rows' := kb_349_87.drop 1) (loc' := [.inr (9, 0, 0, 1), .inr (30, 2, 0, 6), .inl (.int x2), .inl (.int x3), .inl (.int x4), .inl (.int x5), .inl (.int x6), .inl (.int s0)]) (st' := [.inl (.int x5)]) (P1 := P) rfl ⟨trivial, trivial⟩ ?_
    refine tr_if (fun h6 => ?_) (fun h6 => ?_)
    · refine tr_ifT (cd := .eq) h6 ?_
      refine tr_nil (rows2 := kb_349_100) rfl (List.cons_ne_nil _ _) ?_
      refine tr_blk 6 (pc' := 112) (rows' := kb_349_100.drop 6) (loc' := [.inr (9, 0, 0, 1), .inr (30, 2, 0, 6), .inl (.int x2), .inl (.int (x3 + 1)), .inl (.int (P.1 1 4)), .inl (.int (1 : Int32)), .inl (.int x6), .inl (.int s0)]) (st' := []) (P1 := P) rfl ⟨trivial, trivial, trivial, trivial, trivial, trivial, trivial⟩ ?_
      refine tr_nil (rows2 := kb_349_112) rfl (List.cons_ne_nil _ _) ?_
      refine tr_blk 1 (pc' := 115) (rows' := kb_349_112.drop 1) (loc' := [.inr (9, 0, 0, 1), .inr (30, 2, 0, 6), .inl (.int x2), .inl (.int (x3 + 1)), .inl (.int (P.1 1 4)), .inl (.int (1 : Int32)), .inl (.int (x6 + 1)), .inl (.int s0)]) (st' := []) (P1 := P) rfl ⟨trivial, trivial⟩ ?_
      refine tr_goto ?_
      exact hH14 x2 (x3 + 1) (P.1 1 4) (1 : Int32) (x6 + 1) (.inl (.int s0))
    · refine tr_ifF (cd := .eq) h6 ?_
      refine tr_blk 2 (pc' := 95) (rows' := kb_349_87.drop 4) (loc' := [.inr (9, 0, 0, 1), .inr (30, 2, 0, 6), .inl (.int x2), .inl (.int x3), .inl (.int x4), .inl (.int x5), .inl (.int x6), .inl (.int s0)]) (st' := [.inl (.int x2), .inl (.int x4)]) (P1 := P) rfl ⟨trivial, trivial, trivial⟩ ?_
      refine tr_if (fun h7 => ?_) (fun h7 => ?_)
      · refine tr_icF (cd := .ne) (fun q => q h7) ?_
        refine tr_blk 1 (pc' := 99) (rows' := kb_349_87.drop 6) (loc' := [.inr (9, 0, 0, 1), .inr (30, 2, 0, 6), .inl (.int x2), .inl (.int x3), .inl (.int x4), .inl (.int x5), .inl (.int x6), .inl (.int s0)]) (st' := [.inl (.int x3)]) (P1 := P) rfl ⟨trivial, trivial⟩ ?_
        exact tr_reI (z := km_349) rfl ⟨_, rfl, rfl⟩ rfl
      · refine tr_icT (cd := .ne) h7 ?_
        refine tr_nil (rows2 := kb_349_100) rfl (List.cons_ne_nil _ _) ?_
        refine tr_blk 6 (pc' := 112) (rows' := kb_349_100.drop 6) (loc' := [.inr (9, 0, 0, 1), .inr (30, 2, 0, 6), .inl (.int x2), .inl (.int (x3 + 1)), .inl (.int (P.1 1 4)), .inl (.int (1 : Int32)), .inl (.int x6), .inl (.int s0)]) (st' := []) (P1 := P) rfl ⟨trivial, trivial, trivial, trivial, trivial, trivial, trivial⟩ ?_
        refine tr_nil (rows2 := kb_349_112) rfl (List.cons_ne_nil _ _) ?_
        refine tr_blk 1 (pc' := 115) (rows' := kb_349_112.drop 1) (loc' := [.inr (9, 0, 0, 1), .inr (30, 2, 0, 6), .inl (.int x2), .inl (.int (x3 + 1)), .inl (.int (P.1 1 4)), .inl (.int (1 : Int32)), .inl (.int (x6 + 1)), .inl (.int s0)]) (st' := []) (P1 := P) rfl ⟨trivial, trivial⟩ ?_
        refine tr_goto ?_
        exact hH14 x2 (x3 + 1) (P.1 1 4) (1 : Int32) (x6 + 1) (.inl (.int s0))
  · refine tr_icF (cd := .eq) h5 ?_
    refine tr_blk 1 (pc' := 54) (rows' := kb_349_43.drop 5) (loc' := [.inr (9, 0, 0, 1), .inr (30, 2, 0, 6), .inl (.int x2), .inl (.int x3), .inl (.int x4), .inl (.int x5), .inl (.int x6), .inl (.int s0)]) (st' := [.inl (.int x5)]) (P1 := P) rfl ⟨trivial, trivial⟩ ?_
    refine tr_if (fun h8 => ?_) (fun h8 => ?_)
    · refine tr_ifT (cd := .eq) h8 ?_
      refine tr_nil (rows2 := kb_349_78) rfl (List.cons_ne_nil _ _) ?_
      refine tr_blk 1 (pc' := 79) (rows' := kb_349_78.drop 1) (loc' := [.inr (9, 0, 0, 1), .inr (30, 2, 0, 6), .inl (.int x2), .inl (.int x3), .inl (.int x4), .inl (.int x5), .inl (.int x6), .inl (.int s0)]) (st' := [.inl (.int (0 : Int32))]) (P1 := P) rfl ⟨trivial, trivial⟩ ?_
      refine tr_nil (rows2 := kb_349_79) rfl (List.cons_ne_nil _ _) ?_
      refine tr_blk 2 (pc' := 84) (rows' := kb_349_79.drop 2) (loc' := [.inr (9, 0, 0, 1), .inr (30, 2, 0, 6), .inl (.int x2), .inl (.int x3), .inl (.int (x4 + 1)), .inl (.int (0 : Int32)), .inl (.int x6), .inl (.int s0)]) (st' := []) (P1 := P) rfl ⟨trivial, trivial, trivial⟩ ?_
      refine tr_goto ?_
      refine tr_nil (rows2 := kb_349_112) rfl (List.cons_ne_nil _ _) ?_
      refine tr_blk 1 (pc' := 115) (rows' := kb_349_112.drop 1) (loc' := [.inr (9, 0, 0, 1), .inr (30, 2, 0, 6), .inl (.int x2), .inl (.int x3), .inl (.int (x4 + 1)), .inl (.int (0 : Int32)), .inl (.int (x6 + 1)), .inl (.int s0)]) (st' := []) (P1 := P) rfl ⟨trivial, trivial⟩ ?_
      refine tr_goto ?_
      exact hH14 x2 x3 (x4 + 1) (0 : Int32) (x6 + 1) (.inl (.int s0))
    · refine tr_ifF (cd := .eq) h8 ?_
      refine tr_blk 2 (pc' := 60) (rows' := kb_349_43.drop 8) (loc' := [.inr (9, 0, 0, 1), .inr (30, 2, 0, 6), .inl (.int x2), .inl (.int x3), .inl (.int x4), .inl (.int x5), .inl (.int x6), .inl (.int s0)]) (st' := [.inl (.int x2), .inl (.int x4)]) (P1 := P) rfl ⟨trivial, trivial, trivial⟩ ?_
      refine tr_if (fun h9 => ?_) (fun h9 => ?_)
      · refine tr_icF (cd := .ge) (Int32.not_le.mpr h9) ?_
        refine tr_blk 2 (pc' := 66) (rows' := kb_349_43.drop 11) (loc' := [.inr (9, 0, 0, 1), .inr (30, 2, 0, 6), .inl (.int x2), .inl (.int x3), .inl (.int x4), .inl (.int x5), .inl (.int x6), .inl (.int s0)]) (st' := [.inl (.int x4), .inr (9, 0, 0, 1)]) (P1 := P) rfl ⟨trivial, trivial, trivial⟩ ?_
        refine tr_cRI (z := km_347) (av := [.inr (9, 0, 0, 1), .inl (.int x4)]) (st' := []) rfl rfl rfl (Nat.le_of_ble_eq_true rfl) ⟨rfl, Or.inl (by decide)⟩ rfl (Nat.le_of_ble_eq_true rfl) (t_347 P x4) (fun v4 => ?_)
        refine tr_blk 1 (pc' := 71) (rows' := kb_349_43.drop 13) (loc' := [.inr (9, 0, 0, 1), .inr (30, 2, 0, 6), .inl (.int x2), .inl (.int x3), .inl (.int x4), .inl (.int x5), .inl (.int x6), .inl (.int s0)]) (st' := [.inl (.int s0), .inl (.int v4)]) (P1 := P) rfl ⟨trivial, trivial⟩ ?_
        refine tr_if (fun h10 => ?_) (fun h10 => ?_)
        · refine tr_icF (cd := .ne) (fun q => q h10) ?_
          refine tr_blk 1 (pc' := 75) (rows' := kb_349_43.drop 15) (loc' := [.inr (9, 0, 0, 1), .inr (30, 2, 0, 6), .inl (.int x2), .inl (.int x3), .inl (.int x4), .inl (.int x5), .inl (.int x6), .inl (.int s0)]) (st' := [.inl (.int (1 : Int32))]) (P1 := P) rfl ⟨trivial, trivial⟩ ?_
          refine tr_goto ?_
          refine tr_nil (rows2 := kb_349_79) rfl (List.cons_ne_nil _ _) ?_
          refine tr_blk 2 (pc' := 84) (rows' := kb_349_79.drop 2) (loc' := [.inr (9, 0, 0, 1), .inr (30, 2, 0, 6), .inl (.int x2), .inl (.int x3), .inl (.int (x4 + 1)), .inl (.int (1 : Int32)), .inl (.int x6), .inl (.int s0)]) (st' := []) (P1 := P) rfl ⟨trivial, trivial, trivial⟩ ?_
          refine tr_goto ?_
          refine tr_nil (rows2 := kb_349_112) rfl (List.cons_ne_nil _ _) ?_
          refine tr_blk 1 (pc' := 115) (rows' := kb_349_112.drop 1) (loc' := [.inr (9, 0, 0, 1), .inr (30, 2, 0, 6), .inl (.int x2), .inl (.int x3), .inl (.int (x4 + 1)), .inl (.int (1 : Int32)), .inl (.int (x6 + 1)), .inl (.int s0)]) (st' := []) (P1 := P) rfl ⟨trivial, trivial⟩ ?_
          refine tr_goto ?_
          exact hH14 x2 x3 (x4 + 1) (1 : Int32) (x6 + 1) (.inl (.int s0))
        · refine tr_icT (cd := .ne) h10 ?_
          refine tr_nil (rows2 := kb_349_78) rfl (List.cons_ne_nil _ _) ?_
          refine tr_blk 1 (pc' := 79) (rows' := kb_349_78.drop 1) (loc' := [.inr (9, 0, 0, 1), .inr (30, 2, 0, 6), .inl (.int x2), .inl (.int x3), .inl (.int x4), .inl (.int x5), .inl (.int x6), .inl (.int s0)]) (st' := [.inl (.int (0 : Int32))]) (P1 := P) rfl ⟨trivial, trivial⟩ ?_
          refine tr_nil (rows2 := kb_349_79) rfl (List.cons_ne_nil _ _) ?_
          refine tr_blk 2 (pc' := 84) (rows' := kb_349_79.drop 2) (loc' := [.inr (9, 0, 0, 1), .inr (30, 2, 0, 6), .inl (.int x2), .inl (.int x3), .inl (.int (x4 + 1)), .inl (.int (0 : Int32)), .inl (.int x6), .inl (.int s0)]) (st' := []) (P1 := P) rfl ⟨trivial, trivial, trivial⟩ ?_
          refine tr_goto ?_
          refine tr_nil (rows2 := kb_349_112) rfl (List.cons_ne_nil _ _) ?_
          refine tr_blk 1 (pc' := 115) (rows' := kb_349_112.drop 1) (loc' := [.inr (9, 0, 0, 1), .inr (30, 2, 0, 6), .inl (.int x2), .inl (.int x3), .inl (.int (x4 + 1)), .inl (.int (0 : Int32)), .inl (.int (x6 + 1)), .inl (.int s0)]) (st' := []) (P1 := P) rfl ⟨trivial, trivial⟩ ?_
          refine tr_goto ?_
          exact hH14 x2 x3 (x4 + 1) (0 : Int32) (x6 + 1) (.inl (.int s0))
      · refine tr_icT (cd := .ge) (Int32.not_lt.mp h9) ?_
        refine tr_nil (rows2 := kb_349_78) rfl (List.cons_ne_nil _ _) ?_
        refine tr_blk 1 (pc' := 79) (rows' := kb_349_78.drop 1) (loc' := [.inr (9, 0, 0, 1), .inr (30, 2, 0, 6), .inl (.int x2), .inl (.int x3), .inl (.int x4), .inl (.int x5), .inl (.int x6), .inl (.int s0)]) (st' := [.inl (.int (0 : Int32))]) (P1 := P) rfl ⟨trivial, trivial⟩ ?_
        refine tr_nil (rows2 := kb_349_79) rfl (List.cons_ne_nil _ _) ?_
        refine tr_blk 2 (pc' := 84) (rows' := kb_349_79.drop 2) (loc' := [.inr (9, 0, 0, 1), .inr (30, 2, 0, 6), .inl (.int x2), .inl (.int x3), .inl (.int (x4 + 1)), .inl (.int (0 : Int32)), .inl (.int x6), .inl (.int s0)]) (st' := []) (P1 := P) rfl ⟨trivial, trivial, trivial⟩ ?_
        refine tr_goto ?_
        refine tr_nil (rows2 := kb_349_112) rfl (List.cons_ne_nil _ _) ?_
        refine tr_blk 1 (pc' := 115) (rows' := kb_349_112.drop 1) (loc' := [.inr (9, 0, 0, 1), .inr (30, 2, 0, 6), .inl (.int x2), .inl (.int x3), .inl (.int (x4 + 1)), .inl (.int (0 : Int32)), .inl (.int (x6 + 1)), .inl (.int s0)]) (st' := []) (P1 := P) rfl ⟨trivial, trivial⟩ ?_
        refine tr_goto ?_
        exact hH14 x2 x3 (x4 + 1) (0 : Int32) (x6 + 1) (.inl (.int s0))
def f_349_2_14 (P : ab_P) : Nat → Int32 → Int32 → Int32 → Int32 → Int32 → Option Int32
  | 0, _, _, _, _, _ => none
  | n + 1, x2, x3, x4, x5, x6 =>
    Option.bind (f_354_2 P) fun v1 =>
    if v1 < x6 then
      some (-1 : Int32)
    else
    Option.bind (f_354_2 P) fun v2 =>
    if x6 < v2 then
      Option.bind (f_355_2 P x6) fun v3 =>
      f_349_2_43 P (fun y0 y1 y2 y3 y4 => f_349_2_14 P n y0 y1 y2 y3 y4) x2 x3 x4 x5 x6 v3
    else
    f_349_2_43 P (fun y0 y1 y2 y3 y4 => f_349_2_14 P n y0 y1 y2 y3 y4) x2 x3 x4 x5 x6 (32 : Int32)
theorem t_349_2_14 {xs : Nat × (Nat → Int32)} {d : Nat} (P : ab_P) : ∀ n : Nat, ∀ (x2 : Int32) (x3 : Int32) (x4 : Int32) (x5 : Int32) (x6 : Int32) (d7 : ab_V), ab_tr xs (rI P) (d + 2) 349 14 [] [.inr (9, 0, 0, 1), .inr (30, 2, 0, 6), .inl (.int x2), .inl (.int x3), .inl (.int x4), .inl (.int x5), .inl (.int x6), d7] [] P (f_349_2_14 P n x2 x3 x4 x5 x6) := by
  intro n
  induction n with
  | zero => intro x2 x3 x4 x5 x6 d7; exact tr_no
  | succ n ih =>
    intro x2 x3 x4 x5 x6 d7
    refine tr_nil (rows2 := kb_349_14) rfl (List.cons_ne_nil _ _) ?_
    refine tr_blk 2 (pc' := 17) (rows' := kb_349_14.drop 2) (loc' := [.inr (9, 0, 0, 1), .inr (30, 2, 0, 6), .inl (.int x2), .inl (.int x3), .inl (.int x4), .inl (.int x5), .inl (.int x6), d7]) (st' := [.inr (30, 2, 0, 6), .inl (.int x6)]) (P1 := P) rfl ⟨trivial, trivial, trivial⟩ ?_
    refine tr_cRI (z := km_354) (av := [.inr (30, 2, 0, 6)]) (st' := [.inl (.int x6)]) rfl rfl rfl (Nat.le_of_ble_eq_true rfl) ⟨rfl, Or.inr (by decide)⟩ rfl (Nat.le_of_ble_eq_true rfl) (t_354_2 P) (fun v1 => ?_)
    refine tr_if (fun h11 => ?_) (fun h11 => ?_)
    · refine tr_icT (cd := .gt) h11 ?_
      refine tr_nil (rows2 := kb_349_118) rfl (List.cons_ne_nil _ _) ?_
      refine tr_blk 1 (pc' := 119) (rows' := kb_349_118.drop 1) (loc' := [.inr (9, 0, 0, 1), .inr (30, 2, 0, 6), .inl (.int x2), .inl (.int x3), .inl (.int x4), .inl (.int x5), .inl (.int x6), d7]) (st' := [.inl (.int (-1 : Int32))]) (P1 := P) rfl ⟨trivial, trivial⟩ ?_
      exact tr_reI (z := km_349) rfl ⟨_, rfl, rfl⟩ rfl
    · refine tr_icF (cd := .gt) h11 ?_
      refine tr_blk 2 (pc' := 26) (rows' := kb_349_14.drop 6) (loc' := [.inr (9, 0, 0, 1), .inr (30, 2, 0, 6), .inl (.int x2), .inl (.int x3), .inl (.int x4), .inl (.int x5), .inl (.int x6), d7]) (st' := [.inr (30, 2, 0, 6), .inl (.int x6)]) (P1 := P) rfl ⟨trivial, trivial, trivial⟩ ?_
      refine tr_cRI (z := km_354) (av := [.inr (30, 2, 0, 6)]) (st' := [.inl (.int x6)]) rfl rfl rfl (Nat.le_of_ble_eq_true rfl) ⟨rfl, Or.inr (by decide)⟩ rfl (Nat.le_of_ble_eq_true rfl) (t_354_2 P) (fun v2 => ?_)
      refine tr_if (fun h12 => ?_) (fun h12 => ?_)
      · refine tr_icF (cd := .ge) (Int32.not_le.mpr h12) ?_
        refine tr_blk 2 (pc' := 35) (rows' := kb_349_14.drop 10) (loc' := [.inr (9, 0, 0, 1), .inr (30, 2, 0, 6), .inl (.int x2), .inl (.int x3), .inl (.int x4), .inl (.int x5), .inl (.int x6), d7]) (st' := [.inl (.int x6), .inr (30, 2, 0, 6)]) (P1 := P) rfl ⟨trivial, trivial, trivial⟩ ?_
        refine tr_cRI (z := km_355) (av := [.inr (30, 2, 0, 6), .inl (.int x6)]) (st' := []) rfl rfl rfl (Nat.le_of_ble_eq_true rfl) ⟨rfl, Or.inr (by decide)⟩ rfl (Nat.le_of_ble_eq_true rfl) (t_355_2 P x6) (fun v3 => ?_)
        refine tr_goto ?_
        exact t_349_2_43 P _ ih x2 x3 x4 x5 x6 v3 (d7)
      · refine tr_icT (cd := .ge) (Int32.not_lt.mp h12) ?_
        refine tr_nil (rows2 := kb_349_41) rfl (List.cons_ne_nil _ _) ?_
        refine tr_blk 1 (pc' := 43) (rows' := kb_349_41.drop 1) (loc' := [.inr (9, 0, 0, 1), .inr (30, 2, 0, 6), .inl (.int x2), .inl (.int x3), .inl (.int x4), .inl (.int x5), .inl (.int x6), d7]) (st' := [.inl (.int (32 : Int32))]) (P1 := P) rfl ⟨trivial, trivial⟩ ?_
        exact t_349_2_43 P _ ih x2 x3 x4 x5 x6 (32 : Int32) (d7)
def f_349_2 (N : Nat) (P : ab_P) (a2 : Int32) : Option Int32 :=
    f_349_2_14 P N a2 (0 : Int32) (P.1 1 4) (1 : Int32) (0 : Int32)
theorem t_349_2 {xs : Nat × (Nat → Int32)} {d : Nat} (N : Nat) (P : ab_P) : ∀ (a2 : Int32), ab_tr xs (rI P) (d + 2) 349 0 [] [.inr (9, 0, 0, 1), .inr (30, 2, 0, 6), .inl (.int a2), ab_top, ab_top, ab_top, ab_top, ab_top] [] P (f_349_2 N P a2) := by
  intro a2
  unfold f_349_2
  refine tr_nil (rows2 := kb_349_0) rfl (List.cons_ne_nil _ _) ?_
  refine tr_blk 9 (pc' := 14) (rows' := kb_349_0.drop 9) (loc' := [.inr (9, 0, 0, 1), .inr (30, 2, 0, 6), .inl (.int a2), .inl (.int (0 : Int32)), .inl (.int (P.1 1 4)), .inl (.int (1 : Int32)), .inl (.int (0 : Int32)), ab_top]) (st' := []) (P1 := P) rfl ⟨trivial, trivial, trivial, trivial, trivial, trivial, trivial, trivial, trivial, trivial⟩ ?_
  exact t_349_2_14 P N a2 (0 : Int32) (P.1 1 4) (1 : Int32) (0 : Int32) (ab_top)
def f_320_2_79 (x2 : Int32) (s0 : Int32) (P : ab_P) : Option (Int32 × ab_P) :=
    if s0 = (-1 : Int32) then
      Option.bind (f_290 (1 : Int32) (P.1 1 4) P) fun P8 =>
      some (s0, P8)
    else
    ab_lt (ab_pI P 1 3 x2) fun P7 =>
    some (s0, P7)
theorem t_320_2_79 {xs : Nat × (Nat → Int32)} {d : Nat} : ∀ (x2 : Int32) (s0 : Int32) (d3 : Int32) (P : ab_P), ab_tr xs wI (d + 3) 320 79 [] [.inr (9, 0, 0, 1), .inr (30, 2, 0, 6), .inl (.int x2), .inl (.int d3)] [.inl (.int s0)] P (f_320_2_79 x2 s0 P) := by
  intro x2 s0 d3 P
  unfold f_320_2_79
  refine tr_nil (rows2 := kb_320_79) rfl (List.cons_ne_nil _ _) ?_
  refine tr_blk 3 (pc' := 82) (rows' := kb_320_79.drop 3) (loc' := [.inr (9, 0, 0, 1), .inr (30, 2, 0, 6), .inl (.int x2), .inl (.int s0)]) (st' := [.inl (.int (-1 : Int32)), .inl (.int s0)]) (P1 := P) rfl ⟨trivial, trivial, trivial, trivial⟩ ?_
  refine tr_if (fun h9 => ?_) (fun h9 => ?_)
  · refine tr_icF (cd := .ne) (fun q => q h9) ?_
    refine tr_blk 4 (pc' := 91) (rows' := kb_320_79.drop 8) (loc' := [.inr (9, 0, 0, 1), .inr (30, 2, 0, 6), .inl (.int x2), .inl (.int s0)]) (st' := [.inl (.int (P.1 1 4)), .inl (.int (1 : Int32)), .inr (9, 0, 0, 1)]) (P1 := P) rfl ⟨trivial, trivial, trivial, trivial, trivial⟩ ?_
    refine tr_cWV (z := km_290) (av := [.inr (9, 0, 0, 1), .inl (.int (1 : Int32)), .inl (.int (P.1 1 4))]) (st' := []) rfl rfl rfl (Nat.le_of_ble_eq_true rfl) ⟨rfl, Or.inl (by decide)⟩ rfl (Nat.le_of_ble_eq_true rfl) (t_290 (1 : Int32) (P.1 1 4) P) (fun P8 => ?_)
    refine tr_goto ?_
    refine tr_nil (rows2 := kb_320_102) rfl (List.cons_ne_nil _ _) ?_
    refine tr_blk 1 (pc' := 103) (rows' := kb_320_102.drop 1) (loc' := [.inr (9, 0, 0, 1), .inr (30, 2, 0, 6), .inl (.int x2), .inl (.int s0)]) (st' := [.inl (.int s0)]) (P1 := P8) rfl ⟨trivial, trivial⟩ ?_
    exact tr_reI (z := km_320) rfl ⟨_, rfl, rfl⟩ rfl
  · refine tr_icT (cd := .ne) h9 ?_
    refine tr_nil (rows2 := kb_320_97) rfl (List.cons_ne_nil _ _) ?_
    refine tr_blk 3 (pc' := 102) (rows' := kb_320_97.drop 3) (loc' := [.inr (9, 0, 0, 1), .inr (30, 2, 0, 6), .inl (.int x2), .inl (.int s0)]) (st' := []) (P1 := (ab_pI P 1 3 x2)) rfl ⟨trivial, trivial, trivial, trivial⟩ ?_
    refine tr_lt (fun P7 => ?_)
    refine tr_nil (rows2 := kb_320_102) rfl (List.cons_ne_nil _ _) ?_
    refine tr_blk 1 (pc' := 103) (rows' := kb_320_102.drop 1) (loc' := [.inr (9, 0, 0, 1), .inr (30, 2, 0, 6), .inl (.int x2), .inl (.int s0)]) (st' := [.inl (.int s0)]) (P1 := P7) rfl ⟨trivial, trivial⟩ ?_
    exact tr_reI (z := km_320) rfl ⟨_, rfl, rfl⟩ rfl
def f_320_2_61 (N : Nat) (x2 : Int32) (P : ab_P) : Option (Int32 × ab_P) :=
    if (P.1 1 4) < x2 then
      Option.bind (f_349_2 N P x2) fun v6 =>
      f_320_2_79 x2 v6 P
    else
    f_320_2_79 x2 (-1 : Int32) P
theorem t_320_2_61 {xs : Nat × (Nat → Int32)} {d : Nat} (N : Nat) : ∀ (x2 : Int32) (d3 : Int32) (P : ab_P), ab_tr xs wI (d + 3) 320 61 [] [.inr (9, 0, 0, 1), .inr (30, 2, 0, 6), .inl (.int x2), .inl (.int d3)] [] P (f_320_2_61 N x2 P) := by
  intro x2 d3 P
  unfold f_320_2_61
  refine tr_nil (rows2 := kb_320_61) rfl (List.cons_ne_nil _ _) ?_
  refine tr_blk 3 (pc' := 66) (rows' := kb_320_61.drop 3) (loc' := [.inr (9, 0, 0, 1), .inr (30, 2, 0, 6), .inl (.int x2), .inl (.int d3)]) (st' := [.inl (.int (P.1 1 4)), .inl (.int x2)]) (P1 := P) rfl ⟨trivial, trivial, trivial, trivial⟩ ?_
  refine tr_if (fun h10 => ?_) (fun h10 => ?_)
  · refine tr_icF (cd := .le) (Int32.not_le.mpr h10) ?_
    refine tr_blk 3 (pc' := 72) (rows' := kb_320_61.drop 7) (loc' := [.inr (9, 0, 0, 1), .inr (30, 2, 0, 6), .inl (.int x2), .inl (.int d3)]) (st' := [.inl (.int x2), .inr (30, 2, 0, 6), .inr (9, 0, 0, 1)]) (P1 := P) rfl ⟨trivial, trivial, trivial, trivial⟩ ?_
    refine tr_cRI (z := km_349) (av := [.inr (9, 0, 0, 1), .inr (30, 2, 0, 6), .inl (.int x2)]) (st' := []) rfl rfl rfl (Nat.le_of_ble_eq_true rfl) ⟨rfl, Or.inl (by decide)⟩ rfl (Nat.le_of_ble_eq_true rfl) (t_349_2 N P x2) (fun v6 => ?_)
    refine tr_goto ?_
    exact t_320_2_79 x2 v6 (d3) P
  · refine tr_icT (cd := .le) (Int32.not_lt.mp h10) ?_
    refine tr_nil (rows2 := kb_320_78) rfl (List.cons_ne_nil _ _) ?_
    refine tr_blk 1 (pc' := 79) (rows' := kb_320_78.drop 1) (loc' := [.inr (9, 0, 0, 1), .inr (30, 2, 0, 6), .inl (.int x2), .inl (.int d3)]) (st' := [.inl (.int (-1 : Int32))]) (P1 := P) rfl ⟨trivial, trivial⟩ ?_
    exact t_320_2_79 x2 (-1 : Int32) (d3) P
def f_320_2_32 (N : Nat) : Nat → Int32 → Int32 → ab_P → Option (Int32 × ab_P)
  | 0, _, _, _ => none
  | n + 1, x2, x3, P =>
    if x3 < (P.1 1 2) then
      Option.bind (f_347 P x3) fun v4 =>
      Option.bind (f_348 P v4) fun v5 =>
      if v5 = (0 : Int32) then
        f_320_2_61 N x2 P
      else
      f_320_2_32 N n (x3 + (1 : Int32)) (x3 + 1) P
    else
    f_320_2_61 N x2 P
theorem t_320_2_32 {xs : Nat × (Nat → Int32)} {d : Nat} (N : Nat) : ∀ n : Nat, ∀ (x2 : Int32) (x3 : Int32) (P : ab_P), ab_tr xs wI (d + 3) 320 32 [] [.inr (9, 0, 0, 1), .inr (30, 2, 0, 6), .inl (.int x2), .inl (.int x3)] [] P (f_320_2_32 N n x2 x3 P) := by
  intro n
  induction n with
  | zero => intro x2 x3 P; exact tr_no
  | succ n ih =>
    intro x2 x3 P
    refine tr_nil (rows2 := kb_320_32) rfl (List.cons_ne_nil _ _) ?_
    refine tr_blk 3 (pc' := 37) (rows' := kb_320_32.drop 3) (loc' := [.inr (9, 0, 0, 1), .inr (30, 2, 0, 6), .inl (.int x2), .inl (.int x3)]) (st' := [.inl (.int (P.1 1 2)), .inl (.int x3)]) (P1 := P) rfl ⟨trivial, trivial, trivial, trivial⟩ ?_
    refine tr_if (fun h11 => ?_) (fun h11 => ?_)
    · refine tr_icF (cd := .ge) (Int32.not_le.mpr h11) ?_
      refine tr_blk 2 (pc' := 42) (rows' := kb_320_32.drop 6) (loc' := [.inr (9, 0, 0, 1), .inr (30, 2, 0, 6), .inl (.int x2), .inl (.int x3)]) (st' := [.inl (.int x3), .inr (9, 0, 0, 1)]) (P1 := P) rfl ⟨trivial, trivial, trivial⟩ ?_
      refine tr_cRI (z := km_347) (av := [.inr (9, 0, 0, 1), .inl (.int x3)]) (st' := []) rfl rfl rfl (Nat.le_of_ble_eq_true rfl) ⟨rfl, Or.inl (by decide)⟩ rfl (Nat.le_of_ble_eq_true rfl) (t_347 P x3) (fun v4 => ?_)
      refine tr_cRI (z := km_348) (av := [.inl (.int v4)]) (st' := []) rfl rfl rfl (Nat.le_of_ble_eq_true rfl) trivial rfl (Nat.le_of_ble_eq_true rfl) (t_348 P v4) (fun v5 => ?_)
      refine tr_if (fun h12 => ?_) (fun h12 => ?_)
      · refine tr_ifT (cd := .eq) h12 ?_
        exact t_320_2_61 N x2 (x3) P
      · refine tr_ifF (cd := .eq) h12 ?_
        refine tr_blk 5 (pc' := 58) (rows' := kb_320_32.drop 14) (loc' := [.inr (9, 0, 0, 1), .inr (30, 2, 0, 6), .inl (.int (x3 + (1 : Int32))), .inl (.int (x3 + 1))]) (st' := []) (P1 := P) rfl ⟨trivial, trivial, trivial, trivial, trivial, trivial⟩ ?_
        refine tr_goto ?_
        exact ih (x3 + (1 : Int32)) (x3 + 1) P
    · refine tr_icT (cd := .ge) (Int32.not_lt.mp h11) ?_
      exact t_320_2_61 N x2 (x3) P
def f_320_2 (N : Nat) (P : ab_P) : Option (Int32 × ab_P) :=
    if (P.1 1 5) = (0 : Int32) then
      ab_b2 (f_319 N P) fun v2 P1 =>
      ab_lt (ab_pI P1 1 4 (P1.1 1 3)) fun P3 =>
      f_320_2_32 N N (P3.1 1 3) (P3.1 1 3) P3
    else
    some ((-1 : Int32), P)
theorem t_320_2 {xs : Nat × (Nat → Int32)} {d : Nat} (N : Nat) : ∀ (P : ab_P), ab_tr xs wI (d + 3) 320 0 [] [.inr (9, 0, 0, 1), .inr (30, 2, 0, 6), ab_top, ab_top] [] P (f_320_2 N P) := by
  intro P
  unfold f_320_2
  refine tr_nil (rows2 := kb_320_0) rfl (List.cons_ne_nil _ _) ?_
  refine tr_blk 2 (pc' := 4) (rows' := kb_320_0.drop 2) (loc' := [.inr (9, 0, 0, 1), .inr (30, 2, 0, 6), ab_top, ab_top]) (st' := [.inl (.int (P.1 1 5))]) (P1 := P) rfl ⟨trivial, trivial, trivial⟩ ?_
  refine tr_if (fun h13 => ?_) (fun h13 => ?_)
  · refine tr_ifT (cd := .eq) h13 ?_
    refine tr_nil (rows2 := kb_320_9) rfl (List.cons_ne_nil _ _) ?_
    refine tr_blk 1 (pc' := 10) (rows' := kb_320_9.drop 1) (loc' := [.inr (9, 0, 0, 1), .inr (30, 2, 0, 6), ab_top, ab_top]) (st' := [.inr (9, 0, 0, 1)]) (P1 := P) rfl ⟨trivial, trivial⟩ ?_
    refine tr_cWI (z := km_319) (av := [.inr (9, 0, 0, 1)]) (st' := []) rfl rfl rfl (Nat.le_of_ble_eq_true rfl) ⟨rfl, Or.inl (by decide)⟩ rfl (Nat.le_of_ble_eq_true rfl) (t_319 N P) (fun v2 P1 => ?_)
    refine tr_blk 5 (pc' := 22) (rows' := kb_320_9.drop 7) (loc' := [.inr (9, 0, 0, 1), .inr (30, 2, 0, 6), ab_top, ab_top]) (st' := []) (P1 := (ab_pI P1 1 4 (P1.1 1 3))) rfl ⟨trivial, trivial, trivial, trivial, trivial, trivial⟩ ?_
    refine tr_lt (fun P3 => ?_)
    refine tr_blk 6 (pc' := 32) (rows' := kb_320_9.drop 13) (loc' := [.inr (9, 0, 0, 1), .inr (30, 2, 0, 6), .inl (.int (P3.1 1 3)), .inl (.int (P3.1 1 3))]) (st' := []) (P1 := P3) rfl ⟨trivial, trivial, trivial, trivial, trivial, trivial, trivial⟩ ?_
    exact t_320_2_32 N N (P3.1 1 3) (P3.1 1 3) P3
  · refine tr_ifF (cd := .eq) h13 ?_
    refine tr_blk 1 (pc' := 8) (rows' := kb_320_0.drop 4) (loc' := [.inr (9, 0, 0, 1), .inr (30, 2, 0, 6), ab_top, ab_top]) (st' := [.inl (.int (-1 : Int32))]) (P1 := P) rfl ⟨trivial, trivial⟩ ?_
    exact tr_reI (z := km_320) rfl ⟨_, rfl, rfl⟩ rfl
def f_331 (a1 : Int32) (a2 : Int32) (a3 : Int32) (a4 : Int32) (P : ab_P) : Option ab_P :=
    if ((P.1 52 5) * (4 : Int32)) < (0 : Int32) then
      some P
    else
    if (((P.1 52 5) * (4 : Int32)) + (3 : Int32)) < (120 : Int32) then
      if ab_gi ((P.1 52 5) * (4 : Int32)) 120 then
      ab_lt (ab_pI P 53 (((P.1 52 5) * (4 : Int32))).toNatClampNeg a1) fun P2 =>
      if ab_gi (((P.1 52 5) * (4 : Int32)) + (1 : Int32)) 120 then
      ab_lt (ab_pI P2 53 ((((P.1 52 5) * (4 : Int32)) + (1 : Int32))).toNatClampNeg a2) fun P4 =>
      if ab_gi (((P.1 52 5) * (4 : Int32)) + (2 : Int32)) 120 then
      ab_lt (ab_pI P4 53 ((((P.1 52 5) * (4 : Int32)) + (2 : Int32))).toNatClampNeg a3) fun P6 =>
      if ab_gi (((P.1 52 5) * (4 : Int32)) + (3 : Int32)) 120 then
      ab_lt (ab_pI P6 53 ((((P.1 52 5) * (4 : Int32)) + (3 : Int32))).toNatClampNeg a4) fun P8 =>
      ab_lt (ab_pI P8 52 5 ((P8.1 52 5) + (1 : Int32))) fun P9 =>
      some P9
      else none
      else none
      else none
      else none
    else
    some P
theorem t_331 {xs : Nat × (Nat → Int32)} {d : Nat} : ∀ (a1 : Int32) (a2 : Int32) (a3 : Int32) (a4 : Int32) (P : ab_P), ab_tr xs wV (d + 0) 331 0 [] [.inr (2, 0, 0, 52), .inl (.int a1), .inl (.int a2), .inl (.int a3), .inl (.int a4), ab_top] [] P (f_331 a1 a2 a3 a4 P) := by
  intro a1 a2 a3 a4 P
  unfold f_331
  refine tr_nil (rows2 := kb_331_0) rfl (List.cons_ne_nil _ _) ?_
  refine tr_blk 6 (pc' := 10) (rows' := kb_331_0.drop 6) (loc' := [.inr (2, 0, 0, 52), .inl (.int a1), .inl (.int a2), .inl (.int a3), .inl (.int a4), .inl (.int ((P.1 52 5) * (4 : Int32)))]) (st' := [.inl (.int ((P.1 52 5) * (4 : Int32)))]) (P1 := P) rfl ⟨trivial, trivial, trivial, trivial, trivial, trivial, trivial⟩ ?_
  refine tr_if (fun h10 => ?_) (fun h10 => ?_)
  · refine tr_ifT (cd := .lt) h10 ?_
    refine tr_nil (rows2 := kb_331_74) rfl (List.cons_ne_nil _ _) ?_
    exact tr_reV (z := km_331) rfl rfl rfl
  · refine tr_ifF (cd := .lt) h10 ?_
    refine tr_blk 6 (pc' := 22) (rows' := kb_331_0.drop 13) (loc' := [.inr (2, 0, 0, 52), .inl (.int a1), .inl (.int a2), .inl (.int a3), .inl (.int a4), .inl (.int ((P.1 52 5) * (4 : Int32)))]) (st' := [.inl (.int (120 : Int32)), .inl (.int (((P.1 52 5) * (4 : Int32)) + (3 : Int32)))]) (P1 := P) rfl ⟨trivial, trivial, trivial, trivial, trivial, (Or.inl (by decide)), trivial⟩ ?_
    refine tr_if (fun h11 => ?_) (fun h11 => ?_)
    · refine tr_icF (cd := .ge) (Int32.not_le.mpr h11) ?_
      refine tr_gd (fun h1 => ?_)
      refine tr_blk 5 (pc' := 33) (rows' := kb_331_0.drop 19) (loc' := [.inr (2, 0, 0, 52), .inl (.int a1), .inl (.int a2), .inl (.int a3), .inl (.int a4), .inl (.int ((P.1 52 5) * (4 : Int32)))]) (st' := []) (P1 := (ab_pI P 53 (((P.1 52 5) * (4 : Int32))).toNatClampNeg a1)) rfl ⟨trivial, trivial, trivial, trivial, h1, trivial⟩ ?_
      refine tr_lt (fun P2 => ?_)
      refine tr_gd (fun h3 => ?_)
      refine tr_blk 7 (pc' := 43) (rows' := kb_331_0.drop 26) (loc' := [.inr (2, 0, 0, 52), .inl (.int a1), .inl (.int a2), .inl (.int a3), .inl (.int a4), .inl (.int ((P.1 52 5) * (4 : Int32)))]) (st' := []) (P1 := (ab_pI P2 53 ((((P.1 52 5) * (4 : Int32)) + (1 : Int32))).toNatClampNeg a2)) rfl ⟨trivial, trivial, trivial, trivial, trivial, trivial, h3, trivial⟩ ?_
      refine tr_lt (fun P4 => ?_)
      refine tr_gd (fun h5 => ?_)
      refine tr_blk 7 (pc' := 53) (rows' := kb_331_0.drop 33) (loc' := [.inr (2, 0, 0, 52), .inl (.int a1), .inl (.int a2), .inl (.int a3), .inl (.int a4), .inl (.int ((P.1 52 5) * (4 : Int32)))]) (st' := []) (P1 := (ab_pI P4 53 ((((P.1 52 5) * (4 : Int32)) + (2 : Int32))).toNatClampNeg a3)) rfl ⟨trivial, trivial, trivial, trivial, trivial, trivial, h5, trivial⟩ ?_
      refine tr_lt (fun P6 => ?_)
      refine tr_gd (fun h7 => ?_)
      refine tr_blk 7 (pc' := 64) (rows' := kb_331_0.drop 40) (loc' := [.inr (2, 0, 0, 52), .inl (.int a1), .inl (.int a2), .inl (.int a3), .inl (.int a4), .inl (.int ((P.1 52 5) * (4 : Int32)))]) (st' := []) (P1 := (ab_pI P6 53 ((((P.1 52 5) * (4 : Int32)) + (3 : Int32))).toNatClampNeg a4)) rfl ⟨trivial, trivial, trivial, trivial, trivial, trivial, h7, trivial⟩ ?_
      refine tr_lt (fun P8 => ?_)
      refine tr_blk 6 (pc' := 74) (rows' := kb_331_0.drop 46) (loc' := [.inr (2, 0, 0, 52), .inl (.int a1), .inl (.int a2), .inl (.int a3), .inl (.int a4), .inl (.int ((P.1 52 5) * (4 : Int32)))]) (st' := []) (P1 := (ab_pI P8 52 5 ((P8.1 52 5) + (1 : Int32)))) rfl ⟨trivial, trivial, trivial, trivial, trivial, trivial, trivial⟩ ?_
      refine tr_lt (fun P9 => ?_)
      refine tr_nil (rows2 := kb_331_74) rfl (List.cons_ne_nil _ _) ?_
      exact tr_reV (z := km_331) rfl rfl rfl
    · refine tr_icT (cd := .ge) (Int32.not_lt.mp h11) ?_
      refine tr_nil (rows2 := kb_331_74) rfl (List.cons_ne_nil _ _) ?_
      exact tr_reV (z := km_331) rfl rfl rfl
def f_334 (N : Nat) (a2 : Int32) (P : ab_P) : Option ab_P :=
    ab_b2 (f_323 N (0 : Int32) ((P.1 3 5) - (1 : Int32)) P) fun v2 P1 =>
    ab_b2 (f_350 N v2 (0 : Int32) ((P1.1 3 5) - (1 : Int32)) P1) fun v4 P3 =>
    ab_b2 (f_323 N (1 : Int32) (999 : Int32) P3) fun v6 P5 =>
    Option.bind (f_331 a2 v2 v4 v6 P5) fun P7 =>
    some P7
theorem t_334 {xs : Nat × (Nat → Int32)} {d : Nat} (N : Nat) : ∀ (a2 : Int32) (P : ab_P), ab_tr xs wV (d + 4) 334 0 [] [.inr (2, 0, 0, 52), .inr (9, 0, 0, 1), .inl (.int a2), ab_top, ab_top] [] P (f_334 N a2 P) := by
  intro a2 P
  unfold f_334
  refine tr_nil (rows2 := kb_334_0) rfl (List.cons_ne_nil _ _) ?_
  refine tr_blk 7 (pc' := 11) (rows' := kb_334_0.drop 7) (loc' := [.inr (2, 0, 0, 52), .inr (9, 0, 0, 1), .inl (.int a2), ab_top, ab_top]) (st' := [.inl (.int ((P.1 3 5) - (1 : Int32))), .inl (.int (0 : Int32)), .inr (9, 0, 0, 1)]) (P1 := P) rfl ⟨trivial, trivial, trivial, trivial, trivial, trivial, trivial, trivial⟩ ?_
  refine tr_cWI (z := km_323) (av := [.inr (9, 0, 0, 1), .inl (.int (0 : Int32)), .inl (.int ((P.1 3 5) - (1 : Int32)))]) (st' := []) rfl rfl rfl (Nat.le_of_ble_eq_true rfl) ⟨rfl, Or.inl (by decide)⟩ rfl (Nat.le_of_ble_eq_true rfl) (t_323 N (0 : Int32) ((P.1 3 5) - (1 : Int32)) P) (fun v2 P1 => ?_)
  refine tr_blk 9 (pc' := 27) (rows' := kb_334_0.drop 17) (loc' := [.inr (2, 0, 0, 52), .inr (9, 0, 0, 1), .inl (.int a2), .inl (.int v2), ab_top]) (st' := [.inl (.int ((P1.1 3 5) - (1 : Int32))), .inl (.int (0 : Int32)), .inl (.int v2), .inr (9, 0, 0, 1)]) (P1 := P1) rfl ⟨trivial, trivial, trivial, trivial, trivial, trivial, trivial, trivial, trivial, trivial⟩ ?_
  refine tr_cWI (z := km_350) (av := [.inr (9, 0, 0, 1), .inl (.int v2), .inl (.int (0 : Int32)), .inl (.int ((P1.1 3 5) - (1 : Int32)))]) (st' := []) rfl rfl rfl (Nat.le_of_ble_eq_true rfl) ⟨rfl, Or.inl (by decide)⟩ rfl (Nat.le_of_ble_eq_true rfl) (t_350 N v2 (0 : Int32) ((P1.1 3 5) - (1 : Int32)) P1) (fun v4 P3 => ?_)
  refine tr_blk 8 (pc' := 42) (rows' := kb_334_0.drop 26) (loc' := [.inr (2, 0, 0, 52), .inr (9, 0, 0, 1), .inl (.int a2), .inl (.int v2), .inl (.int v4)]) (st' := [.inl (.int (999 : Int32)), .inl (.int (1 : Int32)), .inr (9, 0, 0, 1), .inl (.int v4), .inl (.int v2), .inl (.int a2), .inr (2, 0, 0, 52)]) (P1 := P3) rfl ⟨trivial, trivial, trivial, trivial, trivial, trivial, trivial, trivial, trivial⟩ ?_
  refine tr_cWI (z := km_323) (av := [.inr (9, 0, 0, 1), .inl (.int (1 : Int32)), .inl (.int (999 : Int32))]) (st' := [.inl (.int v4), .inl (.int v2), .inl (.int a2), .inr (2, 0, 0, 52)]) rfl rfl rfl (Nat.le_of_ble_eq_true rfl) ⟨rfl, Or.inl (by decide)⟩ rfl (Nat.le_of_ble_eq_true rfl) (t_323 N (1 : Int32) (999 : Int32) P3) (fun v6 P5 => ?_)
  refine tr_cWV (z := km_331) (av := [.inr (2, 0, 0, 52), .inl (.int a2), .inl (.int v2), .inl (.int v4), .inl (.int v6)]) (st' := []) rfl rfl rfl (Nat.le_of_ble_eq_true rfl) ⟨rfl, Or.inl (by decide)⟩ rfl (Nat.le_of_ble_eq_true rfl) (t_331 a2 v2 v4 v6 P5) (fun P7 => ?_)
  exact tr_reV (z := km_334) rfl rfl rfl
def f_332 (N : Nat) (P : ab_P) : Option (Int32 × ab_P) :=
    ab_b2 (f_323 N (0 : Int32) (39 : Int32) P) fun v2 P1 =>
    some (v2, P1)
theorem t_332 {xs : Nat × (Nat → Int32)} {d : Nat} (N : Nat) : ∀ (P : ab_P), ab_tr xs wI (d + 3) 332 0 [] [.inr (9, 0, 0, 1)] [] P (f_332 N P) := by
  intro P
  unfold f_332
  refine tr_nil (rows2 := kb_332_0) rfl (List.cons_ne_nil _ _) ?_
  refine tr_blk 3 (pc' := 4) (rows' := kb_332_0.drop 3) (loc' := [.inr (9, 0, 0, 1)]) (st' := [.inl (.int (39 : Int32)), .inl (.int (0 : Int32)), .inr (9, 0, 0, 1)]) (P1 := P) rfl ⟨trivial, trivial, trivial, trivial⟩ ?_
  refine tr_cWI (z := km_323) (av := [.inr (9, 0, 0, 1), .inl (.int (0 : Int32)), .inl (.int (39 : Int32))]) (st' := []) rfl rfl rfl (Nat.le_of_ble_eq_true rfl) ⟨rfl, Or.inl (by decide)⟩ rfl (Nat.le_of_ble_eq_true rfl) (t_323 N (0 : Int32) (39 : Int32) P) (fun v2 P1 => ?_)
  exact tr_reI (z := km_332) rfl ⟨_, rfl, rfl⟩ rfl
def f_333 (N : Nat) (P : ab_P) : Option ab_P :=
    ab_b2 (f_332 N P) fun v2 P1 =>
    ab_b2 (f_350 N v2 (0 : Int32) (39 : Int32) P1) fun v4 P3 =>
    Option.bind (f_331 (4 : Int32) v2 v4 (0 : Int32) P3) fun P5 =>
    some P5
theorem t_333 {xs : Nat × (Nat → Int32)} {d : Nat} (N : Nat) : ∀ (P : ab_P), ab_tr xs wV (d + 4) 333 0 [] [.inr (2, 0, 0, 52), .inr (9, 0, 0, 1), ab_top] [] P (f_333 N P) := by
  intro P
  unfold f_333
  refine tr_nil (rows2 := kb_333_0) rfl (List.cons_ne_nil _ _) ?_
  refine tr_blk 1 (pc' := 1) (rows' := kb_333_0.drop 1) (loc' := [.inr (2, 0, 0, 52), .inr (9, 0, 0, 1), ab_top]) (st' := [.inr (9, 0, 0, 1)]) (P1 := P) rfl ⟨trivial, trivial⟩ ?_
  refine tr_cWI (z := km_332) (av := [.inr (9, 0, 0, 1)]) (st' := []) rfl rfl rfl (Nat.le_of_ble_eq_true rfl) trivial rfl (Nat.le_of_ble_eq_true rfl) (t_332 N P) (fun v2 P1 => ?_)
  refine tr_blk 8 (pc' := 13) (rows' := kb_333_0.drop 10) (loc' := [.inr (2, 0, 0, 52), .inr (9, 0, 0, 1), .inl (.int v2)]) (st' := [.inl (.int (39 : Int32)), .inl (.int (0 : Int32)), .inl (.int v2), .inr (9, 0, 0, 1), .inl (.int v2), .inl (.int (4 : Int32)), .inr (2, 0, 0, 52)]) (P1 := P1) rfl ⟨trivial, trivial, trivial, trivial, trivial, trivial, trivial, trivial, trivial⟩ ?_
  refine tr_cWI (z := km_350) (av := [.inr (9, 0, 0, 1), .inl (.int v2), .inl (.int (0 : Int32)), .inl (.int (39 : Int32))]) (st' := [.inl (.int v2), .inl (.int (4 : Int32)), .inr (2, 0, 0, 52)]) rfl rfl rfl (Nat.le_of_ble_eq_true rfl) ⟨rfl, Or.inl (by decide)⟩ rfl (Nat.le_of_ble_eq_true rfl) (t_350 N v2 (0 : Int32) (39 : Int32) P1) (fun v4 P3 => ?_)
  refine tr_blk 1 (pc' := 17) (rows' := kb_333_0.drop 12) (loc' := [.inr (2, 0, 0, 52), .inr (9, 0, 0, 1), .inl (.int v2)]) (st' := [.inl (.int (0 : Int32)), .inl (.int v4), .inl (.int v2), .inl (.int (4 : Int32)), .inr (2, 0, 0, 52)]) (P1 := P3) rfl ⟨trivial, trivial⟩ ?_
  refine tr_cWV (z := km_331) (av := [.inr (2, 0, 0, 52), .inl (.int (4 : Int32)), .inl (.int v2), .inl (.int v4), .inl (.int (0 : Int32))]) (st' := []) rfl rfl rfl (Nat.le_of_ble_eq_true rfl) ⟨rfl, Or.inl (by decide)⟩ rfl (Nat.le_of_ble_eq_true rfl) (t_331 (4 : Int32) v2 v4 (0 : Int32) P3) (fun P5 => ?_)
  exact tr_reV (z := km_333) rfl rfl rfl
def f_292_80 (N : Nat) (x3 : Int32) (P : ab_P) : Option ab_P :=
    ab_b2 (f_323 N (1 : Int32) (30 : Int32) P) fun v6 P5 =>
    Option.bind (f_331 x3 v6 (0 : Int32) (0 : Int32) P5) fun P7 =>
    Option.bind (f_324 N (59 : Int32) P7) fun P8 =>
    some P8
theorem t_292_80 {xs : Nat × (Nat → Int32)} {d : Nat} (N : Nat) : ∀ (x3 : Int32) (d2 : Int32) (P : ab_P), ab_tr xs wV (d + 5) 292 80 [] [.inr (2, 0, 0, 52), .inr (9, 0, 0, 1), .inl (.int d2), .inl (.int x3)] [] P (f_292_80 N x3 P) := by
  intro x3 d2 P
  unfold f_292_80
  refine tr_nil (rows2 := kb_292_80) rfl (List.cons_ne_nil _ _) ?_
  refine tr_blk 5 (pc' := 86) (rows' := kb_292_80.drop 5) (loc' := [.inr (2, 0, 0, 52), .inr (9, 0, 0, 1), .inl (.int d2), .inl (.int x3)]) (st' := [.inl (.int (30 : Int32)), .inl (.int (1 : Int32)), .inr (9, 0, 0, 1), .inl (.int x3), .inr (2, 0, 0, 52)]) (P1 := P) rfl ⟨trivial, trivial, trivial, trivial, trivial, trivial⟩ ?_
  refine tr_cWI (z := km_323) (av := [.inr (9, 0, 0, 1), .inl (.int (1 : Int32)), .inl (.int (30 : Int32))]) (st' := [.inl (.int x3), .inr (2, 0, 0, 52)]) rfl rfl rfl (Nat.le_of_ble_eq_true rfl) ⟨rfl, Or.inl (by decide)⟩ rfl (Nat.le_of_ble_eq_true rfl) (t_323 N (1 : Int32) (30 : Int32) P) (fun v6 P5 => ?_)
  refine tr_blk 2 (pc' := 91) (rows' := kb_292_80.drop 8) (loc' := [.inr (2, 0, 0, 52), .inr (9, 0, 0, 1), .inl (.int d2), .inl (.int x3)]) (st' := [.inl (.int (0 : Int32)), .inl (.int (0 : Int32)), .inl (.int v6), .inl (.int x3), .inr (2, 0, 0, 52)]) (P1 := P5) rfl ⟨trivial, trivial, trivial⟩ ?_
  refine tr_cWV (z := km_331) (av := [.inr (2, 0, 0, 52), .inl (.int x3), .inl (.int v6), .inl (.int (0 : Int32)), .inl (.int (0 : Int32))]) (st' := []) rfl rfl rfl (Nat.le_of_ble_eq_true rfl) ⟨rfl, Or.inl (by decide)⟩ rfl (Nat.le_of_ble_eq_true rfl) (t_331 x3 v6 (0 : Int32) (0 : Int32) P5) (fun P7 => ?_)
  refine tr_goto ?_
  refine tr_nil (rows2 := kb_292_173) rfl (List.cons_ne_nil _ _) ?_
  refine tr_blk 2 (pc' := 176) (rows' := kb_292_173.drop 2) (loc' := [.inr (2, 0, 0, 52), .inr (9, 0, 0, 1), .inl (.int d2), .inl (.int x3)]) (st' := [.inl (.int (59 : Int32)), .inr (9, 0, 0, 1)]) (P1 := P7) rfl ⟨trivial, trivial, trivial⟩ ?_
  refine tr_cWV (z := km_324) (av := [.inr (9, 0, 0, 1), .inl (.int (59 : Int32))]) (st' := []) rfl rfl rfl (Nat.le_of_ble_eq_true rfl) ⟨rfl, Or.inl (by decide)⟩ rfl (Nat.le_of_ble_eq_true rfl) (t_324 N (59 : Int32) P7) (fun P8 => ?_)
  exact tr_reV (z := km_292) rfl rfl rfl
def f_292_97 (N : Nat) (x3 : Int32) (P : ab_P) : Option ab_P :=
    ab_b2 (f_332 N P) fun v12 P11 =>
    ab_b2 (f_323 N (0 : Int32) ((P11.1 3 5) - (1 : Int32)) P11) fun v14 P13 =>
    Option.bind (f_331 x3 v12 v14 (0 : Int32) P13) fun P15 =>
    Option.bind (f_324 N (59 : Int32) P15) fun P16 =>
    some P16
theorem t_292_97 {xs : Nat × (Nat → Int32)} {d : Nat} (N : Nat) : ∀ (x3 : Int32) (d2 : Int32) (P : ab_P), ab_tr xs wV (d + 5) 292 97 [] [.inr (2, 0, 0, 52), .inr (9, 0, 0, 1), .inl (.int d2), .inl (.int x3)] [] P (f_292_97 N x3 P) := by
  intro x3 d2 P
  unfold f_292_97
  refine tr_nil (rows2 := kb_292_97) rfl (List.cons_ne_nil _ _) ?_
  refine tr_blk 3 (pc' := 100) (rows' := kb_292_97.drop 3) (loc' := [.inr (2, 0, 0, 52), .inr (9, 0, 0, 1), .inl (.int d2), .inl (.int x3)]) (st' := [.inr (9, 0, 0, 1), .inl (.int x3), .inr (2, 0, 0, 52)]) (P1 := P) rfl ⟨trivial, trivial, trivial, trivial⟩ ?_
  refine tr_cWI (z := km_332) (av := [.inr (9, 0, 0, 1)]) (st' := [.inl (.int x3), .inr (2, 0, 0, 52)]) rfl rfl rfl (Nat.le_of_ble_eq_true rfl) trivial rfl (Nat.le_of_ble_eq_true rfl) (t_332 N P) (fun v12 P11 => ?_)
  refine tr_blk 7 (pc' := 114) (rows' := kb_292_97.drop 11) (loc' := [.inr (2, 0, 0, 52), .inr (9, 0, 0, 1), .inl (.int d2), .inl (.int x3)]) (st' := [.inl (.int ((P11.1 3 5) - (1 : Int32))), .inl (.int (0 : Int32)), .inr (9, 0, 0, 1), .inl (.int v12), .inl (.int x3), .inr (2, 0, 0, 52)]) (P1 := P11) rfl ⟨trivial, trivial, trivial, trivial, trivial, trivial, trivial, trivial⟩ ?_
  refine tr_cWI (z := km_323) (av := [.inr (9, 0, 0, 1), .inl (.int (0 : Int32)), .inl (.int ((P11.1 3 5) - (1 : Int32)))]) (st' := [.inl (.int v12), .inl (.int x3), .inr (2, 0, 0, 52)]) rfl rfl rfl (Nat.le_of_ble_eq_true rfl) ⟨rfl, Or.inl (by decide)⟩ rfl (Nat.le_of_ble_eq_true rfl) (t_323 N (0 : Int32) ((P11.1 3 5) - (1 : Int32)) P11) (fun v14 P13 => ?_)
  refine tr_blk 1 (pc' := 118) (rows' := kb_292_97.drop 13) (loc' := [.inr (2, 0, 0, 52), .inr (9, 0, 0, 1), .inl (.int d2), .inl (.int x3)]) (st' := [.inl (.int (0 : Int32)), .inl (.int v14), .inl (.int v12), .inl (.int x3), .inr (2, 0, 0, 52)]) (P1 := P13) rfl ⟨trivial, trivial⟩ ?_
  refine tr_cWV (z := km_331) (av := [.inr (2, 0, 0, 52), .inl (.int x3), .inl (.int v12), .inl (.int v14), .inl (.int (0 : Int32))]) (st' := []) rfl rfl rfl (Nat.le_of_ble_eq_true rfl) ⟨rfl, Or.inl (by decide)⟩ rfl (Nat.le_of_ble_eq_true rfl) (t_331 x3 v12 v14 (0 : Int32) P13) (fun P15 => ?_)
  refine tr_goto ?_
  refine tr_nil (rows2 := kb_292_173) rfl (List.cons_ne_nil _ _) ?_
  refine tr_blk 2 (pc' := 176) (rows' := kb_292_173.drop 2) (loc' := [.inr (2, 0, 0, 52), .inr (9, 0, 0, 1), .inl (.int d2), .inl (.int x3)]) (st' := [.inl (.int (59 : Int32)), .inr (9, 0, 0, 1)]) (P1 := P15) rfl ⟨trivial, trivial, trivial⟩ ?_
  refine tr_cWV (z := km_324) (av := [.inr (9, 0, 0, 1), .inl (.int (59 : Int32))]) (st' := []) rfl rfl rfl (Nat.le_of_ble_eq_true rfl) ⟨rfl, Or.inl (by decide)⟩ rfl (Nat.le_of_ble_eq_true rfl) (t_324 N (59 : Int32) P15) (fun P16 => ?_)
  exact tr_reV (z := km_292) rfl rfl rfl
def f_292_124 (N : Nat) (x3 : Int32) (P : ab_P) : Option ab_P :=
    ab_b2 (f_332 N P) fun v18 P17 =>
    ab_b2 (f_323 N (1 : Int32) (999 : Int32) P17) fun v20 P19 =>
    Option.bind (f_331 x3 v18 v20 (0 : Int32) P19) fun P21 =>
    Option.bind (f_324 N (59 : Int32) P21) fun P22 =>
    some P22
theorem t_292_124 {xs : Nat × (Nat → Int32)} {d : Nat} (N : Nat) : ∀ (x3 : Int32) (d2 : Int32) (P : ab_P), ab_tr xs wV (d + 5) 292 124 [] [.inr (2, 0, 0, 52), .inr (9, 0, 0, 1), .inl (.int d2), .inl (.int x3)] [] P (f_292_124 N x3 P) := by
  intro x3 d2 P
  unfold f_292_124
  refine tr_nil (rows2 := kb_292_124) rfl (List.cons_ne_nil _ _) ?_
  refine tr_blk 3 (pc' := 127) (rows' := kb_292_124.drop 3) (loc' := [.inr (2, 0, 0, 52), .inr (9, 0, 0, 1), .inl (.int d2), .inl (.int x3)]) (st' := [.inr (9, 0, 0, 1), .inl (.int x3), .inr (2, 0, 0, 52)]) (P1 := P) rfl ⟨trivial, trivial, trivial, trivial⟩ ?_
  refine tr_cWI (z := km_332) (av := [.inr (9, 0, 0, 1)]) (st' := [.inl (.int x3), .inr (2, 0, 0, 52)]) rfl rfl rfl (Nat.le_of_ble_eq_true rfl) trivial rfl (Nat.le_of_ble_eq_true rfl) (t_332 N P) (fun v18 P17 => ?_)
  refine tr_blk 3 (pc' := 135) (rows' := kb_292_124.drop 7) (loc' := [.inr (2, 0, 0, 52), .inr (9, 0, 0, 1), .inl (.int d2), .inl (.int x3)]) (st' := [.inl (.int (999 : Int32)), .inl (.int (1 : Int32)), .inr (9, 0, 0, 1), .inl (.int v18), .inl (.int x3), .inr (2, 0, 0, 52)]) (P1 := P17) rfl ⟨trivial, trivial, trivial, trivial⟩ ?_
  refine tr_cWI (z := km_323) (av := [.inr (9, 0, 0, 1), .inl (.int (1 : Int32)), .inl (.int (999 : Int32))]) (st' := [.inl (.int v18), .inl (.int x3), .inr (2, 0, 0, 52)]) rfl rfl rfl (Nat.le_of_ble_eq_true rfl) ⟨rfl, Or.inl (by decide)⟩ rfl (Nat.le_of_ble_eq_true rfl) (t_323 N (1 : Int32) (999 : Int32) P17) (fun v20 P19 => ?_)
  refine tr_blk 1 (pc' := 139) (rows' := kb_292_124.drop 9) (loc' := [.inr (2, 0, 0, 52), .inr (9, 0, 0, 1), .inl (.int d2), .inl (.int x3)]) (st' := [.inl (.int (0 : Int32)), .inl (.int v20), .inl (.int v18), .inl (.int x3), .inr (2, 0, 0, 52)]) (P1 := P19) rfl ⟨trivial, trivial⟩ ?_
  refine tr_cWV (z := km_331) (av := [.inr (2, 0, 0, 52), .inl (.int x3), .inl (.int v18), .inl (.int v20), .inl (.int (0 : Int32))]) (st' := []) rfl rfl rfl (Nat.le_of_ble_eq_true rfl) ⟨rfl, Or.inl (by decide)⟩ rfl (Nat.le_of_ble_eq_true rfl) (t_331 x3 v18 v20 (0 : Int32) P19) (fun P21 => ?_)
  refine tr_goto ?_
  refine tr_nil (rows2 := kb_292_173) rfl (List.cons_ne_nil _ _) ?_
  refine tr_blk 2 (pc' := 176) (rows' := kb_292_173.drop 2) (loc' := [.inr (2, 0, 0, 52), .inr (9, 0, 0, 1), .inl (.int d2), .inl (.int x3)]) (st' := [.inl (.int (59 : Int32)), .inr (9, 0, 0, 1)]) (P1 := P21) rfl ⟨trivial, trivial, trivial⟩ ?_
  refine tr_cWV (z := km_324) (av := [.inr (9, 0, 0, 1), .inl (.int (59 : Int32))]) (st' := []) rfl rfl rfl (Nat.le_of_ble_eq_true rfl) ⟨rfl, Or.inl (by decide)⟩ rfl (Nat.le_of_ble_eq_true rfl) (t_324 N (59 : Int32) P21) (fun P22 => ?_)
  exact tr_reV (z := km_292) rfl rfl rfl
def f_292_145 (N : Nat) (P : ab_P) : Option ab_P :=
    Option.bind (f_333 N P) fun P23 =>
    Option.bind (f_324 N (59 : Int32) P23) fun P24 =>
    some P24
theorem t_292_145 {xs : Nat × (Nat → Int32)} {d : Nat} (N : Nat) : ∀ (d2 : Int32) (d3 : Int32) (P : ab_P), ab_tr xs wV (d + 5) 292 145 [] [.inr (2, 0, 0, 52), .inr (9, 0, 0, 1), .inl (.int d2), .inl (.int d3)] [] P (f_292_145 N P) := by
  intro d2 d3 P
  unfold f_292_145
  refine tr_nil (rows2 := kb_292_145) rfl (List.cons_ne_nil _ _) ?_
  refine tr_blk 2 (pc' := 147) (rows' := kb_292_145.drop 2) (loc' := [.inr (2, 0, 0, 52), .inr (9, 0, 0, 1), .inl (.int d2), .inl (.int d3)]) (st' := [.inr (9, 0, 0, 1), .inr (2, 0, 0, 52)]) (P1 := P) rfl ⟨trivial, trivial, trivial⟩ ?_
  refine tr_cWV (z := km_333) (av := [.inr (2, 0, 0, 52), .inr (9, 0, 0, 1)]) (st' := []) rfl rfl rfl (Nat.le_of_ble_eq_true rfl) ⟨rfl, Or.inl (by decide)⟩ rfl (Nat.le_of_ble_eq_true rfl) (t_333 N P) (fun P23 => ?_)
  refine tr_goto ?_
  refine tr_nil (rows2 := kb_292_173) rfl (List.cons_ne_nil _ _) ?_
  refine tr_blk 2 (pc' := 176) (rows' := kb_292_173.drop 2) (loc' := [.inr (2, 0, 0, 52), .inr (9, 0, 0, 1), .inl (.int d2), .inl (.int d3)]) (st' := [.inl (.int (59 : Int32)), .inr (9, 0, 0, 1)]) (P1 := P23) rfl ⟨trivial, trivial, trivial⟩ ?_
  refine tr_cWV (z := km_324) (av := [.inr (9, 0, 0, 1), .inl (.int (59 : Int32))]) (st' := []) rfl rfl rfl (Nat.le_of_ble_eq_true rfl) ⟨rfl, Or.inl (by decide)⟩ rfl (Nat.le_of_ble_eq_true rfl) (t_324 N (59 : Int32) P23) (fun P24 => ?_)
  exact tr_reV (z := km_292) rfl rfl rfl
def f_292_153 (N : Nat) (x3 : Int32) (P : ab_P) : Option ab_P :=
    ab_b2 (f_332 N P) fun v26 P25 =>
    Option.bind (f_331 x3 v26 (0 : Int32) (0 : Int32) P25) fun P27 =>
    Option.bind (f_324 N (59 : Int32) P27) fun P28 =>
    some P28
theorem t_292_153 {xs : Nat × (Nat → Int32)} {d : Nat} (N : Nat) : ∀ (x3 : Int32) (d2 : Int32) (P : ab_P), ab_tr xs wV (d + 5) 292 153 [] [.inr (2, 0, 0, 52), .inr (9, 0, 0, 1), .inl (.int d2), .inl (.int x3)] [] P (f_292_153 N x3 P) := by
  intro x3 d2 P
  unfold f_292_153
  refine tr_nil (rows2 := kb_292_153) rfl (List.cons_ne_nil _ _) ?_
  refine tr_blk 3 (pc' := 156) (rows' := kb_292_153.drop 3) (loc' := [.inr (2, 0, 0, 52), .inr (9, 0, 0, 1), .inl (.int d2), .inl (.int x3)]) (st' := [.inr (9, 0, 0, 1), .inl (.int x3), .inr (2, 0, 0, 52)]) (P1 := P) rfl ⟨trivial, trivial, trivial, trivial⟩ ?_
  refine tr_cWI (z := km_332) (av := [.inr (9, 0, 0, 1)]) (st' := [.inl (.int x3), .inr (2, 0, 0, 52)]) rfl rfl rfl (Nat.le_of_ble_eq_true rfl) trivial rfl (Nat.le_of_ble_eq_true rfl) (t_332 N P) (fun v26 P25 => ?_)
  refine tr_blk 2 (pc' := 161) (rows' := kb_292_153.drop 6) (loc' := [.inr (2, 0, 0, 52), .inr (9, 0, 0, 1), .inl (.int d2), .inl (.int x3)]) (st' := [.inl (.int (0 : Int32)), .inl (.int (0 : Int32)), .inl (.int v26), .inl (.int x3), .inr (2, 0, 0, 52)]) (P1 := P25) rfl ⟨trivial, trivial, trivial⟩ ?_
  refine tr_cWV (z := km_331) (av := [.inr (2, 0, 0, 52), .inl (.int x3), .inl (.int v26), .inl (.int (0 : Int32)), .inl (.int (0 : Int32))]) (st' := []) rfl rfl rfl (Nat.le_of_ble_eq_true rfl) ⟨rfl, Or.inl (by decide)⟩ rfl (Nat.le_of_ble_eq_true rfl) (t_331 x3 v26 (0 : Int32) (0 : Int32) P25) (fun P27 => ?_)
  refine tr_goto ?_
  refine tr_nil (rows2 := kb_292_173) rfl (List.cons_ne_nil _ _) ?_
  refine tr_blk 2 (pc' := 176) (rows' := kb_292_173.drop 2) (loc' := [.inr (2, 0, 0, 52), .inr (9, 0, 0, 1), .inl (.int d2), .inl (.int x3)]) (st' := [.inl (.int (59 : Int32)), .inr (9, 0, 0, 1)]) (P1 := P27) rfl ⟨trivial, trivial, trivial⟩ ?_
  refine tr_cWV (z := km_324) (av := [.inr (9, 0, 0, 1), .inl (.int (59 : Int32))]) (st' := []) rfl rfl rfl (Nat.le_of_ble_eq_true rfl) ⟨rfl, Or.inl (by decide)⟩ rfl (Nat.le_of_ble_eq_true rfl) (t_324 N (59 : Int32) P27) (fun P28 => ?_)
  exact tr_reV (z := km_292) rfl rfl rfl
def f_292_167 (N : Nat) (x3 : Int32) (P : ab_P) : Option ab_P :=
    Option.bind (f_334 N x3 P) fun P9 =>
    Option.bind (f_324 N (59 : Int32) P9) fun P10 =>
    some P10
theorem t_292_167 {xs : Nat × (Nat → Int32)} {d : Nat} (N : Nat) : ∀ (x3 : Int32) (d2 : Int32) (P : ab_P), ab_tr xs wV (d + 5) 292 167 [] [.inr (2, 0, 0, 52), .inr (9, 0, 0, 1), .inl (.int d2), .inl (.int x3)] [] P (f_292_167 N x3 P) := by
  intro x3 d2 P
  unfold f_292_167
  refine tr_nil (rows2 := kb_292_167) rfl (List.cons_ne_nil _ _) ?_
  refine tr_blk 3 (pc' := 170) (rows' := kb_292_167.drop 3) (loc' := [.inr (2, 0, 0, 52), .inr (9, 0, 0, 1), .inl (.int d2), .inl (.int x3)]) (st' := [.inl (.int x3), .inr (9, 0, 0, 1), .inr (2, 0, 0, 52)]) (P1 := P) rfl ⟨trivial, trivial, trivial, trivial⟩ ?_
  refine tr_cWV (z := km_334) (av := [.inr (2, 0, 0, 52), .inr (9, 0, 0, 1), .inl (.int x3)]) (st' := []) rfl rfl rfl (Nat.le_of_ble_eq_true rfl) ⟨rfl, Or.inl (by decide)⟩ rfl (Nat.le_of_ble_eq_true rfl) (t_334 N x3 P) (fun P9 => ?_)
  refine tr_nil (rows2 := kb_292_173) rfl (List.cons_ne_nil _ _) ?_
  refine tr_blk 2 (pc' := 176) (rows' := kb_292_173.drop 2) (loc' := [.inr (2, 0, 0, 52), .inr (9, 0, 0, 1), .inl (.int d2), .inl (.int x3)]) (st' := [.inl (.int (59 : Int32)), .inr (9, 0, 0, 1)]) (P1 := P9) rfl ⟨trivial, trivial, trivial⟩ ?_
  refine tr_cWV (z := km_324) (av := [.inr (9, 0, 0, 1), .inl (.int (59 : Int32))]) (st' := []) rfl rfl rfl (Nat.le_of_ble_eq_true rfl) ⟨rfl, Or.inl (by decide)⟩ rfl (Nat.le_of_ble_eq_true rfl) (t_324 N (59 : Int32) P9) (fun P10 => ?_)
  exact tr_reV (z := km_292) rfl rfl rfl
def f_292_30 (N : Nat) (x3 : Int32) (P : ab_P) : Option ab_P :=
    if x3 = 0 then
      f_292_80 N x3 P
    else
    if x3 = 1 then
      f_292_167 N x3 P
    else
    if x3 = 2 then
      f_292_97 N x3 P
    else
    if x3 = 3 then
      f_292_124 N x3 P
    else
    if x3 = 4 then
      f_292_145 N P
    else
    if x3 = 5 then
      f_292_153 N x3 P
    else
    if x3 = 6 then
      f_292_153 N x3 P
    else
    if x3 = 7 then
      f_292_97 N x3 P
    else
    if x3 = 8 then
      f_292_153 N x3 P
    else
    f_292_167 N x3 P
theorem t_292_30 {xs : Nat × (Nat → Int32)} {d : Nat} (N : Nat) : ∀ (x3 : Int32) (d2 : Int32) (P : ab_P), ab_tr xs wV (d + 5) 292 30 [] [.inr (2, 0, 0, 52), .inr (9, 0, 0, 1), .inl (.int d2), .inl (.int x3)] [] P (f_292_30 N x3 P) := by
  intro x3 d2 P
  unfold f_292_30
  refine tr_nil (rows2 := kb_292_30) rfl (List.cons_ne_nil _ _) ?_
  refine tr_blk 1 (pc' := 31) (rows' := kb_292_30.drop 1) (loc' := [.inr (2, 0, 0, 52), .inr (9, 0, 0, 1), .inl (.int d2), .inl (.int x3)]) (st' := [.inl (.int x3)]) (P1 := P) rfl ⟨trivial, trivial⟩ ?_
  refine tr_if (fun h29 => ?_) (fun h29 => ?_)
  · refine tr_sw (t := 80) (by rw [h29]; rfl) ?_
    exact t_292_80 N x3 (d2) P
  refine tr_if (fun h30 => ?_) (fun h30 => ?_)
  · refine tr_sw (t := 167) (by rw [h30]; rfl) ?_
    exact t_292_167 N x3 (d2) P
  refine tr_if (fun h31 => ?_) (fun h31 => ?_)
  · refine tr_sw (t := 97) (by rw [h31]; rfl) ?_
    exact t_292_97 N x3 (d2) P
  refine tr_if (fun h32 => ?_) (fun h32 => ?_)
  · refine tr_sw (t := 124) (by rw [h32]; rfl) ?_
    exact t_292_124 N x3 (d2) P
  refine tr_if (fun h33 => ?_) (fun h33 => ?_)
  · refine tr_sw (t := 145) (by rw [h33]; rfl) ?_
    exact t_292_145 N (d2) (x3) P
  refine tr_if (fun h34 => ?_) (fun h34 => ?_)
  · refine tr_sw (t := 153) (by rw [h34]; rfl) ?_
    exact t_292_153 N x3 (d2) P
  refine tr_if (fun h35 => ?_) (fun h35 => ?_)
  · refine tr_sw (t := 153) (by rw [h35]; rfl) ?_
    exact t_292_153 N x3 (d2) P
  refine tr_if (fun h36 => ?_) (fun h36 => ?_)
  · refine tr_sw (t := 97) (by rw [h36]; rfl) ?_
    exact t_292_97 N x3 (d2) P
  refine tr_if (fun h37 => ?_) (fun h37 => ?_)
  · refine tr_sw (t := 153) (by rw [h37]; rfl) ?_
    exact t_292_153 N x3 (d2) P
  refine tr_sw (t := 167) (ab_swd (k := 9) (by decide) rfl ⟨ab_nei h29 (by decide), ab_nei h30 (by decide), ab_nei h31 (by decide), ab_nei h32 (by decide), ab_nei h33 (by decide), ab_nei h34 (by decide), ab_nei h35 (by decide), ab_nei h36 (by decide), ab_nei h37 (by decide), trivial⟩) ?_
  exact t_292_167 N x3 (d2) P
def f_292_22 (N : Nat) (x3 : Int32) (P : ab_P) : Option ab_P :=
    Option.bind (f_201 P) fun v4 =>
    if v4 = (0 : Int32) then
      f_292_30 N x3 P
    else
    some P
theorem t_292_22 {xs : Nat × (Nat → Int32)} {d : Nat} (N : Nat) : ∀ (x3 : Int32) (d2 : Int32) (P : ab_P), ab_tr xs wV (d + 5) 292 22 [] [.inr (2, 0, 0, 52), .inr (9, 0, 0, 1), .inl (.int d2), .inl (.int x3)] [] P (f_292_22 N x3 P) := by
  intro x3 d2 P
  unfold f_292_22
  refine tr_nil (rows2 := kb_292_22) rfl (List.cons_ne_nil _ _) ?_
  refine tr_blk 1 (pc' := 23) (rows' := kb_292_22.drop 1) (loc' := [.inr (2, 0, 0, 52), .inr (9, 0, 0, 1), .inl (.int d2), .inl (.int x3)]) (st' := [.inr (9, 0, 0, 1)]) (P1 := P) rfl ⟨trivial, trivial⟩ ?_
  refine tr_cRI (z := km_201) (av := [.inr (9, 0, 0, 1)]) (st' := []) rfl rfl rfl (Nat.le_of_ble_eq_true rfl) ⟨rfl, Or.inl (by decide)⟩ rfl (Nat.le_of_ble_eq_true rfl) (t_201 P) (fun v4 => ?_)
  refine tr_if (fun h38 => ?_) (fun h38 => ?_)
  · refine tr_ifT (cd := .eq) h38 ?_
    exact t_292_30 N x3 (d2) P
  · refine tr_ifF (cd := .eq) h38 ?_
    exact tr_reV (z := km_292) rfl rfl rfl
def f_292 (N : Nat) (a2 : Int32) (P : ab_P) : Option ab_P :=
    ab_b2 (f_320_2 N P) fun v2 P1 =>
    if a2 < (30 : Int32) then
      f_292_22 N v2 P1
    else
    Option.bind (f_290 (3 : Int32) (P1.1 1 4) P1) fun P3 =>
    f_292_22 N v2 P3
theorem t_292 {xs : Nat × (Nat → Int32)} {d : Nat} (N : Nat) : ∀ (a2 : Int32) (P : ab_P), ab_tr xs wV (d + 5) 292 0 [] [.inr (2, 0, 0, 52), .inr (9, 0, 0, 1), .inl (.int a2), ab_top] [] P (f_292 N a2 P) := by
  intro a2 P
  unfold f_292
  refine tr_nil (rows2 := kb_292_0) rfl (List.cons_ne_nil _ _) ?_
  refine tr_blk 2 (pc' := 3) (rows' := kb_292_0.drop 2) (loc' := [.inr (2, 0, 0, 52), .inr (9, 0, 0, 1), .inl (.int a2), ab_top]) (st' := [.inr (30, 2, 0, 6), .inr (9, 0, 0, 1)]) (P1 := P) rfl ⟨trivial, trivial, trivial⟩ ?_
  refine tr_cWI (z := km_320) (av := [.inr (9, 0, 0, 1), .inr (30, 2, 0, 6)]) (st' := []) rfl rfl rfl (Nat.le_of_ble_eq_true rfl) ⟨rfl, Or.inl (by decide)⟩ rfl (Nat.le_of_ble_eq_true rfl) (t_320_2 N P) (fun v2 P1 => ?_)
  refine tr_blk 3 (pc' := 10) (rows' := kb_292_0.drop 6) (loc' := [.inr (2, 0, 0, 52), .inr (9, 0, 0, 1), .inl (.int a2), .inl (.int v2)]) (st' := [.inl (.int (30 : Int32)), .inl (.int a2)]) (P1 := P1) rfl ⟨trivial, trivial, trivial, trivial⟩ ?_
  refine tr_if (fun h39 => ?_) (fun h39 => ?_)
  · refine tr_icT (cd := .lt) h39 ?_
    exact t_292_22 N v2 (a2) P1
  · refine tr_icF (cd := .lt) h39 ?_
    refine tr_blk 4 (pc' := 19) (rows' := kb_292_0.drop 11) (loc' := [.inr (2, 0, 0, 52), .inr (9, 0, 0, 1), .inl (.int a2), .inl (.int v2)]) (st' := [.inl (.int (P1.1 1 4)), .inl (.int (3 : Int32)), .inr (9, 0, 0, 1)]) (P1 := P1) rfl ⟨trivial, trivial, trivial, trivial, trivial⟩ ?_
    refine tr_cWV (z := km_290) (av := [.inr (9, 0, 0, 1), .inl (.int (3 : Int32)), .inl (.int (P1.1 1 4))]) (st' := []) rfl rfl rfl (Nat.le_of_ble_eq_true rfl) ⟨rfl, Or.inl (by decide)⟩ rfl (Nat.le_of_ble_eq_true rfl) (t_290 (3 : Int32) (P1.1 1 4) P1) (fun P3 => ?_)
    exact t_292_22 N v2 (a2) P3
def f_214_7 (N : Nat) : Nat → Int32 → ab_P → Option ab_P
  | 0, _, _ => none
  | n + 1, x2, P =>
    if (30 : Int32) < x2 then
      some P
    else
    ab_b2 (f_282 N P) fun v3 P2 =>
    if v3 = (0 : Int32) then
      some P2
    else
    Option.bind (f_292 N x2 P2) fun P4 =>
    f_214_7 N n (x2 + 1) P4
theorem t_214_7 {xs : Nat × (Nat → Int32)} {d : Nat} (N : Nat) : ∀ n : Nat, ∀ (x2 : Int32) (P : ab_P), ab_tr xs wV (d + 6) 214 7 [] [.inr (2, 0, 0, 52), .inr (9, 0, 0, 1), .inl (.int x2)] [] P (f_214_7 N n x2 P) := by
  intro n
  induction n with
  | zero => intro x2 P; exact tr_no
  | succ n ih =>
    intro x2 P
    refine tr_nil (rows2 := kb_214_7) rfl (List.cons_ne_nil _ _) ?_
    refine tr_blk 2 (pc' := 10) (rows' := kb_214_7.drop 2) (loc' := [.inr (2, 0, 0, 52), .inr (9, 0, 0, 1), .inl (.int x2)]) (st' := [.inl (.int (30 : Int32)), .inl (.int x2)]) (P1 := P) rfl ⟨trivial, trivial, trivial⟩ ?_
    refine tr_if (fun h5 => ?_) (fun h5 => ?_)
    · refine tr_icT (cd := .gt) h5 ?_
      refine tr_nil (rows2 := kb_214_32) rfl (List.cons_ne_nil _ _) ?_
      exact tr_reV (z := km_214) rfl rfl rfl
    · refine tr_icF (cd := .gt) h5 ?_
      refine tr_blk 1 (pc' := 14) (rows' := kb_214_7.drop 4) (loc' := [.inr (2, 0, 0, 52), .inr (9, 0, 0, 1), .inl (.int x2)]) (st' := [.inr (9, 0, 0, 1)]) (P1 := P) rfl ⟨trivial, trivial⟩ ?_
      refine tr_cWI (z := km_282) (av := [.inr (9, 0, 0, 1)]) (st' := []) rfl rfl rfl (Nat.le_of_ble_eq_true rfl) ⟨rfl, Or.inl (by decide)⟩ rfl (Nat.le_of_ble_eq_true rfl) (t_282 N P) (fun v3 P2 => ?_)
      refine tr_if (fun h6 => ?_) (fun h6 => ?_)
      · refine tr_ifT (cd := .eq) h6 ?_
        refine tr_nil (rows2 := kb_214_32) rfl (List.cons_ne_nil _ _) ?_
        exact tr_reV (z := km_214) rfl rfl rfl
      · refine tr_ifF (cd := .eq) h6 ?_
        refine tr_blk 3 (pc' := 23) (rows' := kb_214_7.drop 9) (loc' := [.inr (2, 0, 0, 52), .inr (9, 0, 0, 1), .inl (.int x2)]) (st' := [.inl (.int x2), .inr (9, 0, 0, 1), .inr (2, 0, 0, 52)]) (P1 := P2) rfl ⟨trivial, trivial, trivial, trivial⟩ ?_
        refine tr_cWV (z := km_292) (av := [.inr (2, 0, 0, 52), .inr (9, 0, 0, 1), .inl (.int x2)]) (st' := []) rfl rfl rfl (Nat.le_of_ble_eq_true rfl) ⟨rfl, Or.inl (by decide)⟩ rfl (Nat.le_of_ble_eq_true rfl) (t_292 N x2 P2) (fun P4 => ?_)
        refine tr_blk 1 (pc' := 29) (rows' := kb_214_7.drop 11) (loc' := [.inr (2, 0, 0, 52), .inr (9, 0, 0, 1), .inl (.int (x2 + 1))]) (st' := []) (P1 := P4) rfl ⟨trivial, trivial⟩ ?_
        refine tr_goto ?_
        exact ih (x2 + 1) P4
def f_214 (N : Nat) (P : ab_P) : Option ab_P :=
    ab_lt (ab_pI P 52 5 (0 : Int32)) fun P1 =>
    f_214_7 N N (0 : Int32) P1
theorem t_214 {xs : Nat × (Nat → Int32)} {d : Nat} (N : Nat) : ∀ (P : ab_P), ab_tr xs wV (d + 6) 214 0 [] [.inr (2, 0, 0, 52), .inr (9, 0, 0, 1), ab_top] [] P (f_214 N P) := by
  intro P
  unfold f_214
  refine tr_nil (rows2 := kb_214_0) rfl (List.cons_ne_nil _ _) ?_
  refine tr_blk 3 (pc' := 5) (rows' := kb_214_0.drop 3) (loc' := [.inr (2, 0, 0, 52), .inr (9, 0, 0, 1), ab_top]) (st' := []) (P1 := (ab_pI P 52 5 (0 : Int32))) rfl ⟨trivial, trivial, trivial, trivial⟩ ?_
  refine tr_lt (fun P1 => ?_)
  refine tr_blk 2 (pc' := 7) (rows' := kb_214_0.drop 5) (loc' := [.inr (2, 0, 0, 52), .inr (9, 0, 0, 1), .inl (.int (0 : Int32))]) (st' := []) (P1 := P1) rfl ⟨trivial, trivial, trivial⟩ ?_
  exact t_214_7 N N (0 : Int32) P1
def f_295 (i0 : Nat) (i1 : Nat) (P : ab_P) : Option ab_P :=
    ab_lt (ab_pC P (i0 + 1) (P.1 (i1 + 1)) 0 0 360) fun P1 =>
    ab_lt (ab_pC P1 (i0 + 2) (P1.1 (i1 + 2)) 0 0 5) fun P2 =>
    ab_lt (ab_pI P2 i0 2 (P2.1 i1 2)) fun P3 =>
    ab_lt (ab_pI P3 i0 3 (P3.1 i1 3)) fun P4 =>
    some P4
theorem t_295 {xs : Nat × (Nat → Int32)} {d : Nat} (i0 : Nat) (i1 : Nat) : ∀ (P : ab_P), ab_tr xs wV (d + 0) 295 0 [] [.inr (6, 0, 0, i0), .inr (6, 0, 0, i1)] [] P (f_295 i0 i1 P) := by
  intro P
  unfold f_295
  refine tr_nil (rows2 := kb_295_0) rfl (List.cons_ne_nil _ _) ?_
  refine tr_blk 8 (pc' := 16) (rows' := kb_295_0.drop 8) (loc' := [.inr (6, 0, 0, i0), .inr (6, 0, 0, i1)]) (st' := []) (P1 := (ab_pC P (i0 + 1) (P.1 (i1 + 1)) 0 0 360)) rfl ⟨trivial, trivial, trivial, trivial, trivial, trivial, trivial, (by decide), trivial⟩ ?_
  refine tr_lt (fun P1 => ?_)
  refine tr_blk 8 (pc' := 30) (rows' := kb_295_0.drop 16) (loc' := [.inr (6, 0, 0, i0), .inr (6, 0, 0, i1)]) (st' := []) (P1 := (ab_pC P1 (i0 + 2) (P1.1 (i1 + 2)) 0 0 5)) rfl ⟨trivial, trivial, trivial, trivial, trivial, trivial, trivial, (by decide), trivial⟩ ?_
  refine tr_lt (fun P2 => ?_)
  refine tr_blk 4 (pc' := 38) (rows' := kb_295_0.drop 20) (loc' := [.inr (6, 0, 0, i0), .inr (6, 0, 0, i1)]) (st' := []) (P1 := (ab_pI P2 i0 2 (P2.1 i1 2))) rfl ⟨trivial, trivial, trivial, trivial, trivial⟩ ?_
  refine tr_lt (fun P3 => ?_)
  refine tr_blk 4 (pc' := 46) (rows' := kb_295_0.drop 24) (loc' := [.inr (6, 0, 0, i0), .inr (6, 0, 0, i1)]) (st' := []) (P1 := (ab_pI P3 i0 3 (P3.1 i1 3))) rfl ⟨trivial, trivial, trivial, trivial, trivial⟩ ?_
  refine tr_lt (fun P4 => ?_)
  exact tr_reV (z := km_295) rfl rfl rfl
theorem ap_wr_n {sh sh' : Nat → Nat → Option Nat} {k : Nat} (hk : k ≠ 25) (id j : Nat) : ap_wr sh k id j = ap_wr sh' k id j := by
  unfold ap_wr
  split <;> first | rfl | exact absurd rfl hk
theorem ab_upR_a (f : Nat → Nat → Nat → ab_V) (k a i : Nat) (x : ab_V) (k' b j : Nat) : ab_upR f k a i x k' b j = if k' = k ∧ b = a ∧ j = i then x else f k' b j := rfl
theorem ab_rowR_a (f : Nat → Nat → Nat → ab_V) (k a : Nat) (x : ab_V) (k' b j : Nat) : ab_rowR f k a (fun _ => x) k' b j = if k' = k ∧ b = a then x else f k' b j := by
  unfold ab_rowR
  split <;> rfl
theorem ab_pN_R (sh : Nat → Nat → Option Nat) (q si i : Nat) : ap_wr (fun a b => if a = si ∧ b = i then some q else sh a b) = ab_upR (ab_upR (ab_rowR (ab_upR (ab_rowR (ab_rowR (ap_wr sh) 6 q (fun _ => ab_nul)) 20 (q + 1) (fun _ => ab_nul)) 6 q 0 (.inr (20, 360, 0, q + 1))) 20 (q + 2) (fun _ => ab_nul)) 6 q 1 (.inr (20, 5, 0, q + 2))) 25 si i (.inr (6, 0, 0, q)) := by
  funext k id b
  rw [ab_upR_a, ab_upR_a, ab_rowR_a, ab_upR_a, ab_rowR_a, ab_rowR_a]
  by_cases h25 : k = 25
  · subst h25
    show ab_lg (if id = si ∧ b = i then some q else sh id b) = _
    by_cases h : id = si ∧ b = i
    · rw [if_pos h, if_pos ⟨rfl, h⟩]
      rfl
    · rw [if_neg h, if_neg (fun e => h e.2), if_neg (fun e => absurd e.1 (by decide)), if_neg (fun e => absurd e.1 (by decide)), if_neg (fun e => absurd e.1 (by decide)), if_neg (fun e => absurd e.1 (by decide)), if_neg (fun e => absurd e.1 (by decide))]
      rfl
  · rw [ap_wr_n (sh' := sh) h25, if_neg (fun e => h25 e.1)]
    by_cases h6 : k = 6
    · subst h6
      by_cases hq : id = q
      · subst hq
        match b with
        | 0 => simp; rfl
        | 1 => simp; rfl
        | b + 2 => simp; rfl
      · simp [hq]
    · rw [if_neg (fun e => h6 e.1)]
      by_cases h20 : k = 20
      · subst h20
        have e0 : ap_wr sh 20 id b = ab_nul := rfl
        rw [e0]
        simp
      · simp [h6, h20]
/-- a shelf's place: what stands there, or a ledger new -/
def ab_pN (P : ab_P) (si j : Nat) : ab_P :=
  (ab_rowI (ab_rowI (ab_rowI P.1 P.2.2.2.2.1 (fun _ => 0)) (P.2.2.2.2.1 + 1) (fun _ => 0)) (P.2.2.2.2.1 + 2) (fun _ => 0),
   ab_rowL (ab_rowL (ab_rowL P.2.1 P.2.2.2.2.1 (fun _ => 0)) (P.2.2.2.2.1 + 1) (fun _ => 0)) (P.2.2.2.2.1 + 2) (fun _ => 0),
   (fun a b => if a = si ∧ b = j then some P.2.2.2.2.1 else P.2.2.1 a b),
   ab_upS (ab_upS (ab_upS P.2.2.2.1 P.2.2.2.2.1 (6, 0, 0)) (P.2.2.2.2.1 + 1) (20, 360, 0)) (P.2.2.2.2.1 + 1 + 1) (20, 5, 0),
   P.2.2.2.2.1 + 1 + 1 + 1, P.2.2.2.2.2.1 + 1 + 1 + 1, P.2.2.2.2.2.2 + 4 + 360 + 5)
abbrev ab_M3 (P : ab_P) : ab_M := ab_setR (ab_new (ab_setR (ab_new (ab_new (ab_mk P) (6, 0, 0) 4) (20, 360, 0) 360) 6 P.2.2.2.2.1 0 (.inr (20, 360, 0, P.2.2.2.2.1 + 1))) (20, 5, 0) 5) 6 P.2.2.2.2.1 1 (.inr (20, 5, 0, P.2.2.2.2.1 + 2))
theorem ab_pN_e (P : ab_P) (si j : Nat) : ab_setR (ab_M3 P) 25 si j (.inr (6, 0, 0, P.2.2.2.2.1)) = ab_mk (ab_pN P si j) := by
  show (_, _, _, _) = (_, _, _, _)
  rw [show ap_wr (ab_pN P si j).2.2.1 = _ from ab_pN_R P.2.2.1 P.2.2.2.2.1 si j]
  rfl
def f_279 (n si i2 : Nat) (a1 : Int32) (P : ab_P) : Option ab_P :=
  if a1 < (0 : Int32) then
    some P
  else
  if a1 < Int32.ofNat n then
    if ab_gi a1 n then
      match P.2.2.1 si a1.toNatClampNeg with
      | some q => Option.bind (f_295 q i2 P) fun P1 => some P1
      | none => Option.bind (f_295 P.2.2.2.2.1 i2 (ab_pN P si a1.toNatClampNeg)) fun P1 => some P1
    else none
  else some P
theorem t_279_31 {xs : Nat × (Nat → Int32)} {d : Nat} (n si i2 q : Nat) (a1 : Int32) (P : ab_P) (h : ab_gi a1 n) (hq : P.2.2.1 si a1.toNatClampNeg = some q) : ab_tr xs wV (d + 1) 279 31 [] [.inr (25, n, 0, si), .inl (.int a1), .inr (6, 0, 0, i2)] [] P (Option.bind (f_295 q i2 P) fun P1 => some P1) := by
  refine tr_nil (rows2 := kb_279_31) rfl (List.cons_ne_nil _ _) ?_
  refine tr_blk 4 (pc' := 35) (rows' := kb_279_31.drop 4) (loc' := [.inr (25, n, 0, si), .inl (.int a1), .inr (6, 0, 0, i2)]) (st' := [.inr (6, 0, 0, i2), ab_lg (P.2.2.1 si a1.toNatClampNeg)]) (P1 := P) rfl ⟨trivial, trivial, h, trivial, trivial⟩ ?_
  rw [hq]
  refine tr_cWV (z := km_295) (av := [.inr (6, 0, 0, q), .inr (6, 0, 0, i2)]) (st' := []) rfl rfl rfl (Nat.le_of_ble_eq_true rfl) ⟨rfl, Or.inl (by decide)⟩ rfl (Nat.le_of_ble_eq_true rfl) (t_295 q i2 P) (fun P1 => ?_)
  exact tr_reV (z := km_279) rfl rfl rfl
theorem t_279 {xs : Nat × (Nat → Int32)} {d : Nat} (n si i2 : Nat) : ∀ (a1 : Int32) (P : ab_P), ab_tr xs wV (d + 1) 279 0 [] [.inr (25, n, 0, si), .inl (.int a1), .inr (6, 0, 0, i2)] [] P (f_279 n si i2 a1 P) := by
  intro a1 P
  unfold f_279
  refine tr_nil (rows2 := kb_279_0) rfl (List.cons_ne_nil _ _) ?_
  refine tr_blk 1 (pc' := 1) (rows' := kb_279_0.drop 1) (loc' := [.inr (25, n, 0, si), .inl (.int a1), .inr (6, 0, 0, i2)]) (st' := [.inr (6, 0, 0, i2)]) (P1 := P) rfl ⟨trivial, trivial⟩ ?_
  refine tr_nuF (by decide) ?_
  refine tr_blk 1 (pc' := 5) (rows' := kb_279_0.drop 3) (loc' := [.inr (25, n, 0, si), .inl (.int a1), .inr (6, 0, 0, i2)]) (st' := [.inl (.int a1)]) (P1 := P) rfl ⟨trivial, trivial⟩ ?_
  refine tr_if (fun h1 => ?_) (fun h1 => ?_)
  · refine tr_ifT (cd := .lt) h1 ?_
    refine tr_nil (rows2 := kb_279_14) rfl (List.cons_ne_nil _ _) ?_
    exact tr_reV (z := km_279) rfl rfl rfl
  · refine tr_ifF (cd := .lt) h1 ?_
    refine tr_blk 3 (pc' := 11) (rows' := kb_279_0.drop 7) (loc' := [.inr (25, n, 0, si), .inl (.int a1), .inr (6, 0, 0, i2)]) (st' := [.inl (.int (Int32.ofNat n)), .inl (.int a1)]) (P1 := P) rfl ⟨trivial, trivial, Or.inl (by decide), trivial⟩ ?_
    refine tr_if (fun h2 => ?_) (fun h2 => ?_)
    · refine tr_icT (cd := .lt) h2 ?_
      refine tr_nil (rows2 := kb_279_15) rfl (List.cons_ne_nil _ _) ?_
      refine tr_gd (fun h => ?_)
      refine tr_blk 3 (pc' := 18) (rows' := kb_279_15.drop 3) (loc' := [.inr (25, n, 0, si), .inl (.int a1), .inr (6, 0, 0, i2)]) (st' := [ab_lg (P.2.2.1 si a1.toNatClampNeg)]) (P1 := P) rfl ⟨trivial, trivial, h, trivial⟩ ?_
      cases hq : P.2.2.1 si a1.toNatClampNeg with
      | some q =>
        refine tr_nnT (k := 6) (n := 0) (m := 0) (id := q) (by decide) ?_
        exact t_279_31 n si i2 q a1 P h hq
      | none =>
        refine tr_nnF ?_
        have hs : (ab_pN P si a1.toNatClampNeg).2.2.1 si a1.toNatClampNeg = some P.2.2.2.2.1 := if_pos ⟨rfl, rfl⟩
        have k := t_279_31 (xs := xs) (d := d) n si i2 P.2.2.2.2.1 a1 (ab_pN P si a1.toNatClampNeg) h hs
        refine tm_blk 4 (pc' := 27) (rows' := kb_279_15.drop 8) (loc' := [.inr (25, n, 0, si), .inl (.int a1), .inr (6, 0, 0, i2)]) (st' := [.inr (6, 0, 0, P.2.2.2.2.1), .inr (6, 0, 0, P.2.2.2.2.1), .inl (.int a1), .inr (25, n, 0, si)]) (M1 := ab_new (ab_mk P) (6, 0, 0) 4) rfl ⟨trivial, trivial, trivial, trivial, trivial⟩ ?_
        refine tm_cal (z := km_100) (av := [.inr (6, 0, 0, P.2.2.2.2.1)]) (st' := [.inr (6, 0, 0, P.2.2.2.2.1), .inl (.int a1), .inr (25, n, 0, si)]) (M1 := ab_M3 P) rfl rfl rfl (Nat.le_of_ble_eq_true rfl) (show (6 : Nat) < 13 by decide) rfl (Nat.le_of_ble_eq_true rfl) ⟨1 + 10 + 1, kb_100_0, rfl, List.cons_ne_nil _ _, ab_blk_ok 10 0 kb_100_0 [.inr (6, 0, 0, P.2.2.2.2.1)] [] (ab_new (ab_mk P) (6, 0, 0) 4) _ 20 (kb_100_0.drop 10) [.inr (6, 0, 0, P.2.2.2.2.1)] [] (ab_M3 P) rfl ⟨trivial, (by decide), trivial, trivial, (by decide), trivial, trivial, trivial, (by decide), trivial, trivial⟩ ⟨⟨km_100, rfl, rfl⟩, rfl, rfl⟩⟩ ?_
        refine tm_blk 1 (pc' := 31) (rows' := kb_279_15.drop 10) (loc' := [.inr (25, n, 0, si), .inl (.int a1), .inr (6, 0, 0, i2)]) (st' := []) (M1 := ab_setR (ab_M3 P) 25 si a1.toNatClampNeg (.inr (6, 0, 0, P.2.2.2.2.1))) rfl ⟨h, trivial⟩ ?_
        rw [ab_pN_e]
        exact k
    · refine tr_icF (cd := .lt) h2 ?_
      refine tr_nil (rows2 := kb_279_14) rfl (List.cons_ne_nil _ _) ?_
      exact tr_reV (z := km_279) rfl rfl rfl
def f_227 (n si i2 : Nat) (a1 : Int32) (P : ab_P) : Option ab_P :=
  if a1 < (0 : Int32) then
    some P
  else
  if a1 < Int32.ofNat n then
    if ab_gi a1 n then
      match P.2.2.1 si a1.toNatClampNeg with
      | some q => Option.bind (f_295 i2 q P) fun P1 => some P1
      | none => some P
    else none
  else some P
theorem t_227 {xs : Nat × (Nat → Int32)} {d : Nat} (n si i2 : Nat) : ∀ (a1 : Int32) (P : ab_P), ab_tr xs wV (d + 1) 227 0 [] [.inr (25, n, 0, si), .inl (.int a1), .inr (6, 0, 0, i2)] [] P (f_227 n si i2 a1 P) := by
  intro a1 P
  unfold f_227
  refine tr_nil (rows2 := kb_227_0) rfl (List.cons_ne_nil _ _) ?_
  refine tr_blk 1 (pc' := 1) (rows' := kb_227_0.drop 1) (loc' := [.inr (25, n, 0, si), .inl (.int a1), .inr (6, 0, 0, i2)]) (st' := [.inl (.int a1)]) (P1 := P) rfl ⟨trivial, trivial⟩ ?_
  refine tr_if (fun h1 => ?_) (fun h1 => ?_)
  · refine tr_ifT (cd := .lt) h1 ?_
    refine tr_nil (rows2 := kb_227_23) rfl (List.cons_ne_nil _ _) ?_
    exact tr_reV (z := km_227) rfl rfl rfl
  · refine tr_ifF (cd := .lt) h1 ?_
    refine tr_blk 3 (pc' := 7) (rows' := kb_227_0.drop 5) (loc' := [.inr (25, n, 0, si), .inl (.int a1), .inr (6, 0, 0, i2)]) (st' := [.inl (.int (Int32.ofNat n)), .inl (.int a1)]) (P1 := P) rfl ⟨trivial, trivial, Or.inl (by decide), trivial⟩ ?_
    refine tr_if (fun h2 => ?_) (fun h2 => ?_)
    · refine tr_icF (cd := .ge) (Int32.not_le.mpr h2) ?_
      refine tr_gd (fun h => ?_)
      refine tr_blk 3 (pc' := 13) (rows' := kb_227_0.drop 9) (loc' := [.inr (25, n, 0, si), .inl (.int a1), .inr (6, 0, 0, i2)]) (st' := [ab_lg (P.2.2.1 si a1.toNatClampNeg)]) (P1 := P) rfl ⟨trivial, trivial, h, trivial⟩ ?_
      cases hq : P.2.2.1 si a1.toNatClampNeg with
      | some q =>
        refine tr_nuF (k := 6) (n := 0) (m := 0) (id := q) (by decide) ?_
        refine tr_blk 4 (pc' := 20) (rows' := kb_227_0.drop 14) (loc' := [.inr (25, n, 0, si), .inl (.int a1), .inr (6, 0, 0, i2)]) (st' := [ab_lg (P.2.2.1 si a1.toNatClampNeg), .inr (6, 0, 0, i2)]) (P1 := P) rfl ⟨trivial, trivial, trivial, h, trivial⟩ ?_
        rw [hq]
        refine tr_cWV (z := km_295) (av := [.inr (6, 0, 0, i2), .inr (6, 0, 0, q)]) (st' := []) rfl rfl rfl (Nat.le_of_ble_eq_true rfl) ⟨rfl, Or.inl (by decide)⟩ rfl (Nat.le_of_ble_eq_true rfl) (t_295 i2 q P) (fun P1 => ?_)
        refine tr_nil (rows2 := kb_227_23) rfl (List.cons_ne_nil _ _) ?_
        exact tr_reV (z := km_227) rfl rfl rfl
      | none =>
        refine tr_nuT ?_
        refine tr_nil (rows2 := kb_227_23) rfl (List.cons_ne_nil _ _) ?_
        exact tr_reV (z := km_227) rfl rfl rfl
    · refine tr_icT (cd := .ge) (Int32.not_lt.mp h2) ?_
      refine tr_nil (rows2 := kb_227_23) rfl (List.cons_ne_nil _ _) ?_
      exact tr_reV (z := km_227) rfl rfl rfl

def f_215 (i1 : Nat) (P : ab_P) : Option ab_P :=
    if (P.1 65 1) < (20 : Int32) then
      Option.bind (f_279 20 66 i1 (P.1 65 1) P) fun P1 =>
      ab_lt (ab_pI P1 65 1 ((P1.1 65 1) + (1 : Int32))) fun P2 =>
      some P2
    else
    some P
theorem t_215 {xs : Nat × (Nat → Int32)} {d : Nat} (i1 : Nat) : ∀ (P : ab_P), ab_tr xs wV (d + 2) 215 0 [] [.inr (3, 0, 0, 65), .inr (6, 0, 0, i1)] [] P (f_215 i1 P) := by
  intro P
  unfold f_215
  refine tr_nil (rows2 := kb_215_0) rfl (List.cons_ne_nil _ _) ?_
  refine tr_blk 3 (pc' := 6) (rows' := kb_215_0.drop 3) (loc' := [.inr (3, 0, 0, 65), .inr (6, 0, 0, i1)]) (st' := [.inl (.int (20 : Int32)), .inl (.int (P.1 65 1))]) (P1 := P) rfl ⟨trivial, trivial, trivial, trivial⟩ ?_
  refine tr_if (fun h3 => ?_) (fun h3 => ?_)
  · refine tr_icF (cd := .ge) (Int32.not_le.mpr h3) ?_
    refine tr_blk 5 (pc' := 18) (rows' := kb_215_0.drop 9) (loc' := [.inr (3, 0, 0, 65), .inr (6, 0, 0, i1)]) (st' := [.inr (6, 0, 0, i1), .inl (.int (P.1 65 1)), .inr (25, 20, 0, 66)]) (P1 := P) rfl ⟨trivial, trivial, trivial, trivial, trivial, trivial⟩ ?_
    refine tr_cWV (z := km_279) (av := [.inr (25, 20, 0, 66), .inl (.int (P.1 65 1)), .inr (6, 0, 0, i1)]) (st' := []) rfl rfl rfl (Nat.le_of_ble_eq_true rfl) trivial rfl (Nat.le_of_ble_eq_true rfl) (t_279 20 66 i1 (P.1 65 1) P) (fun P1 => ?_)
    refine tr_blk 6 (pc' := 31) (rows' := kb_215_0.drop 16) (loc' := [.inr (3, 0, 0, 65), .inr (6, 0, 0, i1)]) (st' := []) (P1 := (ab_pI P1 65 1 ((P1.1 65 1) + (1 : Int32)))) rfl ⟨trivial, trivial, trivial, trivial, trivial, trivial, trivial⟩ ?_
    refine tr_lt (fun P2 => ?_)
    refine tr_nil (rows2 := kb_215_31) rfl (List.cons_ne_nil _ _) ?_
    exact tr_reV (z := km_215) rfl rfl rfl
  · refine tr_icT (cd := .ge) (Int32.not_lt.mp h3) ?_
    refine tr_nil (rows2 := kb_215_31) rfl (List.cons_ne_nil _ _) ?_
    exact tr_reV (z := km_215) rfl rfl rfl
def f_231 (i0 : Nat) (P : ab_P) (a1 : Int32) (a2 : Int32) : Option Int32 :=
    if a1 < (0 : Int32) then
      some (0 : Int32)
    else
    if a1 < (9 : Int32) then
      if a2 < (0 : Int32) then
        some (0 : Int32)
      else
      if a2 < (40 : Int32) then
        if ab_gi ((a1 * (40 : Int32)) + a2) 360 then
        some (P.1 (i0 + 1) (((a1 * (40 : Int32)) + a2)).toNatClampNeg)
        else none
      else
      some (0 : Int32)
    else
    some (0 : Int32)
theorem t_231 {xs : Nat × (Nat → Int32)} {d : Nat} (i0 : Nat) (P : ab_P) : ∀ (a1 : Int32) (a2 : Int32), ab_tr xs (rI P) (d + 0) 231 0 [] [.inr (6, 0, 0, i0), .inl (.int a1), .inl (.int a2), ab_top] [] P (f_231 i0 P a1 a2) := by
  intro a1 a2
  unfold f_231
  refine tr_nil (rows2 := kb_231_0) rfl (List.cons_ne_nil _ _) ?_
  refine tr_blk 1 (pc' := 1) (rows' := kb_231_0.drop 1) (loc' := [.inr (6, 0, 0, i0), .inl (.int a1), .inl (.int a2), ab_top]) (st' := [.inl (.int a1)]) (P1 := P) rfl ⟨trivial, trivial⟩ ?_
  refine tr_if (fun h2 => ?_) (fun h2 => ?_)
  · refine tr_ifT (cd := .lt) h2 ?_
    refine tr_nil (rows2 := kb_231_24) rfl (List.cons_ne_nil _ _) ?_
    refine tr_blk 1 (pc' := 25) (rows' := kb_231_24.drop 1) (loc' := [.inr (6, 0, 0, i0), .inl (.int a1), .inl (.int a2), ab_top]) (st' := [.inl (.int (0 : Int32))]) (P1 := P) rfl ⟨trivial, trivial⟩ ?_
    refine tr_nil (rows2 := kb_231_25) rfl (List.cons_ne_nil _ _) ?_
    refine tr_blk 2 (pc' := 27) (rows' := kb_231_25.drop 2) (loc' := [.inr (6, 0, 0, i0), .inl (.int a1), .inl (.int a2), .inl (.int (0 : Int32))]) (st' := [.inl (.int (0 : Int32))]) (P1 := P) rfl ⟨trivial, trivial, trivial⟩ ?_
    refine tr_ifT (cd := .eq) (ab_cdT (by decide)) ?_
    refine tr_nil (rows2 := kb_231_44) rfl (List.cons_ne_nil _ _) ?_
    refine tr_blk 1 (pc' := 45) (rows' := kb_231_44.drop 1) (loc' := [.inr (6, 0, 0, i0), .inl (.int a1), .inl (.int a2), .inl (.int (0 : Int32))]) (st' := [.inl (.int (0 : Int32))]) (P1 := P) rfl ⟨trivial, trivial⟩ ?_
    refine tr_nil (rows2 := kb_231_45) rfl (List.cons_ne_nil _ _) ?_
    exact tr_reI (z := km_231) rfl ⟨_, rfl, rfl⟩ rfl
  · refine tr_ifF (cd := .lt) h2 ?_
    refine tr_blk 2 (pc' := 7) (rows' := kb_231_0.drop 4) (loc' := [.inr (6, 0, 0, i0), .inl (.int a1), .inl (.int a2), ab_top]) (st' := [.inl (.int (9 : Int32)), .inl (.int a1)]) (P1 := P) rfl ⟨trivial, trivial, trivial⟩ ?_
    refine tr_if (fun h3 => ?_) (fun h3 => ?_)
    · refine tr_icF (cd := .ge) (Int32.not_le.mpr h3) ?_
      refine tr_blk 1 (pc' := 11) (rows' := kb_231_0.drop 6) (loc' := [.inr (6, 0, 0, i0), .inl (.int a1), .inl (.int a2), ab_top]) (st' := [.inl (.int a2)]) (P1 := P) rfl ⟨trivial, trivial⟩ ?_
      refine tr_if (fun h4 => ?_) (fun h4 => ?_)
      · refine tr_ifT (cd := .lt) h4 ?_
        refine tr_nil (rows2 := kb_231_24) rfl (List.cons_ne_nil _ _) ?_
        refine tr_blk 1 (pc' := 25) (rows' := kb_231_24.drop 1) (loc' := [.inr (6, 0, 0, i0), .inl (.int a1), .inl (.int a2), ab_top]) (st' := [.inl (.int (0 : Int32))]) (P1 := P) rfl ⟨trivial, trivial⟩ ?_
        refine tr_nil (rows2 := kb_231_25) rfl (List.cons_ne_nil _ _) ?_
        refine tr_blk 2 (pc' := 27) (rows' := kb_231_25.drop 2) (loc' := [.inr (6, 0, 0, i0), .inl (.int a1), .inl (.int a2), .inl (.int (0 : Int32))]) (st' := [.inl (.int (0 : Int32))]) (P1 := P) rfl ⟨trivial, trivial, trivial⟩ ?_
        refine tr_ifT (cd := .eq) (ab_cdT (by decide)) ?_
        refine tr_nil (rows2 := kb_231_44) rfl (List.cons_ne_nil _ _) ?_
        refine tr_blk 1 (pc' := 45) (rows' := kb_231_44.drop 1) (loc' := [.inr (6, 0, 0, i0), .inl (.int a1), .inl (.int a2), .inl (.int (0 : Int32))]) (st' := [.inl (.int (0 : Int32))]) (P1 := P) rfl ⟨trivial, trivial⟩ ?_
        refine tr_nil (rows2 := kb_231_45) rfl (List.cons_ne_nil _ _) ?_
        exact tr_reI (z := km_231) rfl ⟨_, rfl, rfl⟩ rfl
      · refine tr_ifF (cd := .lt) h4 ?_
        refine tr_blk 2 (pc' := 17) (rows' := kb_231_0.drop 9) (loc' := [.inr (6, 0, 0, i0), .inl (.int a1), .inl (.int a2), ab_top]) (st' := [.inl (.int (40 : Int32)), .inl (.int a2)]) (P1 := P) rfl ⟨trivial, trivial, trivial⟩ ?_
        refine tr_if (fun h5 => ?_) (fun h5 => ?_)
        · refine tr_icF (cd := .ge) (Int32.not_le.mpr h5) ?_
          refine tr_blk 1 (pc' := 21) (rows' := kb_231_0.drop 11) (loc' := [.inr (6, 0, 0, i0), .inl (.int a1), .inl (.int a2), ab_top]) (st' := [.inl (.int (1 : Int32))]) (P1 := P) rfl ⟨trivial, trivial⟩ ?_
          refine tr_goto ?_
          refine tr_nil (rows2 := kb_231_25) rfl (List.cons_ne_nil _ _) ?_
          refine tr_blk 2 (pc' := 27) (rows' := kb_231_25.drop 2) (loc' := [.inr (6, 0, 0, i0), .inl (.int a1), .inl (.int a2), .inl (.int (1 : Int32))]) (st' := [.inl (.int (1 : Int32))]) (P1 := P) rfl ⟨trivial, trivial, trivial⟩ ?_
          refine tr_ifF (cd := .eq) (ab_cdF (by decide)) ?_
          refine tr_gd (fun h1 => ?_)
          refine tr_blk 8 (pc' := 41) (rows' := kb_231_25.drop 11) (loc' := [.inr (6, 0, 0, i0), .inl (.int a1), .inl (.int a2), .inl (.int (1 : Int32))]) (st' := [.inl (.int (P.1 (i0 + 1) (((a1 * (40 : Int32)) + a2)).toNatClampNeg))]) (P1 := P) rfl ⟨trivial, trivial, trivial, trivial, trivial, trivial, trivial, h1, trivial⟩ ?_
          refine tr_goto ?_
          refine tr_nil (rows2 := kb_231_45) rfl (List.cons_ne_nil _ _) ?_
          exact tr_reI (z := km_231) rfl ⟨_, rfl, rfl⟩ rfl
        · refine tr_icT (cd := .ge) (Int32.not_lt.mp h5) ?_
          refine tr_nil (rows2 := kb_231_24) rfl (List.cons_ne_nil _ _) ?_
          refine tr_blk 1 (pc' := 25) (rows' := kb_231_24.drop 1) (loc' := [.inr (6, 0, 0, i0), .inl (.int a1), .inl (.int a2), ab_top]) (st' := [.inl (.int (0 : Int32))]) (P1 := P) rfl ⟨trivial, trivial⟩ ?_
          refine tr_nil (rows2 := kb_231_25) rfl (List.cons_ne_nil _ _) ?_
          refine tr_blk 2 (pc' := 27) (rows' := kb_231_25.drop 2) (loc' := [.inr (6, 0, 0, i0), .inl (.int a1), .inl (.int a2), .inl (.int (0 : Int32))]) (st' := [.inl (.int (0 : Int32))]) (P1 := P) rfl ⟨trivial, trivial, trivial⟩ ?_
          refine tr_ifT (cd := .eq) (ab_cdT (by decide)) ?_
          refine tr_nil (rows2 := kb_231_44) rfl (List.cons_ne_nil _ _) ?_
          refine tr_blk 1 (pc' := 45) (rows' := kb_231_44.drop 1) (loc' := [.inr (6, 0, 0, i0), .inl (.int a1), .inl (.int a2), .inl (.int (0 : Int32))]) (st' := [.inl (.int (0 : Int32))]) (P1 := P) rfl ⟨trivial, trivial⟩ ?_
          refine tr_nil (rows2 := kb_231_45) rfl (List.cons_ne_nil _ _) ?_
          exact tr_reI (z := km_231) rfl ⟨_, rfl, rfl⟩ rfl
    · refine tr_icT (cd := .ge) (Int32.not_lt.mp h3) ?_
      refine tr_nil (rows2 := kb_231_24) rfl (List.cons_ne_nil _ _) ?_
      refine tr_blk 1 (pc' := 25) (rows' := kb_231_24.drop 1) (loc' := [.inr (6, 0, 0, i0), .inl (.int a1), .inl (.int a2), ab_top]) (st' := [.inl (.int (0 : Int32))]) (P1 := P) rfl ⟨trivial, trivial⟩ ?_
      refine tr_nil (rows2 := kb_231_25) rfl (List.cons_ne_nil _ _) ?_
      refine tr_blk 2 (pc' := 27) (rows' := kb_231_25.drop 2) (loc' := [.inr (6, 0, 0, i0), .inl (.int a1), .inl (.int a2), .inl (.int (0 : Int32))]) (st' := [.inl (.int (0 : Int32))]) (P1 := P) rfl ⟨trivial, trivial, trivial⟩ ?_
      refine tr_ifT (cd := .eq) (ab_cdT (by decide)) ?_
      refine tr_nil (rows2 := kb_231_44) rfl (List.cons_ne_nil _ _) ?_
      refine tr_blk 1 (pc' := 45) (rows' := kb_231_44.drop 1) (loc' := [.inr (6, 0, 0, i0), .inl (.int a1), .inl (.int a2), .inl (.int (0 : Int32))]) (st' := [.inl (.int (0 : Int32))]) (P1 := P) rfl ⟨trivial, trivial⟩ ?_
      refine tr_nil (rows2 := kb_231_45) rfl (List.cons_ne_nil _ _) ?_
      exact tr_reI (z := km_231) rfl ⟨_, rfl, rfl⟩ rfl
def f_263 (i0 : Nat) (P : ab_P) (a1 : Int32) : Option Int32 :=
    if a1 < (0 : Int32) then
      some (0 : Int32)
    else
    if a1 < (P.1 i0 2) then
      Option.bind (f_231 i0 P (7 : Int32) a1) fun v1 =>
      if v1 = (0 : Int32) then
        some (1 : Int32)
      else
      some (0 : Int32)
    else
    some (0 : Int32)
theorem t_263 {xs : Nat × (Nat → Int32)} {d : Nat} (i0 : Nat) (P : ab_P) : ∀ (a1 : Int32), ab_tr xs (rI P) (d + 1) 263 0 [] [.inr (6, 0, 0, i0), .inl (.int a1)] [] P (f_263 i0 P a1) := by
  intro a1
  unfold f_263
  refine tr_nil (rows2 := kb_263_0) rfl (List.cons_ne_nil _ _) ?_
  refine tr_blk 1 (pc' := 1) (rows' := kb_263_0.drop 1) (loc' := [.inr (6, 0, 0, i0), .inl (.int a1)]) (st' := [.inl (.int a1)]) (P1 := P) rfl ⟨trivial, trivial⟩ ?_
  refine tr_if (fun h2 => ?_) (fun h2 => ?_)
  · refine tr_ifT (cd := .lt) h2 ?_
    refine tr_nil (rows2 := kb_263_26) rfl (List.cons_ne_nil _ _) ?_
    refine tr_blk 1 (pc' := 27) (rows' := kb_263_26.drop 1) (loc' := [.inr (6, 0, 0, i0), .inl (.int a1)]) (st' := [.inl (.int (0 : Int32))]) (P1 := P) rfl ⟨trivial, trivial⟩ ?_
    refine tr_nil (rows2 := kb_263_27) rfl (List.cons_ne_nil _ _) ?_
    exact tr_reI (z := km_263) rfl ⟨_, rfl, rfl⟩ rfl
  · refine tr_ifF (cd := .lt) h2 ?_
    refine tr_blk 3 (pc' := 9) (rows' := kb_263_0.drop 5) (loc' := [.inr (6, 0, 0, i0), .inl (.int a1)]) (st' := [.inl (.int (P.1 i0 2)), .inl (.int a1)]) (P1 := P) rfl ⟨trivial, trivial, trivial, trivial⟩ ?_
    refine tr_if (fun h3 => ?_) (fun h3 => ?_)
    · refine tr_icF (cd := .ge) (Int32.not_le.mpr h3) ?_
      refine tr_blk 3 (pc' := 16) (rows' := kb_263_0.drop 9) (loc' := [.inr (6, 0, 0, i0), .inl (.int a1)]) (st' := [.inl (.int a1), .inl (.int (7 : Int32)), .inr (6, 0, 0, i0)]) (P1 := P) rfl ⟨trivial, trivial, trivial, trivial⟩ ?_
      refine tr_cRI (z := km_231) (av := [.inr (6, 0, 0, i0), .inl (.int (7 : Int32)), .inl (.int a1)]) (st' := []) rfl rfl rfl (Nat.le_of_ble_eq_true rfl) ⟨rfl, Or.inl (by decide)⟩ rfl (Nat.le_of_ble_eq_true rfl) (t_231 i0 P (7 : Int32) a1) (fun v1 => ?_)
      refine tr_if (fun h4 => ?_) (fun h4 => ?_)
      · refine tr_ifF (cd := .ne) (fun q => q h4) ?_
        refine tr_blk 1 (pc' := 23) (rows' := kb_263_0.drop 12) (loc' := [.inr (6, 0, 0, i0), .inl (.int a1)]) (st' := [.inl (.int (1 : Int32))]) (P1 := P) rfl ⟨trivial, trivial⟩ ?_
        refine tr_goto ?_
        refine tr_nil (rows2 := kb_263_27) rfl (List.cons_ne_nil _ _) ?_
        exact tr_reI (z := km_263) rfl ⟨_, rfl, rfl⟩ rfl
      · refine tr_ifT (cd := .ne) h4 ?_
        refine tr_nil (rows2 := kb_263_26) rfl (List.cons_ne_nil _ _) ?_
        refine tr_blk 1 (pc' := 27) (rows' := kb_263_26.drop 1) (loc' := [.inr (6, 0, 0, i0), .inl (.int a1)]) (st' := [.inl (.int (0 : Int32))]) (P1 := P) rfl ⟨trivial, trivial⟩ ?_
        refine tr_nil (rows2 := kb_263_27) rfl (List.cons_ne_nil _ _) ?_
        exact tr_reI (z := km_263) rfl ⟨_, rfl, rfl⟩ rfl
    · refine tr_icT (cd := .ge) (Int32.not_lt.mp h3) ?_
      refine tr_nil (rows2 := kb_263_26) rfl (List.cons_ne_nil _ _) ?_
      refine tr_blk 1 (pc' := 27) (rows' := kb_263_26.drop 1) (loc' := [.inr (6, 0, 0, i0), .inl (.int a1)]) (st' := [.inl (.int (0 : Int32))]) (P1 := P) rfl ⟨trivial, trivial⟩ ?_
      refine tr_nil (rows2 := kb_263_27) rfl (List.cons_ne_nil _ _) ?_
      exact tr_reI (z := km_263) rfl ⟨_, rfl, rfl⟩ rfl
def f_339 (i0 : Nat) (a1 : Int32) (a2 : Int32) (P : ab_P) : Option (Int32 × ab_P) :=
    Option.bind (f_263 i0 P a1) fun v1 =>
    if v1 = (0 : Int32) then
      some ((0 : Int32), P)
    else
    Option.bind (f_325 i0 (7 : Int32) a1 a2 P) fun P2 =>
    if a2 < (1 : Int32) then
      some ((1 : Int32), P2)
    else
    if (3 : Int32) < a2 then
      some ((1 : Int32), P2)
    else
    if ab_gi (a2 + (1 : Int32)) 5 then
    Option.bind (f_231 i0 P2 (2 : Int32) a1) fun v4 =>
    if ab_gi (a2 + (1 : Int32)) 5 then
    ab_lt (ab_pI P2 (i0 + 2) ((a2 + (1 : Int32))).toNatClampNeg ((P2.1 (i0 + 2) ((a2 + (1 : Int32))).toNatClampNeg) + v4)) fun P6 =>
    some ((1 : Int32), P6)
    else none
    else none
theorem t_339 {xs : Nat × (Nat → Int32)} {d : Nat} (i0 : Nat) : ∀ (a1 : Int32) (a2 : Int32) (P : ab_P), ab_tr xs wI (d + 2) 339 0 [] [.inr (6, 0, 0, i0), .inl (.int a1), .inl (.int a2)] [] P (f_339 i0 a1 a2 P) := by
  intro a1 a2 P
  unfold f_339
  refine tr_nil (rows2 := kb_339_0) rfl (List.cons_ne_nil _ _) ?_
  refine tr_blk 2 (pc' := 2) (rows' := kb_339_0.drop 2) (loc' := [.inr (6, 0, 0, i0), .inl (.int a1), .inl (.int a2)]) (st' := [.inl (.int a1), .inr (6, 0, 0, i0)]) (P1 := P) rfl ⟨trivial, trivial, trivial⟩ ?_
  refine tr_cRI (z := km_263) (av := [.inr (6, 0, 0, i0), .inl (.int a1)]) (st' := []) rfl rfl rfl (Nat.le_of_ble_eq_true rfl) ⟨rfl, Or.inl (by decide)⟩ rfl (Nat.le_of_ble_eq_true rfl) (t_263 i0 P a1) (fun v1 => ?_)
  refine tr_if (fun h7 => ?_) (fun h7 => ?_)
  · refine tr_ifF (cd := .ne) (fun q => q h7) ?_
    refine tr_blk 1 (pc' := 9) (rows' := kb_339_0.drop 5) (loc' := [.inr (6, 0, 0, i0), .inl (.int a1), .inl (.int a2)]) (st' := [.inl (.int (0 : Int32))]) (P1 := P) rfl ⟨trivial, trivial⟩ ?_
    exact tr_reI (z := km_339) rfl ⟨_, rfl, rfl⟩ rfl
  · refine tr_ifT (cd := .ne) h7 ?_
    refine tr_nil (rows2 := kb_339_10) rfl (List.cons_ne_nil _ _) ?_
    refine tr_blk 4 (pc' := 15) (rows' := kb_339_10.drop 4) (loc' := [.inr (6, 0, 0, i0), .inl (.int a1), .inl (.int a2)]) (st' := [.inl (.int a2), .inl (.int a1), .inl (.int (7 : Int32)), .inr (6, 0, 0, i0)]) (P1 := P) rfl ⟨trivial, trivial, trivial, trivial, trivial⟩ ?_
    refine tr_cWV (z := km_325) (av := [.inr (6, 0, 0, i0), .inl (.int (7 : Int32)), .inl (.int a1), .inl (.int a2)]) (st' := []) rfl rfl rfl (Nat.le_of_ble_eq_true rfl) ⟨rfl, Or.inl (by decide)⟩ rfl (Nat.le_of_ble_eq_true rfl) (t_325 i0 (7 : Int32) a1 a2 P) (fun P2 => ?_)
    refine tr_blk 2 (pc' := 20) (rows' := kb_339_10.drop 7) (loc' := [.inr (6, 0, 0, i0), .inl (.int a1), .inl (.int a2)]) (st' := [.inl (.int (1 : Int32)), .inl (.int a2)]) (P1 := P2) rfl ⟨trivial, trivial, trivial⟩ ?_
    refine tr_if (fun h8 => ?_) (fun h8 => ?_)
    · refine tr_icT (cd := .lt) h8 ?_
      refine tr_nil (rows2 := kb_339_45) rfl (List.cons_ne_nil _ _) ?_
      refine tr_blk 1 (pc' := 46) (rows' := kb_339_45.drop 1) (loc' := [.inr (6, 0, 0, i0), .inl (.int a1), .inl (.int a2)]) (st' := [.inl (.int (1 : Int32))]) (P1 := P2) rfl ⟨trivial, trivial⟩ ?_
      exact tr_reI (z := km_339) rfl ⟨_, rfl, rfl⟩ rfl
    · refine tr_icF (cd := .lt) h8 ?_
      refine tr_blk 2 (pc' := 25) (rows' := kb_339_10.drop 10) (loc' := [.inr (6, 0, 0, i0), .inl (.int a1), .inl (.int a2)]) (st' := [.inl (.int (3 : Int32)), .inl (.int a2)]) (P1 := P2) rfl ⟨trivial, trivial, trivial⟩ ?_
      refine tr_if (fun h9 => ?_) (fun h9 => ?_)
      · refine tr_icT (cd := .gt) h9 ?_
        refine tr_nil (rows2 := kb_339_45) rfl (List.cons_ne_nil _ _) ?_
        refine tr_blk 1 (pc' := 46) (rows' := kb_339_45.drop 1) (loc' := [.inr (6, 0, 0, i0), .inl (.int a1), .inl (.int a2)]) (st' := [.inl (.int (1 : Int32))]) (P1 := P2) rfl ⟨trivial, trivial⟩ ?_
        exact tr_reI (z := km_339) rfl ⟨_, rfl, rfl⟩ rfl
      · refine tr_icF (cd := .gt) h9 ?_
        refine tr_gd (fun h3 => ?_)
        refine tr_blk 10 (pc' := 40) (rows' := kb_339_10.drop 21) (loc' := [.inr (6, 0, 0, i0), .inl (.int a1), .inl (.int a2)]) (st' := [.inl (.int a1), .inl (.int (2 : Int32)), .inr (6, 0, 0, i0), .inl (.int (P2.1 (i0 + 2) ((a2 + (1 : Int32))).toNatClampNeg)), .inl (.int (a2 + (1 : Int32))), .inr (20, 5, 0, (i0 + 2))]) (P1 := P2) rfl ⟨trivial, trivial, trivial, trivial, trivial, trivial, h3, trivial, trivial, trivial, trivial⟩ ?_
        refine tr_cRI (z := km_231) (av := [.inr (6, 0, 0, i0), .inl (.int (2 : Int32)), .inl (.int a1)]) (st' := [.inl (.int (P2.1 (i0 + 2) ((a2 + (1 : Int32))).toNatClampNeg)), .inl (.int (a2 + (1 : Int32))), .inr (20, 5, 0, (i0 + 2))]) rfl rfl rfl (Nat.le_of_ble_eq_true rfl) ⟨rfl, Or.inl (by decide)⟩ rfl (Nat.le_of_ble_eq_true rfl) (t_231 i0 P2 (2 : Int32) a1) (fun v4 => ?_)
        refine tr_gd (fun h5 => ?_)
        refine tr_blk 2 (pc' := 45) (rows' := kb_339_10.drop 24) (loc' := [.inr (6, 0, 0, i0), .inl (.int a1), .inl (.int a2)]) (st' := []) (P1 := (ab_pI P2 (i0 + 2) ((a2 + (1 : Int32))).toNatClampNeg ((P2.1 (i0 + 2) ((a2 + (1 : Int32))).toNatClampNeg) + v4))) rfl ⟨trivial, h5, trivial⟩ ?_
        refine tr_lt (fun P6 => ?_)
        refine tr_nil (rows2 := kb_339_45) rfl (List.cons_ne_nil _ _) ?_
        refine tr_blk 1 (pc' := 46) (rows' := kb_339_45.drop 1) (loc' := [.inr (6, 0, 0, i0), .inl (.int a1), .inl (.int a2)]) (st' := [.inl (.int (1 : Int32))]) (P1 := P6) rfl ⟨trivial, trivial⟩ ?_
        exact tr_reI (z := km_339) rfl ⟨_, rfl, rfl⟩ rfl
def f_335 (i0 : Nat) (a1 : Int32) (a2 : Int32) (P : ab_P) : Option (Int32 × ab_P) :=
    Option.bind (f_263 i0 P a1) fun v1 =>
    if v1 = (0 : Int32) then
      some ((0 : Int32), P)
    else
    Option.bind (f_231 i0 P (1 : Int32) a1) fun v2 =>
    if v2 = a2 then
      some ((0 : Int32), P)
    else
    Option.bind (f_325 i0 (1 : Int32) a1 a2 P) fun P3 =>
    Option.bind (f_231 i0 P3 (4 : Int32) a1) fun v4 =>
    Option.bind (f_325 i0 (4 : Int32) a1 (v4 + (1 : Int32)) P3) fun P5 =>
    Option.bind (f_231 i0 P5 (0 : Int32) a1) fun v6 =>
    if v6 = a2 then
      ab_b2 (f_339 i0 a1 (3 : Int32) P5) fun v8 P7 =>
      some ((1 : Int32), P7)
    else
    some ((1 : Int32), P5)
theorem t_335 {xs : Nat × (Nat → Int32)} {d : Nat} (i0 : Nat) : ∀ (a1 : Int32) (a2 : Int32) (P : ab_P), ab_tr xs wI (d + 3) 335 0 [] [.inr (6, 0, 0, i0), .inl (.int a1), .inl (.int a2)] [] P (f_335 i0 a1 a2 P) := by
  intro a1 a2 P
  unfold f_335
  refine tr_nil (rows2 := kb_335_0) rfl (List.cons_ne_nil _ _) ?_
  refine tr_blk 2 (pc' := 2) (rows' := kb_335_0.drop 2) (loc' := [.inr (6, 0, 0, i0), .inl (.int a1), .inl (.int a2)]) (st' := [.inl (.int a1), .inr (6, 0, 0, i0)]) (P1 := P) rfl ⟨trivial, trivial, trivial⟩ ?_
  refine tr_cRI (z := km_263) (av := [.inr (6, 0, 0, i0), .inl (.int a1)]) (st' := []) rfl rfl rfl (Nat.le_of_ble_eq_true rfl) ⟨rfl, Or.inl (by decide)⟩ rfl (Nat.le_of_ble_eq_true rfl) (t_263 i0 P a1) (fun v1 => ?_)
  refine tr_if (fun h9 => ?_) (fun h9 => ?_)
  · refine tr_ifT (cd := .eq) h9 ?_
    refine tr_nil (rows2 := kb_335_18) rfl (List.cons_ne_nil _ _) ?_
    refine tr_blk 1 (pc' := 19) (rows' := kb_335_18.drop 1) (loc' := [.inr (6, 0, 0, i0), .inl (.int a1), .inl (.int a2)]) (st' := [.inl (.int (0 : Int32))]) (P1 := P) rfl ⟨trivial, trivial⟩ ?_
    exact tr_reI (z := km_335) rfl ⟨_, rfl, rfl⟩ rfl
  · refine tr_ifF (cd := .eq) h9 ?_
    refine tr_blk 3 (pc' := 11) (rows' := kb_335_0.drop 7) (loc' := [.inr (6, 0, 0, i0), .inl (.int a1), .inl (.int a2)]) (st' := [.inl (.int a1), .inl (.int (1 : Int32)), .inr (6, 0, 0, i0)]) (P1 := P) rfl ⟨trivial, trivial, trivial, trivial⟩ ?_
    refine tr_cRI (z := km_231) (av := [.inr (6, 0, 0, i0), .inl (.int (1 : Int32)), .inl (.int a1)]) (st' := []) rfl rfl rfl (Nat.le_of_ble_eq_true rfl) ⟨rfl, Or.inl (by decide)⟩ rfl (Nat.le_of_ble_eq_true rfl) (t_231 i0 P (1 : Int32) a1) (fun v2 => ?_)
    refine tr_blk 1 (pc' := 15) (rows' := kb_335_0.drop 9) (loc' := [.inr (6, 0, 0, i0), .inl (.int a1), .inl (.int a2)]) (st' := [.inl (.int a2), .inl (.int v2)]) (P1 := P) rfl ⟨trivial, trivial⟩ ?_
    refine tr_if (fun h10 => ?_) (fun h10 => ?_)
    · refine tr_icF (cd := .ne) (fun q => q h10) ?_
      refine tr_nil (rows2 := kb_335_18) rfl (List.cons_ne_nil _ _) ?_
      refine tr_blk 1 (pc' := 19) (rows' := kb_335_18.drop 1) (loc' := [.inr (6, 0, 0, i0), .inl (.int a1), .inl (.int a2)]) (st' := [.inl (.int (0 : Int32))]) (P1 := P) rfl ⟨trivial, trivial⟩ ?_
      exact tr_reI (z := km_335) rfl ⟨_, rfl, rfl⟩ rfl
    · refine tr_icT (cd := .ne) h10 ?_
      refine tr_nil (rows2 := kb_335_20) rfl (List.cons_ne_nil _ _) ?_
      refine tr_blk 4 (pc' := 24) (rows' := kb_335_20.drop 4) (loc' := [.inr (6, 0, 0, i0), .inl (.int a1), .inl (.int a2)]) (st' := [.inl (.int a2), .inl (.int a1), .inl (.int (1 : Int32)), .inr (6, 0, 0, i0)]) (P1 := P) rfl ⟨trivial, trivial, trivial, trivial, trivial⟩ ?_
      refine tr_cWV (z := km_325) (av := [.inr (6, 0, 0, i0), .inl (.int (1 : Int32)), .inl (.int a1), .inl (.int a2)]) (st' := []) rfl rfl rfl (Nat.le_of_ble_eq_true rfl) ⟨rfl, Or.inl (by decide)⟩ rfl (Nat.le_of_ble_eq_true rfl) (t_325 i0 (1 : Int32) a1 a2 P) (fun P3 => ?_)
      refine tr_blk 6 (pc' := 33) (rows' := kb_335_20.drop 11) (loc' := [.inr (6, 0, 0, i0), .inl (.int a1), .inl (.int a2)]) (st' := [.inl (.int a1), .inl (.int (4 : Int32)), .inr (6, 0, 0, i0), .inl (.int a1), .inl (.int (4 : Int32)), .inr (6, 0, 0, i0)]) (P1 := P3) rfl ⟨trivial, trivial, trivial, trivial, trivial, trivial, trivial⟩ ?_
      refine tr_cRI (z := km_231) (av := [.inr (6, 0, 0, i0), .inl (.int (4 : Int32)), .inl (.int a1)]) (st' := [.inl (.int a1), .inl (.int (4 : Int32)), .inr (6, 0, 0, i0)]) rfl rfl rfl (Nat.le_of_ble_eq_true rfl) ⟨rfl, Or.inl (by decide)⟩ rfl (Nat.le_of_ble_eq_true rfl) (t_231 i0 P3 (4 : Int32) a1) (fun v4 => ?_)
      refine tr_blk 2 (pc' := 38) (rows' := kb_335_20.drop 14) (loc' := [.inr (6, 0, 0, i0), .inl (.int a1), .inl (.int a2)]) (st' := [.inl (.int (v4 + (1 : Int32))), .inl (.int a1), .inl (.int (4 : Int32)), .inr (6, 0, 0, i0)]) (P1 := P3) rfl ⟨trivial, trivial, trivial⟩ ?_
      refine tr_cWV (z := km_325) (av := [.inr (6, 0, 0, i0), .inl (.int (4 : Int32)), .inl (.int a1), .inl (.int (v4 + (1 : Int32)))]) (st' := []) rfl rfl rfl (Nat.le_of_ble_eq_true rfl) ⟨rfl, Or.inl (by decide)⟩ rfl (Nat.le_of_ble_eq_true rfl) (t_325 i0 (4 : Int32) a1 (v4 + (1 : Int32)) P3) (fun P5 => ?_)
      refine tr_blk 3 (pc' := 44) (rows' := kb_335_20.drop 18) (loc' := [.inr (6, 0, 0, i0), .inl (.int a1), .inl (.int a2)]) (st' := [.inl (.int a1), .inl (.int (0 : Int32)), .inr (6, 0, 0, i0)]) (P1 := P5) rfl ⟨trivial, trivial, trivial, trivial⟩ ?_
      refine tr_cRI (z := km_231) (av := [.inr (6, 0, 0, i0), .inl (.int (0 : Int32)), .inl (.int a1)]) (st' := []) rfl rfl rfl (Nat.le_of_ble_eq_true rfl) ⟨rfl, Or.inl (by decide)⟩ rfl (Nat.le_of_ble_eq_true rfl) (t_231 i0 P5 (0 : Int32) a1) (fun v6 => ?_)
      refine tr_blk 1 (pc' := 48) (rows' := kb_335_20.drop 20) (loc' := [.inr (6, 0, 0, i0), .inl (.int a1), .inl (.int a2)]) (st' := [.inl (.int a2), .inl (.int v6)]) (P1 := P5) rfl ⟨trivial, trivial⟩ ?_
      refine tr_if (fun h11 => ?_) (fun h11 => ?_)
      · refine tr_icF (cd := .ne) (fun q => q h11) ?_
        refine tr_blk 3 (pc' := 54) (rows' := kb_335_20.drop 24) (loc' := [.inr (6, 0, 0, i0), .inl (.int a1), .inl (.int a2)]) (st' := [.inl (.int (3 : Int32)), .inl (.int a1), .inr (6, 0, 0, i0)]) (P1 := P5) rfl ⟨trivial, trivial, trivial, trivial⟩ ?_
        refine tr_cWI (z := km_339) (av := [.inr (6, 0, 0, i0), .inl (.int a1), .inl (.int (3 : Int32))]) (st' := []) rfl rfl rfl (Nat.le_of_ble_eq_true rfl) ⟨rfl, Or.inl (by decide)⟩ rfl (Nat.le_of_ble_eq_true rfl) (t_339 i0 a1 (3 : Int32) P5) (fun v8 P7 => ?_)
        refine tr_blk 1 (pc' := 58) (rows' := kb_335_20.drop 26) (loc' := [.inr (6, 0, 0, i0), .inl (.int a1), .inl (.int a2)]) (st' := []) (P1 := P7) rfl ⟨trivial, trivial⟩ ?_
        refine tr_nil (rows2 := kb_335_58) rfl (List.cons_ne_nil _ _) ?_
        refine tr_blk 1 (pc' := 59) (rows' := kb_335_58.drop 1) (loc' := [.inr (6, 0, 0, i0), .inl (.int a1), .inl (.int a2)]) (st' := [.inl (.int (1 : Int32))]) (P1 := P7) rfl ⟨trivial, trivial⟩ ?_
        exact tr_reI (z := km_335) rfl ⟨_, rfl, rfl⟩ rfl
      · refine tr_icT (cd := .ne) h11 ?_
        refine tr_nil (rows2 := kb_335_58) rfl (List.cons_ne_nil _ _) ?_
        refine tr_blk 1 (pc' := 59) (rows' := kb_335_58.drop 1) (loc' := [.inr (6, 0, 0, i0), .inl (.int a1), .inl (.int a2)]) (st' := [.inl (.int (1 : Int32))]) (P1 := P5) rfl ⟨trivial, trivial⟩ ?_
        exact tr_reI (z := km_335) rfl ⟨_, rfl, rfl⟩ rfl
def f_336_34 (i0 : Nat) : Nat → Int32 → Int32 → Int32 → Int32 → ab_P → Option (Int32 × ab_P)
  | 0, _, _, _, _, _ => none
  | n + 1, x1, x2, x3, x4, P =>
    if x4 < (9 : Int32) then
      Option.bind (f_231 i0 P x4 x1) fun v6 =>
      Option.bind (f_325 i0 x4 (P.1 i0 2) v6 P) fun P7 =>
      f_336_34 i0 n x1 x2 x3 (x4 + 1) P7
    else
    Option.bind (f_325 i0 (2 : Int32) x1 x2 P) fun P3 =>
    Option.bind (f_325 i0 (2 : Int32) (P3.1 i0 2) (x3 - x2) P3) fun P4 =>
    ab_lt (ab_pI P4 i0 2 ((P4.1 i0 2) + (1 : Int32))) fun P5 =>
    some ((1 : Int32), P5)
theorem t_336_34 {xs : Nat × (Nat → Int32)} {d : Nat} (i0 : Nat) : ∀ n : Nat, ∀ (x1 : Int32) (x2 : Int32) (x3 : Int32) (x4 : Int32) (P : ab_P), ab_tr xs wI (d + 2) 336 34 [] [.inr (6, 0, 0, i0), .inl (.int x1), .inl (.int x2), .inl (.int x3), .inl (.int x4)] [] P (f_336_34 i0 n x1 x2 x3 x4 P) := by
  intro n
  induction n with
  | zero => intro x1 x2 x3 x4 P; exact tr_no
  | succ n ih =>
    intro x1 x2 x3 x4 P
    refine tr_nil (rows2 := kb_336_34) rfl (List.cons_ne_nil _ _) ?_
    refine tr_blk 2 (pc' := 38) (rows' := kb_336_34.drop 2) (loc' := [.inr (6, 0, 0, i0), .inl (.int x1), .inl (.int x2), .inl (.int x3), .inl (.int x4)]) (st' := [.inl (.int (9 : Int32)), .inl (.int x4)]) (P1 := P) rfl ⟨trivial, trivial, trivial⟩ ?_
    refine tr_if (fun h8 => ?_) (fun h8 => ?_)
    · refine tr_icF (cd := .ge) (Int32.not_le.mpr h8) ?_
      refine tr_blk 7 (pc' := 52) (rows' := kb_336_34.drop 10) (loc' := [.inr (6, 0, 0, i0), .inl (.int x1), .inl (.int x2), .inl (.int x3), .inl (.int x4)]) (st' := [.inl (.int x1), .inl (.int x4), .inr (6, 0, 0, i0), .inl (.int (P.1 i0 2)), .inl (.int x4), .inr (6, 0, 0, i0)]) (P1 := P) rfl ⟨trivial, trivial, trivial, trivial, trivial, trivial, trivial, trivial⟩ ?_
      refine tr_cRI (z := km_231) (av := [.inr (6, 0, 0, i0), .inl (.int x4), .inl (.int x1)]) (st' := [.inl (.int (P.1 i0 2)), .inl (.int x4), .inr (6, 0, 0, i0)]) rfl rfl rfl (Nat.le_of_ble_eq_true rfl) ⟨rfl, Or.inl (by decide)⟩ rfl (Nat.le_of_ble_eq_true rfl) (t_231 i0 P x4 x1) (fun v6 => ?_)
      refine tr_cWV (z := km_325) (av := [.inr (6, 0, 0, i0), .inl (.int x4), .inl (.int (P.1 i0 2)), .inl (.int v6)]) (st' := []) rfl rfl rfl (Nat.le_of_ble_eq_true rfl) ⟨rfl, Or.inl (by decide)⟩ rfl (Nat.le_of_ble_eq_true rfl) (t_325 i0 x4 (P.1 i0 2) v6 P) (fun P7 => ?_)
      refine tr_blk 1 (pc' := 61) (rows' := kb_336_34.drop 13) (loc' := [.inr (6, 0, 0, i0), .inl (.int x1), .inl (.int x2), .inl (.int x3), .inl (.int (x4 + 1))]) (st' := []) (P1 := P7) rfl ⟨trivial, trivial⟩ ?_
      refine tr_goto ?_
      exact ih x1 x2 x3 (x4 + 1) P7
    · refine tr_icT (cd := .ge) (Int32.not_lt.mp h8) ?_
      refine tr_nil (rows2 := kb_336_64) rfl (List.cons_ne_nil _ _) ?_
      refine tr_blk 4 (pc' := 68) (rows' := kb_336_64.drop 4) (loc' := [.inr (6, 0, 0, i0), .inl (.int x1), .inl (.int x2), .inl (.int x3), .inl (.int x4)]) (st' := [.inl (.int x2), .inl (.int x1), .inl (.int (2 : Int32)), .inr (6, 0, 0, i0)]) (P1 := P) rfl ⟨trivial, trivial, trivial, trivial, trivial⟩ ?_
      refine tr_cWV (z := km_325) (av := [.inr (6, 0, 0, i0), .inl (.int (2 : Int32)), .inl (.int x1), .inl (.int x2)]) (st' := []) rfl rfl rfl (Nat.le_of_ble_eq_true rfl) ⟨rfl, Or.inl (by decide)⟩ rfl (Nat.le_of_ble_eq_true rfl) (t_325 i0 (2 : Int32) x1 x2 P) (fun P3 => ?_)
      refine tr_blk 7 (pc' := 80) (rows' := kb_336_64.drop 12) (loc' := [.inr (6, 0, 0, i0), .inl (.int x1), .inl (.int x2), .inl (.int x3), .inl (.int x4)]) (st' := [.inl (.int (x3 - x2)), .inl (.int (P3.1 i0 2)), .inl (.int (2 : Int32)), .inr (6, 0, 0, i0)]) (P1 := P3) rfl ⟨trivial, trivial, trivial, trivial, trivial, trivial, trivial, trivial⟩ ?_
      refine tr_cWV (z := km_325) (av := [.inr (6, 0, 0, i0), .inl (.int (2 : Int32)), .inl (.int (P3.1 i0 2)), .inl (.int (x3 - x2))]) (st' := []) rfl rfl rfl (Nat.le_of_ble_eq_true rfl) ⟨rfl, Or.inl (by decide)⟩ rfl (Nat.le_of_ble_eq_true rfl) (t_325 i0 (2 : Int32) (P3.1 i0 2) (x3 - x2) P3) (fun P4 => ?_)
      refine tr_blk 6 (pc' := 93) (rows' := kb_336_64.drop 19) (loc' := [.inr (6, 0, 0, i0), .inl (.int x1), .inl (.int x2), .inl (.int x3), .inl (.int x4)]) (st' := []) (P1 := (ab_pI P4 i0 2 ((P4.1 i0 2) + (1 : Int32)))) rfl ⟨trivial, trivial, trivial, trivial, trivial, trivial, trivial⟩ ?_
      refine tr_lt (fun P5 => ?_)
      refine tr_blk 1 (pc' := 94) (rows' := kb_336_64.drop 20) (loc' := [.inr (6, 0, 0, i0), .inl (.int x1), .inl (.int x2), .inl (.int x3), .inl (.int x4)]) (st' := [.inl (.int (1 : Int32))]) (P1 := P5) rfl ⟨trivial, trivial⟩ ?_
      exact tr_reI (z := km_336) rfl ⟨_, rfl, rfl⟩ rfl
def f_336 (i0 : Nat) (N : Nat) (a1 : Int32) (a2 : Int32) (P : ab_P) : Option (Int32 × ab_P) :=
    Option.bind (f_231 i0 P (2 : Int32) a1) fun v1 =>
    Option.bind (f_263 i0 P a1) fun v2 =>
    if v2 = (0 : Int32) then
      some ((0 : Int32), P)
    else
    if a2 < v1 then
      if (P.1 i0 2) < (40 : Int32) then
        f_336_34 i0 N a1 a2 v1 (0 : Int32) P
      else
      some ((0 : Int32), P)
    else
    some ((0 : Int32), P)
theorem t_336 {xs : Nat × (Nat → Int32)} {d : Nat} (i0 : Nat) (N : Nat) : ∀ (a1 : Int32) (a2 : Int32) (P : ab_P), ab_tr xs wI (d + 2) 336 0 [] [.inr (6, 0, 0, i0), .inl (.int a1), .inl (.int a2), ab_top, ab_top] [] P (f_336 i0 N a1 a2 P) := by
  intro a1 a2 P
  unfold f_336
  refine tr_nil (rows2 := kb_336_0) rfl (List.cons_ne_nil _ _) ?_
  refine tr_blk 3 (pc' := 3) (rows' := kb_336_0.drop 3) (loc' := [.inr (6, 0, 0, i0), .inl (.int a1), .inl (.int a2), ab_top, ab_top]) (st' := [.inl (.int a1), .inl (.int (2 : Int32)), .inr (6, 0, 0, i0)]) (P1 := P) rfl ⟨trivial, trivial, trivial, trivial⟩ ?_
  refine tr_cRI (z := km_231) (av := [.inr (6, 0, 0, i0), .inl (.int (2 : Int32)), .inl (.int a1)]) (st' := []) rfl rfl rfl (Nat.le_of_ble_eq_true rfl) ⟨rfl, Or.inl (by decide)⟩ rfl (Nat.le_of_ble_eq_true rfl) (t_231 i0 P (2 : Int32) a1) (fun v1 => ?_)
  refine tr_blk 3 (pc' := 9) (rows' := kb_336_0.drop 7) (loc' := [.inr (6, 0, 0, i0), .inl (.int a1), .inl (.int a2), .inl (.int v1), ab_top]) (st' := [.inl (.int a1), .inr (6, 0, 0, i0)]) (P1 := P) rfl ⟨trivial, trivial, trivial, trivial⟩ ?_
  refine tr_cRI (z := km_263) (av := [.inr (6, 0, 0, i0), .inl (.int a1)]) (st' := []) rfl rfl rfl (Nat.le_of_ble_eq_true rfl) ⟨rfl, Or.inl (by decide)⟩ rfl (Nat.le_of_ble_eq_true rfl) (t_263 i0 P a1) (fun v2 => ?_)
  refine tr_if (fun h9 => ?_) (fun h9 => ?_)
  · refine tr_ifT (cd := .eq) h9 ?_
    refine tr_nil (rows2 := kb_336_29) rfl (List.cons_ne_nil _ _) ?_
    refine tr_blk 1 (pc' := 30) (rows' := kb_336_29.drop 1) (loc' := [.inr (6, 0, 0, i0), .inl (.int a1), .inl (.int a2), .inl (.int v1), ab_top]) (st' := [.inl (.int (0 : Int32))]) (P1 := P) rfl ⟨trivial, trivial⟩ ?_
    exact tr_reI (z := km_336) rfl ⟨_, rfl, rfl⟩ rfl
  · refine tr_ifF (cd := .eq) h9 ?_
    refine tr_blk 2 (pc' := 17) (rows' := kb_336_0.drop 11) (loc' := [.inr (6, 0, 0, i0), .inl (.int a1), .inl (.int a2), .inl (.int v1), ab_top]) (st' := [.inl (.int a2), .inl (.int v1)]) (P1 := P) rfl ⟨trivial, trivial, trivial⟩ ?_
    refine tr_if (fun h10 => ?_) (fun h10 => ?_)
    · refine tr_icF (cd := .le) (Int32.not_le.mpr h10) ?_
      refine tr_blk 3 (pc' := 26) (rows' := kb_336_0.drop 15) (loc' := [.inr (6, 0, 0, i0), .inl (.int a1), .inl (.int a2), .inl (.int v1), ab_top]) (st' := [.inl (.int (40 : Int32)), .inl (.int (P.1 i0 2))]) (P1 := P) rfl ⟨trivial, trivial, trivial, trivial⟩ ?_
      refine tr_if (fun h11 => ?_) (fun h11 => ?_)
      · refine tr_icT (cd := .lt) h11 ?_
        refine tr_nil (rows2 := kb_336_31) rfl (List.cons_ne_nil _ _) ?_
        refine tr_blk 2 (pc' := 34) (rows' := kb_336_31.drop 2) (loc' := [.inr (6, 0, 0, i0), .inl (.int a1), .inl (.int a2), .inl (.int v1), .inl (.int (0 : Int32))]) (st' := []) (P1 := P) rfl ⟨trivial, trivial, trivial⟩ ?_
        exact t_336_34 i0 N a1 a2 v1 (0 : Int32) P
      · refine tr_icF (cd := .lt) h11 ?_
        refine tr_nil (rows2 := kb_336_29) rfl (List.cons_ne_nil _ _) ?_
        refine tr_blk 1 (pc' := 30) (rows' := kb_336_29.drop 1) (loc' := [.inr (6, 0, 0, i0), .inl (.int a1), .inl (.int a2), .inl (.int v1), ab_top]) (st' := [.inl (.int (0 : Int32))]) (P1 := P) rfl ⟨trivial, trivial⟩ ?_
        exact tr_reI (z := km_336) rfl ⟨_, rfl, rfl⟩ rfl
    · refine tr_icT (cd := .le) (Int32.not_lt.mp h10) ?_
      refine tr_nil (rows2 := kb_336_29) rfl (List.cons_ne_nil _ _) ?_
      refine tr_blk 1 (pc' := 30) (rows' := kb_336_29.drop 1) (loc' := [.inr (6, 0, 0, i0), .inl (.int a1), .inl (.int a2), .inl (.int v1), ab_top]) (st' := [.inl (.int (0 : Int32))]) (P1 := P) rfl ⟨trivial, trivial⟩ ?_
      exact tr_reI (z := km_336) rfl ⟨_, rfl, rfl⟩ rfl
def f_337_75 (i0 : Nat) (x1 : Int32) (x2 : Int32) (s0 : Int32) (P : ab_P) : Option (Int32 × ab_P) :=
    Option.bind (f_231 i0 P (2 : Int32) x1) fun v9 =>
    Option.bind (f_231 i0 P (2 : Int32) x2) fun v10 =>
    if s0 = (0 : Int32) then
      some ((0 : Int32), P)
    else
    if (9999 : Int32) < (v9 + v10) then
      some ((0 : Int32), P)
    else
    Option.bind (f_325 i0 (2 : Int32) x1 (v9 + v10) P) fun P11 =>
    ab_b2 (f_339 i0 x2 (4 : Int32) P11) fun v13 P12 =>
    some ((1 : Int32), P12)
theorem t_337_75 {xs : Nat × (Nat → Int32)} {d : Nat} (i0 : Nat) : ∀ (x1 : Int32) (x2 : Int32) (s0 : Int32) (P : ab_P), ab_tr xs wI (d + 3) 337 75 [] [.inr (6, 0, 0, i0), .inl (.int x1), .inl (.int x2), ab_top, ab_top] [.inl (.int s0)] P (f_337_75 i0 x1 x2 s0 P) := by
  intro x1 x2 s0 P
  unfold f_337_75
  refine tr_nil (rows2 := kb_337_75) rfl (List.cons_ne_nil _ _) ?_
  refine tr_blk 4 (pc' := 79) (rows' := kb_337_75.drop 4) (loc' := [.inr (6, 0, 0, i0), .inl (.int x1), .inl (.int x2), .inl (.int s0), ab_top]) (st' := [.inl (.int x1), .inl (.int (2 : Int32)), .inr (6, 0, 0, i0)]) (P1 := P) rfl ⟨trivial, trivial, trivial, trivial, trivial⟩ ?_
  refine tr_cRI (z := km_231) (av := [.inr (6, 0, 0, i0), .inl (.int (2 : Int32)), .inl (.int x1)]) (st' := []) rfl rfl rfl (Nat.le_of_ble_eq_true rfl) ⟨rfl, Or.inl (by decide)⟩ rfl (Nat.le_of_ble_eq_true rfl) (t_231 i0 P (2 : Int32) x1) (fun v9 => ?_)
  refine tr_blk 3 (pc' := 85) (rows' := kb_337_75.drop 8) (loc' := [.inr (6, 0, 0, i0), .inl (.int x1), .inl (.int x2), .inl (.int s0), ab_top]) (st' := [.inl (.int x2), .inl (.int (2 : Int32)), .inr (6, 0, 0, i0), .inl (.int v9)]) (P1 := P) rfl ⟨trivial, trivial, trivial, trivial⟩ ?_
  refine tr_cRI (z := km_231) (av := [.inr (6, 0, 0, i0), .inl (.int (2 : Int32)), .inl (.int x2)]) (st' := [.inl (.int v9)]) rfl rfl rfl (Nat.le_of_ble_eq_true rfl) ⟨rfl, Or.inl (by decide)⟩ rfl (Nat.le_of_ble_eq_true rfl) (t_231 i0 P (2 : Int32) x2) (fun v10 => ?_)
  refine tr_blk 3 (pc' := 92) (rows' := kb_337_75.drop 12) (loc' := [.inr (6, 0, 0, i0), .inl (.int x1), .inl (.int x2), .inl (.int s0), .inl (.int (v9 + v10))]) (st' := [.inl (.int s0)]) (P1 := P) rfl ⟨trivial, trivial, trivial, trivial⟩ ?_
  refine tr_if (fun h14 => ?_) (fun h14 => ?_)
  · refine tr_ifT (cd := .eq) h14 ?_
    refine tr_nil (rows2 := kb_337_103) rfl (List.cons_ne_nil _ _) ?_
    refine tr_blk 1 (pc' := 104) (rows' := kb_337_103.drop 1) (loc' := [.inr (6, 0, 0, i0), .inl (.int x1), .inl (.int x2), .inl (.int s0), .inl (.int (v9 + v10))]) (st' := [.inl (.int (0 : Int32))]) (P1 := P) rfl ⟨trivial, trivial⟩ ?_
    exact tr_reI (z := km_337) rfl ⟨_, rfl, rfl⟩ rfl
  · refine tr_ifF (cd := .eq) h14 ?_
    refine tr_blk 2 (pc' := 100) (rows' := kb_337_75.drop 15) (loc' := [.inr (6, 0, 0, i0), .inl (.int x1), .inl (.int x2), .inl (.int s0), .inl (.int (v9 + v10))]) (st' := [.inl (.int (9999 : Int32)), .inl (.int (v9 + v10))]) (P1 := P) rfl ⟨trivial, trivial, trivial⟩ ?_
    refine tr_if (fun h15 => ?_) (fun h15 => ?_)
    · refine tr_icF (cd := .le) (Int32.not_le.mpr h15) ?_
      refine tr_nil (rows2 := kb_337_103) rfl (List.cons_ne_nil _ _) ?_
      refine tr_blk 1 (pc' := 104) (rows' := kb_337_103.drop 1) (loc' := [.inr (6, 0, 0, i0), .inl (.int x1), .inl (.int x2), .inl (.int s0), .inl (.int (v9 + v10))]) (st' := [.inl (.int (0 : Int32))]) (P1 := P) rfl ⟨trivial, trivial⟩ ?_
      exact tr_reI (z := km_337) rfl ⟨_, rfl, rfl⟩ rfl
    · refine tr_icT (cd := .le) (Int32.not_lt.mp h15) ?_
      refine tr_nil (rows2 := kb_337_105) rfl (List.cons_ne_nil _ _) ?_
      refine tr_blk 4 (pc' := 110) (rows' := kb_337_105.drop 4) (loc' := [.inr (6, 0, 0, i0), .inl (.int x1), .inl (.int x2), .inl (.int s0), .inl (.int (v9 + v10))]) (st' := [.inl (.int (v9 + v10)), .inl (.int x1), .inl (.int (2 : Int32)), .inr (6, 0, 0, i0)]) (P1 := P) rfl ⟨trivial, trivial, trivial, trivial, trivial⟩ ?_
      refine tr_cWV (z := km_325) (av := [.inr (6, 0, 0, i0), .inl (.int (2 : Int32)), .inl (.int x1), .inl (.int (v9 + v10))]) (st' := []) rfl rfl rfl (Nat.le_of_ble_eq_true rfl) ⟨rfl, Or.inl (by decide)⟩ rfl (Nat.le_of_ble_eq_true rfl) (t_325 i0 (2 : Int32) x1 (v9 + v10) P) (fun P11 => ?_)
      refine tr_blk 3 (pc' := 116) (rows' := kb_337_105.drop 8) (loc' := [.inr (6, 0, 0, i0), .inl (.int x1), .inl (.int x2), .inl (.int s0), .inl (.int (v9 + v10))]) (st' := [.inl (.int (4 : Int32)), .inl (.int x2), .inr (6, 0, 0, i0)]) (P1 := P11) rfl ⟨trivial, trivial, trivial, trivial⟩ ?_
      refine tr_cWI (z := km_339) (av := [.inr (6, 0, 0, i0), .inl (.int x2), .inl (.int (4 : Int32))]) (st' := []) rfl rfl rfl (Nat.le_of_ble_eq_true rfl) ⟨rfl, Or.inl (by decide)⟩ rfl (Nat.le_of_ble_eq_true rfl) (t_339 i0 x2 (4 : Int32) P11) (fun v13 P12 => ?_)
      refine tr_blk 2 (pc' := 121) (rows' := kb_337_105.drop 11) (loc' := [.inr (6, 0, 0, i0), .inl (.int x1), .inl (.int x2), .inl (.int s0), .inl (.int (v9 + v10))]) (st' := [.inl (.int (1 : Int32))]) (P1 := P12) rfl ⟨trivial, trivial, trivial⟩ ?_
      exact tr_reI (z := km_337) rfl ⟨_, rfl, rfl⟩ rfl
def f_337 (i0 : Nat) (a1 : Int32) (a2 : Int32) (P : ab_P) : Option (Int32 × ab_P) :=
    if a1 = a2 then
      some ((0 : Int32), P)
    else
    Option.bind (f_263 i0 P a1) fun v1 =>
    if v1 = (0 : Int32) then
      some ((0 : Int32), P)
    else
    Option.bind (f_263 i0 P a2) fun v2 =>
    if v2 = (0 : Int32) then
      some ((0 : Int32), P)
    else
    Option.bind (f_231 i0 P (0 : Int32) a1) fun v3 =>
    Option.bind (f_231 i0 P (0 : Int32) a2) fun v4 =>
    if v3 = v4 then
      Option.bind (f_231 i0 P (1 : Int32) a1) fun v5 =>
      Option.bind (f_231 i0 P (1 : Int32) a2) fun v6 =>
      if v5 = v6 then
        Option.bind (f_231 i0 P (6 : Int32) a1) fun v7 =>
        Option.bind (f_231 i0 P (6 : Int32) a2) fun v8 =>
        if v7 = v8 then
          f_337_75 i0 a1 a2 (1 : Int32) P
        else
        f_337_75 i0 a1 a2 (0 : Int32) P
      else
      f_337_75 i0 a1 a2 (0 : Int32) P
    else
    f_337_75 i0 a1 a2 (0 : Int32) P
theorem t_337 {xs : Nat × (Nat → Int32)} {d : Nat} (i0 : Nat) : ∀ (a1 : Int32) (a2 : Int32) (P : ab_P), ab_tr xs wI (d + 3) 337 0 [] [.inr (6, 0, 0, i0), .inl (.int a1), .inl (.int a2), ab_top, ab_top] [] P (f_337 i0 a1 a2 P) := by
  intro a1 a2 P
  unfold f_337
  refine tr_nil (rows2 := kb_337_0) rfl (List.cons_ne_nil _ _) ?_
  refine tr_blk 2 (pc' := 2) (rows' := kb_337_0.drop 2) (loc' := [.inr (6, 0, 0, i0), .inl (.int a1), .inl (.int a2), ab_top, ab_top]) (st' := [.inl (.int a2), .inl (.int a1)]) (P1 := P) rfl ⟨trivial, trivial, trivial⟩ ?_
  refine tr_if (fun h16 => ?_) (fun h16 => ?_)
  · refine tr_icT (cd := .eq) h16 ?_
    refine tr_nil (rows2 := kb_337_21) rfl (List.cons_ne_nil _ _) ?_
    refine tr_blk 1 (pc' := 22) (rows' := kb_337_21.drop 1) (loc' := [.inr (6, 0, 0, i0), .inl (.int a1), .inl (.int a2), ab_top, ab_top]) (st' := [.inl (.int (0 : Int32))]) (P1 := P) rfl ⟨trivial, trivial⟩ ?_
    exact tr_reI (z := km_337) rfl ⟨_, rfl, rfl⟩ rfl
  · refine tr_icF (cd := .eq) h16 ?_
    refine tr_blk 2 (pc' := 7) (rows' := kb_337_0.drop 5) (loc' := [.inr (6, 0, 0, i0), .inl (.int a1), .inl (.int a2), ab_top, ab_top]) (st' := [.inl (.int a1), .inr (6, 0, 0, i0)]) (P1 := P) rfl ⟨trivial, trivial, trivial⟩ ?_
    refine tr_cRI (z := km_263) (av := [.inr (6, 0, 0, i0), .inl (.int a1)]) (st' := []) rfl rfl rfl (Nat.le_of_ble_eq_true rfl) ⟨rfl, Or.inl (by decide)⟩ rfl (Nat.le_of_ble_eq_true rfl) (t_263 i0 P a1) (fun v1 => ?_)
    refine tr_if (fun h17 => ?_) (fun h17 => ?_)
    · refine tr_ifT (cd := .eq) h17 ?_
      refine tr_nil (rows2 := kb_337_21) rfl (List.cons_ne_nil _ _) ?_
      refine tr_blk 1 (pc' := 22) (rows' := kb_337_21.drop 1) (loc' := [.inr (6, 0, 0, i0), .inl (.int a1), .inl (.int a2), ab_top, ab_top]) (st' := [.inl (.int (0 : Int32))]) (P1 := P) rfl ⟨trivial, trivial⟩ ?_
      exact tr_reI (z := km_337) rfl ⟨_, rfl, rfl⟩ rfl
    · refine tr_ifF (cd := .eq) h17 ?_
      refine tr_blk 2 (pc' := 15) (rows' := kb_337_0.drop 9) (loc' := [.inr (6, 0, 0, i0), .inl (.int a1), .inl (.int a2), ab_top, ab_top]) (st' := [.inl (.int a2), .inr (6, 0, 0, i0)]) (P1 := P) rfl ⟨trivial, trivial, trivial⟩ ?_
      refine tr_cRI (z := km_263) (av := [.inr (6, 0, 0, i0), .inl (.int a2)]) (st' := []) rfl rfl rfl (Nat.le_of_ble_eq_true rfl) ⟨rfl, Or.inl (by decide)⟩ rfl (Nat.le_of_ble_eq_true rfl) (t_263 i0 P a2) (fun v2 => ?_)
      refine tr_if (fun h18 => ?_) (fun h18 => ?_)
      · refine tr_ifF (cd := .ne) (fun q => q h18) ?_
        refine tr_nil (rows2 := kb_337_21) rfl (List.cons_ne_nil _ _) ?_
        refine tr_blk 1 (pc' := 22) (rows' := kb_337_21.drop 1) (loc' := [.inr (6, 0, 0, i0), .inl (.int a1), .inl (.int a2), ab_top, ab_top]) (st' := [.inl (.int (0 : Int32))]) (P1 := P) rfl ⟨trivial, trivial⟩ ?_
        exact tr_reI (z := km_337) rfl ⟨_, rfl, rfl⟩ rfl
      · refine tr_ifT (cd := .ne) h18 ?_
        refine tr_nil (rows2 := kb_337_23) rfl (List.cons_ne_nil _ _) ?_
        refine tr_blk 3 (pc' := 26) (rows' := kb_337_23.drop 3) (loc' := [.inr (6, 0, 0, i0), .inl (.int a1), .inl (.int a2), ab_top, ab_top]) (st' := [.inl (.int a1), .inl (.int (0 : Int32)), .inr (6, 0, 0, i0)]) (P1 := P) rfl ⟨trivial, trivial, trivial, trivial⟩ ?_
        refine tr_cRI (z := km_231) (av := [.inr (6, 0, 0, i0), .inl (.int (0 : Int32)), .inl (.int a1)]) (st' := []) rfl rfl rfl (Nat.le_of_ble_eq_true rfl) ⟨rfl, Or.inl (by decide)⟩ rfl (Nat.le_of_ble_eq_true rfl) (t_231 i0 P (0 : Int32) a1) (fun v3 => ?_)
        refine tr_blk 3 (pc' := 32) (rows' := kb_337_23.drop 7) (loc' := [.inr (6, 0, 0, i0), .inl (.int a1), .inl (.int a2), ab_top, ab_top]) (st' := [.inl (.int a2), .inl (.int (0 : Int32)), .inr (6, 0, 0, i0), .inl (.int v3)]) (P1 := P) rfl ⟨trivial, trivial, trivial, trivial⟩ ?_
        refine tr_cRI (z := km_231) (av := [.inr (6, 0, 0, i0), .inl (.int (0 : Int32)), .inl (.int a2)]) (st' := [.inl (.int v3)]) rfl rfl rfl (Nat.le_of_ble_eq_true rfl) ⟨rfl, Or.inl (by decide)⟩ rfl (Nat.le_of_ble_eq_true rfl) (t_231 i0 P (0 : Int32) a2) (fun v4 => ?_)
        refine tr_if (fun h19 => ?_) (fun h19 => ?_)
        · refine tr_icF (cd := .ne) (fun q => q h19) ?_
          refine tr_blk 3 (pc' := 41) (rows' := kb_337_23.drop 12) (loc' := [.inr (6, 0, 0, i0), .inl (.int a1), .inl (.int a2), ab_top, ab_top]) (st' := [.inl (.int a1), .inl (.int (1 : Int32)), .inr (6, 0, 0, i0)]) (P1 := P) rfl ⟨trivial, trivial, trivial, trivial⟩ ?_
          refine tr_cRI (z := km_231) (av := [.inr (6, 0, 0, i0), .inl (.int (1 : Int32)), .inl (.int a1)]) (st' := []) rfl rfl rfl (Nat.le_of_ble_eq_true rfl) ⟨rfl, Or.inl (by decide)⟩ rfl (Nat.le_of_ble_eq_true rfl) (t_231 i0 P (1 : Int32) a1) (fun v5 => ?_)
          refine tr_blk 3 (pc' := 47) (rows' := kb_337_23.drop 16) (loc' := [.inr (6, 0, 0, i0), .inl (.int a1), .inl (.int a2), ab_top, ab_top]) (st' := [.inl (.int a2), .inl (.int (1 : Int32)), .inr (6, 0, 0, i0), .inl (.int v5)]) (P1 := P) rfl ⟨trivial, trivial, trivial, trivial⟩ ?_
          refine tr_cRI (z := km_231) (av := [.inr (6, 0, 0, i0), .inl (.int (1 : Int32)), .inl (.int a2)]) (st' := [.inl (.int v5)]) rfl rfl rfl (Nat.le_of_ble_eq_true rfl) ⟨rfl, Or.inl (by decide)⟩ rfl (Nat.le_of_ble_eq_true rfl) (t_231 i0 P (1 : Int32) a2) (fun v6 => ?_)
          refine tr_if (fun h20 => ?_) (fun h20 => ?_)
          · refine tr_icF (cd := .ne) (fun q => q h20) ?_
            refine tr_blk 3 (pc' := 57) (rows' := kb_337_23.drop 21) (loc' := [.inr (6, 0, 0, i0), .inl (.int a1), .inl (.int a2), ab_top, ab_top]) (st' := [.inl (.int a1), .inl (.int (6 : Int32)), .inr (6, 0, 0, i0)]) (P1 := P) rfl ⟨trivial, trivial, trivial, trivial⟩ ?_
            refine tr_cRI (z := km_231) (av := [.inr (6, 0, 0, i0), .inl (.int (6 : Int32)), .inl (.int a1)]) (st' := []) rfl rfl rfl (Nat.le_of_ble_eq_true rfl) ⟨rfl, Or.inl (by decide)⟩ rfl (Nat.le_of_ble_eq_true rfl) (t_231 i0 P (6 : Int32) a1) (fun v7 => ?_)
            refine tr_blk 3 (pc' := 64) (rows' := kb_337_23.drop 25) (loc' := [.inr (6, 0, 0, i0), .inl (.int a1), .inl (.int a2), ab_top, ab_top]) (st' := [.inl (.int a2), .inl (.int (6 : Int32)), .inr (6, 0, 0, i0), .inl (.int v7)]) (P1 := P) rfl ⟨trivial, trivial, trivial, trivial⟩ ?_
            refine tr_cRI (z := km_231) (av := [.inr (6, 0, 0, i0), .inl (.int (6 : Int32)), .inl (.int a2)]) (st' := [.inl (.int v7)]) rfl rfl rfl (Nat.le_of_ble_eq_true rfl) ⟨rfl, Or.inl (by decide)⟩ rfl (Nat.le_of_ble_eq_true rfl) (t_231 i0 P (6 : Int32) a2) (fun v8 => ?_)
            refine tr_if (fun h21 => ?_) (fun h21 => ?_)
            · refine tr_icF (cd := .ne) (fun q => q h21) ?_
              refine tr_blk 1 (pc' := 71) (rows' := kb_337_23.drop 28) (loc' := [.inr (6, 0, 0, i0), .inl (.int a1), .inl (.int a2), ab_top, ab_top]) (st' := [.inl (.int (1 : Int32))]) (P1 := P) rfl ⟨trivial, trivial⟩ ?_
              refine tr_goto ?_
              exact t_337_75 i0 a1 a2 (1 : Int32) P
            · refine tr_icT (cd := .ne) h21 ?_
              refine tr_nil (rows2 := kb_337_74) rfl (List.cons_ne_nil _ _) ?_
              refine tr_blk 1 (pc' := 75) (rows' := kb_337_74.drop 1) (loc' := [.inr (6, 0, 0, i0), .inl (.int a1), .inl (.int a2), ab_top, ab_top]) (st' := [.inl (.int (0 : Int32))]) (P1 := P) rfl ⟨trivial, trivial⟩ ?_
              exact t_337_75 i0 a1 a2 (0 : Int32) P
          · refine tr_icT (cd := .ne) h20 ?_
            refine tr_nil (rows2 := kb_337_74) rfl (List.cons_ne_nil _ _) ?_
            refine tr_blk 1 (pc' := 75) (rows' := kb_337_74.drop 1) (loc' := [.inr (6, 0, 0, i0), .inl (.int a1), .inl (.int a2), ab_top, ab_top]) (st' := [.inl (.int (0 : Int32))]) (P1 := P) rfl ⟨trivial, trivial⟩ ?_
            exact t_337_75 i0 a1 a2 (0 : Int32) P
        · refine tr_icT (cd := .ne) h19 ?_
          refine tr_nil (rows2 := kb_337_74) rfl (List.cons_ne_nil _ _) ?_
          refine tr_blk 1 (pc' := 75) (rows' := kb_337_74.drop 1) (loc' := [.inr (6, 0, 0, i0), .inl (.int a1), .inl (.int a2), ab_top, ab_top]) (st' := [.inl (.int (0 : Int32))]) (P1 := P) rfl ⟨trivial, trivial⟩ ?_
          exact t_337_75 i0 a1 a2 (0 : Int32) P
def f_264_11 (i0 : Nat) (P : ab_P) : Nat → Int32 → Int32 → Int32 → Int32 → Option Int32
  | 0, _, _, _, _ => none
  | n + 1, x2, x3, x4, x5 =>
    if x5 < x2 then
      if x4 < (9999 : Int32) then
        f_264_11 i0 P n x2 x3 (ab_mn (9999 : Int32) (x4 + (ab_mx (1 : Int32) ((x4 * x3) / (100 : Int32))))) (x5 + 1)
      else
      some x4
    else
    some x4
theorem t_264_11 {xs : Nat × (Nat → Int32)} {d : Nat} (i0 : Nat) (P : ab_P) : ∀ n : Nat, ∀ (x2 : Int32) (x3 : Int32) (x4 : Int32) (x5 : Int32) (d1 : Int32), ab_tr xs (rI P) (d + 1) 264 11 [] [.inr (6, 0, 0, i0), .inl (.int d1), .inl (.int x2), .inl (.int x3), .inl (.int x4), .inl (.int x5)] [] P (f_264_11 i0 P n x2 x3 x4 x5) := by
  intro n
  induction n with
  | zero => intro x2 x3 x4 x5 d1; exact tr_no
  | succ n ih =>
    intro x2 x3 x4 x5 d1
    refine tr_nil (rows2 := kb_264_11) rfl (List.cons_ne_nil _ _) ?_
    refine tr_blk 2 (pc' := 14) (rows' := kb_264_11.drop 2) (loc' := [.inr (6, 0, 0, i0), .inl (.int d1), .inl (.int x2), .inl (.int x3), .inl (.int x4), .inl (.int x5)]) (st' := [.inl (.int x2), .inl (.int x5)]) (P1 := P) rfl ⟨trivial, trivial, trivial⟩ ?_
    refine tr_if (fun h2 => ?_) (fun h2 => ?_)
    · refine tr_icF (cd := .ge) (Int32.not_le.mpr h2) ?_
      refine tr_blk 2 (pc' := 22) (rows' := kb_264_11.drop 5) (loc' := [.inr (6, 0, 0, i0), .inl (.int d1), .inl (.int x2), .inl (.int x3), .inl (.int x4), .inl (.int x5)]) (st' := [.inl (.int (9999 : Int32)), .inl (.int x4)]) (P1 := P) rfl ⟨trivial, trivial, trivial⟩ ?_
      refine tr_if (fun h3 => ?_) (fun h3 => ?_)
      · refine tr_icF (cd := .ge) (Int32.not_le.mpr h3) ?_
        refine tr_blk 13 (pc' := 50) (rows' := kb_264_11.drop 19) (loc' := [.inr (6, 0, 0, i0), .inl (.int d1), .inl (.int x2), .inl (.int x3), .inl (.int (ab_mn (9999 : Int32) (x4 + (ab_mx (1 : Int32) ((x4 * x3) / (100 : Int32)))))), .inl (.int (x5 + 1))]) (st' := []) (P1 := P) rfl ⟨trivial, trivial, trivial, trivial, trivial, trivial, trivial, (by decide), (Nat.le_of_ble_eq_true rfl), trivial, (Nat.le_of_ble_eq_true rfl), trivial, trivial, trivial⟩ ?_
        refine tr_goto ?_
        exact ih x2 x3 (ab_mn (9999 : Int32) (x4 + (ab_mx (1 : Int32) ((x4 * x3) / (100 : Int32))))) (x5 + 1) (d1)
      · refine tr_icT (cd := .ge) (Int32.not_lt.mp h3) ?_
        refine tr_nil (rows2 := kb_264_53) rfl (List.cons_ne_nil _ _) ?_
        refine tr_blk 1 (pc' := 55) (rows' := kb_264_53.drop 1) (loc' := [.inr (6, 0, 0, i0), .inl (.int d1), .inl (.int x2), .inl (.int x3), .inl (.int x4), .inl (.int x5)]) (st' := [.inl (.int x4)]) (P1 := P) rfl ⟨trivial, trivial⟩ ?_
        exact tr_reI (z := km_264) rfl ⟨_, rfl, rfl⟩ rfl
    · refine tr_icT (cd := .ge) (Int32.not_lt.mp h2) ?_
      refine tr_nil (rows2 := kb_264_53) rfl (List.cons_ne_nil _ _) ?_
      refine tr_blk 1 (pc' := 55) (rows' := kb_264_53.drop 1) (loc' := [.inr (6, 0, 0, i0), .inl (.int d1), .inl (.int x2), .inl (.int x3), .inl (.int x4), .inl (.int x5)]) (st' := [.inl (.int x4)]) (P1 := P) rfl ⟨trivial, trivial⟩ ?_
      exact tr_reI (z := km_264) rfl ⟨_, rfl, rfl⟩ rfl
def f_264 (i0 : Nat) (N : Nat) (P : ab_P) (a1 : Int32) (a2 : Int32) (a3 : Int32) : Option Int32 :=
    Option.bind (f_231 i0 P (2 : Int32) a1) fun v1 =>
    f_264_11 i0 P N a2 a3 v1 (0 : Int32)
theorem t_264 {xs : Nat × (Nat → Int32)} {d : Nat} (i0 : Nat) (N : Nat) (P : ab_P) : ∀ (a1 : Int32) (a2 : Int32) (a3 : Int32), ab_tr xs (rI P) (d + 1) 264 0 [] [.inr (6, 0, 0, i0), .inl (.int a1), .inl (.int a2), .inl (.int a3), ab_top, ab_top] [] P (f_264 i0 N P a1 a2 a3) := by
  intro a1 a2 a3
  unfold f_264
  refine tr_nil (rows2 := kb_264_0) rfl (List.cons_ne_nil _ _) ?_
  refine tr_blk 3 (pc' := 3) (rows' := kb_264_0.drop 3) (loc' := [.inr (6, 0, 0, i0), .inl (.int a1), .inl (.int a2), .inl (.int a3), ab_top, ab_top]) (st' := [.inl (.int a1), .inl (.int (2 : Int32)), .inr (6, 0, 0, i0)]) (P1 := P) rfl ⟨trivial, trivial, trivial, trivial⟩ ?_
  refine tr_cRI (z := km_231) (av := [.inr (6, 0, 0, i0), .inl (.int (2 : Int32)), .inl (.int a1)]) (st' := []) rfl rfl rfl (Nat.le_of_ble_eq_true rfl) ⟨rfl, Or.inl (by decide)⟩ rfl (Nat.le_of_ble_eq_true rfl) (t_231 i0 P (2 : Int32) a1) (fun v1 => ?_)
  refine tr_blk 3 (pc' := 11) (rows' := kb_264_0.drop 7) (loc' := [.inr (6, 0, 0, i0), .inl (.int a1), .inl (.int a2), .inl (.int a3), .inl (.int v1), .inl (.int (0 : Int32))]) (st' := []) (P1 := P) rfl ⟨trivial, trivial, trivial, trivial⟩ ?_
  exact t_264_11 i0 P N a2 a3 v1 (0 : Int32) (a1)
def f_338 (i0 : Nat) (N : Nat) (a1 : Int32) (a2 : Int32) (P : ab_P) : Option (Int32 × ab_P) :=
    Option.bind (f_263 i0 P a1) fun v1 =>
    if v1 = (0 : Int32) then
      some ((0 : Int32), P)
    else
    Option.bind (f_231 i0 P (8 : Int32) a1) fun v2 =>
    if v2 = (P.1 i0 3) then
      some ((0 : Int32), P)
    else
    Option.bind (f_264 i0 N P a1 (1 : Int32) a2) fun v3 =>
    Option.bind (f_231 i0 P (2 : Int32) a1) fun v4 =>
    ab_lt (ab_pI P (i0 + 2) 1 ((P.1 (i0 + 2) 1) + (v3 - v4))) fun P5 =>
    Option.bind (f_325 i0 (2 : Int32) a1 v3 P5) fun P6 =>
    Option.bind (f_231 i0 P6 (5 : Int32) a1) fun v7 =>
    Option.bind (f_325 i0 (5 : Int32) a1 (v7 + (1 : Int32)) P6) fun P8 =>
    Option.bind (f_325 i0 (8 : Int32) a1 (P8.1 i0 3) P8) fun P9 =>
    some ((1 : Int32), P9)
theorem t_338 {xs : Nat × (Nat → Int32)} {d : Nat} (i0 : Nat) (N : Nat) : ∀ (a1 : Int32) (a2 : Int32) (P : ab_P), ab_tr xs wI (d + 2) 338 0 [] [.inr (6, 0, 0, i0), .inl (.int a1), .inl (.int a2), ab_top] [] P (f_338 i0 N a1 a2 P) := by
  intro a1 a2 P
  unfold f_338
  refine tr_nil (rows2 := kb_338_0) rfl (List.cons_ne_nil _ _) ?_
  refine tr_blk 2 (pc' := 2) (rows' := kb_338_0.drop 2) (loc' := [.inr (6, 0, 0, i0), .inl (.int a1), .inl (.int a2), ab_top]) (st' := [.inl (.int a1), .inr (6, 0, 0, i0)]) (P1 := P) rfl ⟨trivial, trivial, trivial⟩ ?_
  refine tr_cRI (z := km_263) (av := [.inr (6, 0, 0, i0), .inl (.int a1)]) (st' := []) rfl rfl rfl (Nat.le_of_ble_eq_true rfl) ⟨rfl, Or.inl (by decide)⟩ rfl (Nat.le_of_ble_eq_true rfl) (t_263 i0 P a1) (fun v1 => ?_)
  refine tr_if (fun h10 => ?_) (fun h10 => ?_)
  · refine tr_ifT (cd := .eq) h10 ?_
    refine tr_nil (rows2 := kb_338_22) rfl (List.cons_ne_nil _ _) ?_
    refine tr_blk 1 (pc' := 23) (rows' := kb_338_22.drop 1) (loc' := [.inr (6, 0, 0, i0), .inl (.int a1), .inl (.int a2), ab_top]) (st' := [.inl (.int (0 : Int32))]) (P1 := P) rfl ⟨trivial, trivial⟩ ?_
    exact tr_reI (z := km_338) rfl ⟨_, rfl, rfl⟩ rfl
  · refine tr_ifF (cd := .eq) h10 ?_
    refine tr_blk 3 (pc' := 12) (rows' := kb_338_0.drop 7) (loc' := [.inr (6, 0, 0, i0), .inl (.int a1), .inl (.int a2), ab_top]) (st' := [.inl (.int a1), .inl (.int (8 : Int32)), .inr (6, 0, 0, i0)]) (P1 := P) rfl ⟨trivial, trivial, trivial, trivial⟩ ?_
    refine tr_cRI (z := km_231) (av := [.inr (6, 0, 0, i0), .inl (.int (8 : Int32)), .inl (.int a1)]) (st' := []) rfl rfl rfl (Nat.le_of_ble_eq_true rfl) ⟨rfl, Or.inl (by decide)⟩ rfl (Nat.le_of_ble_eq_true rfl) (t_231 i0 P (8 : Int32) a1) (fun v2 => ?_)
    refine tr_blk 2 (pc' := 19) (rows' := kb_338_0.drop 10) (loc' := [.inr (6, 0, 0, i0), .inl (.int a1), .inl (.int a2), ab_top]) (st' := [.inl (.int (P.1 i0 3)), .inl (.int v2)]) (P1 := P) rfl ⟨trivial, trivial, trivial⟩ ?_
    refine tr_if (fun h11 => ?_) (fun h11 => ?_)
    · refine tr_icF (cd := .ne) (fun q => q h11) ?_
      refine tr_nil (rows2 := kb_338_22) rfl (List.cons_ne_nil _ _) ?_
      refine tr_blk 1 (pc' := 23) (rows' := kb_338_22.drop 1) (loc' := [.inr (6, 0, 0, i0), .inl (.int a1), .inl (.int a2), ab_top]) (st' := [.inl (.int (0 : Int32))]) (P1 := P) rfl ⟨trivial, trivial⟩ ?_
      exact tr_reI (z := km_338) rfl ⟨_, rfl, rfl⟩ rfl
    · refine tr_icT (cd := .ne) h11 ?_
      refine tr_nil (rows2 := kb_338_24) rfl (List.cons_ne_nil _ _) ?_
      refine tr_blk 4 (pc' := 28) (rows' := kb_338_24.drop 4) (loc' := [.inr (6, 0, 0, i0), .inl (.int a1), .inl (.int a2), ab_top]) (st' := [.inl (.int a2), .inl (.int (1 : Int32)), .inl (.int a1), .inr (6, 0, 0, i0)]) (P1 := P) rfl ⟨trivial, trivial, trivial, trivial, trivial⟩ ?_
      refine tr_cRI (z := km_264) (av := [.inr (6, 0, 0, i0), .inl (.int a1), .inl (.int (1 : Int32)), .inl (.int a2)]) (st' := []) rfl rfl rfl (Nat.le_of_ble_eq_true rfl) ⟨rfl, Or.inl (by decide)⟩ rfl (Nat.le_of_ble_eq_true rfl) (t_264 i0 N P a1 (1 : Int32) a2) (fun v3 => ?_)
      refine tr_blk 10 (pc' := 43) (rows' := kb_338_24.drop 15) (loc' := [.inr (6, 0, 0, i0), .inl (.int a1), .inl (.int a2), .inl (.int v3)]) (st' := [.inl (.int a1), .inl (.int (2 : Int32)), .inr (6, 0, 0, i0), .inl (.int v3), .inl (.int (P.1 (i0 + 2) 1)), .inl (.int (1 : Int32)), .inr (20, 5, 0, (i0 + 2))]) (P1 := P) rfl ⟨trivial, trivial, trivial, trivial, trivial, (ab_vi (by decide)), trivial, trivial, trivial, trivial, trivial⟩ ?_
      refine tr_cRI (z := km_231) (av := [.inr (6, 0, 0, i0), .inl (.int (2 : Int32)), .inl (.int a1)]) (st' := [.inl (.int v3), .inl (.int (P.1 (i0 + 2) 1)), .inl (.int (1 : Int32)), .inr (20, 5, 0, (i0 + 2))]) rfl rfl rfl (Nat.le_of_ble_eq_true rfl) ⟨rfl, Or.inl (by decide)⟩ rfl (Nat.le_of_ble_eq_true rfl) (t_231 i0 P (2 : Int32) a1) (fun v4 => ?_)
      refine tr_blk 3 (pc' := 49) (rows' := kb_338_24.drop 19) (loc' := [.inr (6, 0, 0, i0), .inl (.int a1), .inl (.int a2), .inl (.int v3)]) (st' := []) (P1 := (ab_pI P (i0 + 2) 1 ((P.1 (i0 + 2) 1) + (v3 - v4)))) rfl ⟨trivial, trivial, (ab_vi (by decide)), trivial⟩ ?_
      refine tr_lt (fun P5 => ?_)
      refine tr_blk 4 (pc' := 53) (rows' := kb_338_24.drop 23) (loc' := [.inr (6, 0, 0, i0), .inl (.int a1), .inl (.int a2), .inl (.int v3)]) (st' := [.inl (.int v3), .inl (.int a1), .inl (.int (2 : Int32)), .inr (6, 0, 0, i0)]) (P1 := P5) rfl ⟨trivial, trivial, trivial, trivial, trivial⟩ ?_
      refine tr_cWV (z := km_325) (av := [.inr (6, 0, 0, i0), .inl (.int (2 : Int32)), .inl (.int a1), .inl (.int v3)]) (st' := []) rfl rfl rfl (Nat.le_of_ble_eq_true rfl) ⟨rfl, Or.inl (by decide)⟩ rfl (Nat.le_of_ble_eq_true rfl) (t_325 i0 (2 : Int32) a1 v3 P5) (fun P6 => ?_)
      refine tr_blk 6 (pc' := 62) (rows' := kb_338_24.drop 30) (loc' := [.inr (6, 0, 0, i0), .inl (.int a1), .inl (.int a2), .inl (.int v3)]) (st' := [.inl (.int a1), .inl (.int (5 : Int32)), .inr (6, 0, 0, i0), .inl (.int a1), .inl (.int (5 : Int32)), .inr (6, 0, 0, i0)]) (P1 := P6) rfl ⟨trivial, trivial, trivial, trivial, trivial, trivial, trivial⟩ ?_
      refine tr_cRI (z := km_231) (av := [.inr (6, 0, 0, i0), .inl (.int (5 : Int32)), .inl (.int a1)]) (st' := [.inl (.int a1), .inl (.int (5 : Int32)), .inr (6, 0, 0, i0)]) rfl rfl rfl (Nat.le_of_ble_eq_true rfl) ⟨rfl, Or.inl (by decide)⟩ rfl (Nat.le_of_ble_eq_true rfl) (t_231 i0 P6 (5 : Int32) a1) (fun v7 => ?_)
      refine tr_blk 2 (pc' := 67) (rows' := kb_338_24.drop 33) (loc' := [.inr (6, 0, 0, i0), .inl (.int a1), .inl (.int a2), .inl (.int v3)]) (st' := [.inl (.int (v7 + (1 : Int32))), .inl (.int a1), .inl (.int (5 : Int32)), .inr (6, 0, 0, i0)]) (P1 := P6) rfl ⟨trivial, trivial, trivial⟩ ?_
      refine tr_cWV (z := km_325) (av := [.inr (6, 0, 0, i0), .inl (.int (5 : Int32)), .inl (.int a1), .inl (.int (v7 + (1 : Int32)))]) (st' := []) rfl rfl rfl (Nat.le_of_ble_eq_true rfl) ⟨rfl, Or.inl (by decide)⟩ rfl (Nat.le_of_ble_eq_true rfl) (t_325 i0 (5 : Int32) a1 (v7 + (1 : Int32)) P6) (fun P8 => ?_)
      refine tr_blk 5 (pc' := 78) (rows' := kb_338_24.drop 39) (loc' := [.inr (6, 0, 0, i0), .inl (.int a1), .inl (.int a2), .inl (.int v3)]) (st' := [.inl (.int (P8.1 i0 3)), .inl (.int a1), .inl (.int (8 : Int32)), .inr (6, 0, 0, i0)]) (P1 := P8) rfl ⟨trivial, trivial, trivial, trivial, trivial, trivial⟩ ?_
      refine tr_cWV (z := km_325) (av := [.inr (6, 0, 0, i0), .inl (.int (8 : Int32)), .inl (.int a1), .inl (.int (P8.1 i0 3))]) (st' := []) rfl rfl rfl (Nat.le_of_ble_eq_true rfl) ⟨rfl, Or.inl (by decide)⟩ rfl (Nat.le_of_ble_eq_true rfl) (t_325 i0 (8 : Int32) a1 (P8.1 i0 3) P8) (fun P9 => ?_)
      refine tr_blk 1 (pc' := 82) (rows' := kb_338_24.drop 41) (loc' := [.inr (6, 0, 0, i0), .inl (.int a1), .inl (.int a2), .inl (.int v3)]) (st' := [.inl (.int (1 : Int32))]) (P1 := P9) rfl ⟨trivial, trivial⟩ ?_
      exact tr_reI (z := km_338) rfl ⟨_, rfl, rfl⟩ rfl
def f_235_5 (i0 : Nat) (P : ab_P) : Nat → Int32 → Int32 → Int32 → Int32 → Option Int32
  | 0, _, _, _, _ => none
  | n + 1, x1, x2, x3, x4 =>
    if x4 < (P.1 i0 2) then
      Option.bind (f_263 i0 P x4) fun v1 =>
      if v1 = (0 : Int32) then
        f_235_5 i0 P n x1 x2 (x3 + (0 : Int32)) (x4 + 1)
      else
      Option.bind (f_231 i0 P x1 x4) fun v2 =>
      if v2 = x2 then
        f_235_5 i0 P n x1 x2 (x3 + (1 : Int32)) (x4 + 1)
      else
      f_235_5 i0 P n x1 x2 (x3 + (0 : Int32)) (x4 + 1)
    else
    some x3
theorem t_235_5 {xs : Nat × (Nat → Int32)} {d : Nat} (i0 : Nat) (P : ab_P) : ∀ n : Nat, ∀ (x1 : Int32) (x2 : Int32) (x3 : Int32) (x4 : Int32), ab_tr xs (rI P) (d + 2) 235 5 [] [.inr (6, 0, 0, i0), .inl (.int x1), .inl (.int x2), .inl (.int x3), .inl (.int x4)] [] P (f_235_5 i0 P n x1 x2 x3 x4) := by
  intro n
  induction n with
  | zero => intro x1 x2 x3 x4; exact tr_no
  | succ n ih =>
    intro x1 x2 x3 x4
    refine tr_nil (rows2 := kb_235_5) rfl (List.cons_ne_nil _ _) ?_
    refine tr_blk 3 (pc' := 11) (rows' := kb_235_5.drop 3) (loc' := [.inr (6, 0, 0, i0), .inl (.int x1), .inl (.int x2), .inl (.int x3), .inl (.int x4)]) (st' := [.inl (.int (P.1 i0 2)), .inl (.int x4)]) (P1 := P) rfl ⟨trivial, trivial, trivial, trivial⟩ ?_
    refine tr_if (fun h3 => ?_) (fun h3 => ?_)
    · refine tr_icF (cd := .ge) (Int32.not_le.mpr h3) ?_
      refine tr_blk 3 (pc' := 18) (rows' := kb_235_5.drop 7) (loc' := [.inr (6, 0, 0, i0), .inl (.int x1), .inl (.int x2), .inl (.int x3), .inl (.int x4)]) (st' := [.inl (.int x4), .inr (6, 0, 0, i0), .inl (.int x3)]) (P1 := P) rfl ⟨trivial, trivial, trivial, trivial⟩ ?_
      refine tr_cRI (z := km_263) (av := [.inr (6, 0, 0, i0), .inl (.int x4)]) (st' := [.inl (.int x3)]) rfl rfl rfl (Nat.le_of_ble_eq_true rfl) ⟨rfl, Or.inl (by decide)⟩ rfl (Nat.le_of_ble_eq_true rfl) (t_263 i0 P x4) (fun v1 => ?_)
      refine tr_if (fun h4 => ?_) (fun h4 => ?_)
      · refine tr_ifT (cd := .eq) h4 ?_
        refine tr_nil (rows2 := kb_235_39) rfl (List.cons_ne_nil _ _) ?_
        refine tr_blk 1 (pc' := 40) (rows' := kb_235_39.drop 1) (loc' := [.inr (6, 0, 0, i0), .inl (.int x1), .inl (.int x2), .inl (.int x3), .inl (.int x4)]) (st' := [.inl (.int (0 : Int32)), .inl (.int x3)]) (P1 := P) rfl ⟨trivial, trivial⟩ ?_
        refine tr_nil (rows2 := kb_235_40) rfl (List.cons_ne_nil _ _) ?_
        refine tr_blk 3 (pc' := 45) (rows' := kb_235_40.drop 3) (loc' := [.inr (6, 0, 0, i0), .inl (.int x1), .inl (.int x2), .inl (.int (x3 + (0 : Int32))), .inl (.int (x4 + 1))]) (st' := []) (P1 := P) rfl ⟨trivial, trivial, trivial, trivial⟩ ?_
        refine tr_goto ?_
        exact ih x1 x2 (x3 + (0 : Int32)) (x4 + 1)
      · refine tr_ifF (cd := .eq) h4 ?_
        refine tr_blk 3 (pc' := 28) (rows' := kb_235_5.drop 12) (loc' := [.inr (6, 0, 0, i0), .inl (.int x1), .inl (.int x2), .inl (.int x3), .inl (.int x4)]) (st' := [.inl (.int x4), .inl (.int x1), .inr (6, 0, 0, i0), .inl (.int x3)]) (P1 := P) rfl ⟨trivial, trivial, trivial, trivial⟩ ?_
        refine tr_cRI (z := km_231) (av := [.inr (6, 0, 0, i0), .inl (.int x1), .inl (.int x4)]) (st' := [.inl (.int x3)]) rfl rfl rfl (Nat.le_of_ble_eq_true rfl) ⟨rfl, Or.inl (by decide)⟩ rfl (Nat.le_of_ble_eq_true rfl) (t_231 i0 P x1 x4) (fun v2 => ?_)
        refine tr_blk 1 (pc' := 32) (rows' := kb_235_5.drop 14) (loc' := [.inr (6, 0, 0, i0), .inl (.int x1), .inl (.int x2), .inl (.int x3), .inl (.int x4)]) (st' := [.inl (.int x2), .inl (.int v2), .inl (.int x3)]) (P1 := P) rfl ⟨trivial, trivial⟩ ?_
        refine tr_if (fun h5 => ?_) (fun h5 => ?_)
        · refine tr_icF (cd := .ne) (fun q => q h5) ?_
          refine tr_blk 1 (pc' := 36) (rows' := kb_235_5.drop 16) (loc' := [.inr (6, 0, 0, i0), .inl (.int x1), .inl (.int x2), .inl (.int x3), .inl (.int x4)]) (st' := [.inl (.int (1 : Int32)), .inl (.int x3)]) (P1 := P) rfl ⟨trivial, trivial⟩ ?_
          refine tr_goto ?_
          refine tr_nil (rows2 := kb_235_40) rfl (List.cons_ne_nil _ _) ?_
          refine tr_blk 3 (pc' := 45) (rows' := kb_235_40.drop 3) (loc' := [.inr (6, 0, 0, i0), .inl (.int x1), .inl (.int x2), .inl (.int (x3 + (1 : Int32))), .inl (.int (x4 + 1))]) (st' := []) (P1 := P) rfl ⟨trivial, trivial, trivial, trivial⟩ ?_
          refine tr_goto ?_
          exact ih x1 x2 (x3 + (1 : Int32)) (x4 + 1)
        · refine tr_icT (cd := .ne) h5 ?_
          refine tr_nil (rows2 := kb_235_39) rfl (List.cons_ne_nil _ _) ?_
          refine tr_blk 1 (pc' := 40) (rows' := kb_235_39.drop 1) (loc' := [.inr (6, 0, 0, i0), .inl (.int x1), .inl (.int x2), .inl (.int x3), .inl (.int x4)]) (st' := [.inl (.int (0 : Int32)), .inl (.int x3)]) (P1 := P) rfl ⟨trivial, trivial⟩ ?_
          refine tr_nil (rows2 := kb_235_40) rfl (List.cons_ne_nil _ _) ?_
          refine tr_blk 3 (pc' := 45) (rows' := kb_235_40.drop 3) (loc' := [.inr (6, 0, 0, i0), .inl (.int x1), .inl (.int x2), .inl (.int (x3 + (0 : Int32))), .inl (.int (x4 + 1))]) (st' := []) (P1 := P) rfl ⟨trivial, trivial, trivial, trivial⟩ ?_
          refine tr_goto ?_
          exact ih x1 x2 (x3 + (0 : Int32)) (x4 + 1)
    · refine tr_icT (cd := .ge) (Int32.not_lt.mp h3) ?_
      refine tr_nil (rows2 := kb_235_48) rfl (List.cons_ne_nil _ _) ?_
      refine tr_blk 1 (pc' := 49) (rows' := kb_235_48.drop 1) (loc' := [.inr (6, 0, 0, i0), .inl (.int x1), .inl (.int x2), .inl (.int x3), .inl (.int x4)]) (st' := [.inl (.int x3)]) (P1 := P) rfl ⟨trivial, trivial⟩ ?_
      exact tr_reI (z := km_235) rfl ⟨_, rfl, rfl⟩ rfl
def f_235 (i0 : Nat) (N : Nat) (P : ab_P) (a1 : Int32) (a2 : Int32) : Option Int32 :=
    f_235_5 i0 P N a1 a2 (0 : Int32) (0 : Int32)
theorem t_235 {xs : Nat × (Nat → Int32)} {d : Nat} (i0 : Nat) (N : Nat) (P : ab_P) : ∀ (a1 : Int32) (a2 : Int32), ab_tr xs (rI P) (d + 2) 235 0 [] [.inr (6, 0, 0, i0), .inl (.int a1), .inl (.int a2), ab_top, ab_top] [] P (f_235 i0 N P a1 a2) := by
  intro a1 a2
  unfold f_235
  refine tr_nil (rows2 := kb_235_0) rfl (List.cons_ne_nil _ _) ?_
  refine tr_blk 4 (pc' := 5) (rows' := kb_235_0.drop 4) (loc' := [.inr (6, 0, 0, i0), .inl (.int a1), .inl (.int a2), .inl (.int (0 : Int32)), .inl (.int (0 : Int32))]) (st' := []) (P1 := P) rfl ⟨trivial, trivial, trivial, trivial, trivial⟩ ?_
  exact t_235_5 i0 P N a1 a2 (0 : Int32) (0 : Int32)
def f_233 (i0 : Nat) (P : ab_P) (a1 : Int32) : Option Int32 :=
    if a1 < (0 : Int32) then
      some (0 : Int32)
    else
    if a1 < (8 : Int32) then
      if ab_gi a1 8 then
      some (P.1 (i0 + 1) a1.toNatClampNeg)
      else none
    else
    some (0 : Int32)
theorem t_233 {xs : Nat × (Nat → Int32)} {d : Nat} (i0 : Nat) (P : ab_P) : ∀ (a1 : Int32), ab_tr xs (rI P) (d + 0) 233 0 [] [.inr (10, 0, 0, i0), .inl (.int a1)] [] P (f_233 i0 P a1) := by
  intro a1
  unfold f_233
  refine tr_nil (rows2 := kb_233_0) rfl (List.cons_ne_nil _ _) ?_
  refine tr_blk 1 (pc' := 1) (rows' := kb_233_0.drop 1) (loc' := [.inr (10, 0, 0, i0), .inl (.int a1)]) (st' := [.inl (.int a1)]) (P1 := P) rfl ⟨trivial, trivial⟩ ?_
  refine tr_if (fun h2 => ?_) (fun h2 => ?_)
  · refine tr_ifT (cd := .lt) h2 ?_
    refine tr_nil (rows2 := kb_233_22) rfl (List.cons_ne_nil _ _) ?_
    refine tr_blk 1 (pc' := 23) (rows' := kb_233_22.drop 1) (loc' := [.inr (10, 0, 0, i0), .inl (.int a1)]) (st' := [.inl (.int (0 : Int32))]) (P1 := P) rfl ⟨trivial, trivial⟩ ?_
    refine tr_nil (rows2 := kb_233_23) rfl (List.cons_ne_nil _ _) ?_
    exact tr_reI (z := km_233) rfl ⟨_, rfl, rfl⟩ rfl
  · refine tr_ifF (cd := .lt) h2 ?_
    refine tr_blk 4 (pc' := 10) (rows' := kb_233_0.drop 6) (loc' := [.inr (10, 0, 0, i0), .inl (.int a1)]) (st' := [.inl (.int (8 : Int32)), .inl (.int a1)]) (P1 := P) rfl ⟨trivial, trivial, trivial, (Or.inl (by decide)), trivial⟩ ?_
    refine tr_if (fun h3 => ?_) (fun h3 => ?_)
    · refine tr_icF (cd := .ge) (Int32.not_le.mpr h3) ?_
      refine tr_gd (fun h1 => ?_)
      refine tr_blk 4 (pc' := 19) (rows' := kb_233_0.drop 11) (loc' := [.inr (10, 0, 0, i0), .inl (.int a1)]) (st' := [.inl (.int (P.1 (i0 + 1) a1.toNatClampNeg))]) (P1 := P) rfl ⟨trivial, trivial, trivial, h1, trivial⟩ ?_
      refine tr_goto ?_
      refine tr_nil (rows2 := kb_233_23) rfl (List.cons_ne_nil _ _) ?_
      exact tr_reI (z := km_233) rfl ⟨_, rfl, rfl⟩ rfl
    · refine tr_icT (cd := .ge) (Int32.not_lt.mp h3) ?_
      refine tr_nil (rows2 := kb_233_22) rfl (List.cons_ne_nil _ _) ?_
      refine tr_blk 1 (pc' := 23) (rows' := kb_233_22.drop 1) (loc' := [.inr (10, 0, 0, i0), .inl (.int a1)]) (st' := [.inl (.int (0 : Int32))]) (P1 := P) rfl ⟨trivial, trivial⟩ ?_
      refine tr_nil (rows2 := kb_233_23) rfl (List.cons_ne_nil _ _) ?_
      exact tr_reI (z := km_233) rfl ⟨_, rfl, rfl⟩ rfl
def f_342 (P : ab_P) (a0 : Int32) (a1 : Int32) (a2 : Int32) : Option Int32 :=
    if a0 = 2000 then
      some (a1 + a2)
    else
    if a0 = 2001 then
      some (a1 - a2)
    else
    if a0 = 2002 then
      some (a1 * a2)
    else
    if a0 = 2003 then
      if a2 = (0 : Int32) then
        some (0 : Int32)
      else
      if ¬ a2 = 0 then
      some (a1 / a2)
      else none
    else
    if a0 = 2004 then
      if a2 < a1 then
        some a2
      else
      some a1
    else
    if a1 < a2 then
      some a2
    else
    some a1
theorem t_342 {xs : Nat × (Nat → Int32)} {d : Nat} (P : ab_P) : ∀ (a0 : Int32) (a1 : Int32) (a2 : Int32), ab_tr xs (rI P) (d + 0) 342 0 [] [.inl (.int a0), .inl (.int a1), .inl (.int a2)] [] P (f_342 P a0 a1 a2) := by
  intro a0 a1 a2
  unfold f_342
  refine tr_nil (rows2 := kb_342_0) rfl (List.cons_ne_nil _ _) ?_
  refine tr_blk 1 (pc' := 1) (rows' := kb_342_0.drop 1) (loc' := [.inl (.int a0), .inl (.int a1), .inl (.int a2)]) (st' := [.inl (.int a0)]) (P1 := P) rfl ⟨trivial, trivial⟩ ?_
  refine tr_if (fun h2 => ?_) (fun h2 => ?_)
  · refine tr_sw (t := 36) (by rw [h2]; rfl) ?_
    refine tr_nil (rows2 := kb_342_36) rfl (List.cons_ne_nil _ _) ?_
    refine tr_blk 3 (pc' := 39) (rows' := kb_342_36.drop 3) (loc' := [.inl (.int a0), .inl (.int a1), .inl (.int a2)]) (st' := [.inl (.int (a1 + a2))]) (P1 := P) rfl ⟨trivial, trivial, trivial, trivial⟩ ?_
    exact tr_reI (z := km_342) rfl ⟨_, rfl, rfl⟩ rfl
  refine tr_if (fun h3 => ?_) (fun h3 => ?_)
  · refine tr_sw (t := 40) (by rw [h3]; rfl) ?_
    refine tr_nil (rows2 := kb_342_40) rfl (List.cons_ne_nil _ _) ?_
    refine tr_blk 3 (pc' := 43) (rows' := kb_342_40.drop 3) (loc' := [.inl (.int a0), .inl (.int a1), .inl (.int a2)]) (st' := [.inl (.int (a1 - a2))]) (P1 := P) rfl ⟨trivial, trivial, trivial, trivial⟩ ?_
    exact tr_reI (z := km_342) rfl ⟨_, rfl, rfl⟩ rfl
  refine tr_if (fun h4 => ?_) (fun h4 => ?_)
  · refine tr_sw (t := 44) (by rw [h4]; rfl) ?_
    refine tr_nil (rows2 := kb_342_44) rfl (List.cons_ne_nil _ _) ?_
    refine tr_blk 3 (pc' := 47) (rows' := kb_342_44.drop 3) (loc' := [.inl (.int a0), .inl (.int a1), .inl (.int a2)]) (st' := [.inl (.int (a1 * a2))]) (P1 := P) rfl ⟨trivial, trivial, trivial, trivial⟩ ?_
    exact tr_reI (z := km_342) rfl ⟨_, rfl, rfl⟩ rfl
  refine tr_if (fun h5 => ?_) (fun h5 => ?_)
  · refine tr_sw (t := 48) (by rw [h5]; rfl) ?_
    refine tr_nil (rows2 := kb_342_48) rfl (List.cons_ne_nil _ _) ?_
    refine tr_blk 1 (pc' := 49) (rows' := kb_342_48.drop 1) (loc' := [.inl (.int a0), .inl (.int a1), .inl (.int a2)]) (st' := [.inl (.int a2)]) (P1 := P) rfl ⟨trivial, trivial⟩ ?_
    refine tr_if (fun h6 => ?_) (fun h6 => ?_)
    · refine tr_ifF (cd := .ne) (fun q => q h6) ?_
      refine tr_blk 1 (pc' := 53) (rows' := kb_342_48.drop 3) (loc' := [.inl (.int a0), .inl (.int a1), .inl (.int a2)]) (st' := [.inl (.int (0 : Int32))]) (P1 := P) rfl ⟨trivial, trivial⟩ ?_
      refine tr_goto ?_
      refine tr_nil (rows2 := kb_342_59) rfl (List.cons_ne_nil _ _) ?_
      exact tr_reI (z := km_342) rfl ⟨_, rfl, rfl⟩ rfl
    · refine tr_ifT (cd := .ne) h6 ?_
      refine tr_nil (rows2 := kb_342_56) rfl (List.cons_ne_nil _ _) ?_
      refine tr_gd (fun h1 => ?_)
      refine tr_blk 3 (pc' := 59) (rows' := kb_342_56.drop 3) (loc' := [.inl (.int a0), .inl (.int a1), .inl (.int a2)]) (st' := [.inl (.int (a1 / a2))]) (P1 := P) rfl ⟨trivial, trivial, h1, trivial⟩ ?_
      refine tr_nil (rows2 := kb_342_59) rfl (List.cons_ne_nil _ _) ?_
      exact tr_reI (z := km_342) rfl ⟨_, rfl, rfl⟩ rfl
  refine tr_if (fun h7 => ?_) (fun h7 => ?_)
  · refine tr_sw (t := 60) (by rw [h7]; rfl) ?_
    refine tr_nil (rows2 := kb_342_60) rfl (List.cons_ne_nil _ _) ?_
    refine tr_blk 2 (pc' := 62) (rows' := kb_342_60.drop 2) (loc' := [.inl (.int a0), .inl (.int a1), .inl (.int a2)]) (st' := [.inl (.int a2), .inl (.int a1)]) (P1 := P) rfl ⟨trivial, trivial, trivial⟩ ?_
    refine tr_if (fun h8 => ?_) (fun h8 => ?_)
    · refine tr_icT (cd := .gt) h8 ?_
      refine tr_nil (rows2 := kb_342_69) rfl (List.cons_ne_nil _ _) ?_
      refine tr_blk 1 (pc' := 70) (rows' := kb_342_69.drop 1) (loc' := [.inl (.int a0), .inl (.int a1), .inl (.int a2)]) (st' := [.inl (.int a2)]) (P1 := P) rfl ⟨trivial, trivial⟩ ?_
      refine tr_nil (rows2 := kb_342_70) rfl (List.cons_ne_nil _ _) ?_
      exact tr_reI (z := km_342) rfl ⟨_, rfl, rfl⟩ rfl
    · refine tr_icF (cd := .gt) h8 ?_
      refine tr_blk 1 (pc' := 66) (rows' := kb_342_60.drop 4) (loc' := [.inl (.int a0), .inl (.int a1), .inl (.int a2)]) (st' := [.inl (.int a1)]) (P1 := P) rfl ⟨trivial, trivial⟩ ?_
      refine tr_goto ?_
      refine tr_nil (rows2 := kb_342_70) rfl (List.cons_ne_nil _ _) ?_
      exact tr_reI (z := km_342) rfl ⟨_, rfl, rfl⟩ rfl
  refine tr_sw (t := 71) (ab_swd (k := 5) (by decide) rfl ⟨ab_nei h2 (by decide), ab_nei h3 (by decide), ab_nei h4 (by decide), ab_nei h5 (by decide), ab_nei h7 (by decide), trivial⟩) ?_
  refine tr_nil (rows2 := kb_342_71) rfl (List.cons_ne_nil _ _) ?_
  refine tr_blk 2 (pc' := 73) (rows' := kb_342_71.drop 2) (loc' := [.inl (.int a0), .inl (.int a1), .inl (.int a2)]) (st' := [.inl (.int a2), .inl (.int a1)]) (P1 := P) rfl ⟨trivial, trivial, trivial⟩ ?_
  refine tr_if (fun h9 => ?_) (fun h9 => ?_)
  · refine tr_icT (cd := .lt) h9 ?_
    refine tr_nil (rows2 := kb_342_80) rfl (List.cons_ne_nil _ _) ?_
    refine tr_blk 1 (pc' := 81) (rows' := kb_342_80.drop 1) (loc' := [.inl (.int a0), .inl (.int a1), .inl (.int a2)]) (st' := [.inl (.int a2)]) (P1 := P) rfl ⟨trivial, trivial⟩ ?_
    refine tr_nil (rows2 := kb_342_81) rfl (List.cons_ne_nil _ _) ?_
    exact tr_reI (z := km_342) rfl ⟨_, rfl, rfl⟩ rfl
  · refine tr_icF (cd := .lt) h9 ?_
    refine tr_blk 1 (pc' := 77) (rows' := kb_342_71.drop 4) (loc' := [.inl (.int a0), .inl (.int a1), .inl (.int a2)]) (st' := [.inl (.int a1)]) (P1 := P) rfl ⟨trivial, trivial⟩ ?_
    refine tr_goto ?_
    refine tr_nil (rows2 := kb_342_81) rfl (List.cons_ne_nil _ _) ?_
    exact tr_reI (z := km_342) rfl ⟨_, rfl, rfl⟩ rfl
def f_297_8_87 (i0 : Nat) (i1 : Nat) (H4 : Int32 → Int32 → ab_P → Option (Int32 × ab_P)) (x2 : Int32) (x3 : Int32) (x4 : Int32) (P : ab_P) : Option (Int32 × ab_P) :=
    if x4 < (2000 : Int32) then
      H4 x2 (x3 + 1) P
    else
    if x2 < (2 : Int32) then
      H4 x2 (x3 + 1) P
    else
    if ab_gi (x2 - (2 : Int32)) 32 then
    if ab_gi (x2 - (1 : Int32)) 32 then
    Option.bind (f_342 P x4 (P.1 (i0 + 2) ((x2 - (2 : Int32))).toNatClampNeg) (P.1 (i0 + 2) ((x2 - (1 : Int32))).toNatClampNeg)) fun v11 =>
    if ab_gi (x2 - (2 : Int32)) 32 then
    ab_lt (ab_pI P (i0 + 2) ((x2 - (2 : Int32))).toNatClampNeg v11) fun P13 =>
    H4 (x2 + (-1)) (x3 + 1) P13
    else none
    else none
    else none
theorem t_297_8_87 {xs : Nat × (Nat → Int32)} {d : Nat} (i0 : Nat) (i1 : Nat) (H4 : Int32 → Int32 → ab_P → Option (Int32 × ab_P)) (hH4 : ∀ (x2 : Int32) (x3 : Int32) (d4 : ab_V) (d5 : ab_V) (P : ab_P), ab_tr xs wI (d + 1) 297 4 [] [.inr (5, 0, 0, i0), .inr (20, 8, 0, i1), .inl (.int x2), .inl (.int x3), d4, d5] [] P (H4 x2 x3 P)) : ∀ (x2 : Int32) (x3 : Int32) (x4 : Int32) (d5 : Int32) (P : ab_P), ab_tr xs wI (d + 1) 297 87 [] [.inr (5, 0, 0, i0), .inr (20, 8, 0, i1), .inl (.int x2), .inl (.int x3), .inl (.int x4), .inl (.int d5)] [] P (f_297_8_87 i0 i1 H4 x2 x3 x4 P) := by
  intro x2 x3 x4 d5 P
  unfold f_297_8_87
  refine tr_nil (rows2 := kb_297_87) rfl (List.cons_ne_nil _ _) ?_
  refine tr_blk 2 (pc' := 92) (rows' := kb_297_87.drop 2) (loc' := [.inr (5, 0, 0, i0), .inr (20, 8, 0, i1), .inl (.int x2), .inl (.int x3), .inl (.int x4), .inl (.int d5)]) (st' := [.inl (.int (2000 : Int32)), .inl (.int x4)]) (P1 := P) rfl ⟨trivial, trivial, trivial⟩ ?_
  refine tr_if (fun h14 => ?_) (fun h14 => ?_)
  · refine tr_icT (cd := .lt) h14 ?_
    refine tr_nil (rows2 := kb_297_132) rfl (List.cons_ne_nil _ _) ?_
    refine tr_blk 1 (pc' := 135) (rows' := kb_297_132.drop 1) (loc' := [.inr (5, 0, 0, i0), .inr (20, 8, 0, i1), .inl (.int x2), .inl (.int (x3 + 1)), .inl (.int x4), .inl (.int d5)]) (st' := []) (P1 := P) rfl ⟨trivial, trivial⟩ ?_
    refine tr_goto ?_
    exact hH4 x2 (x3 + 1) (.inl (.int x4)) (.inl (.int d5)) P
  · refine tr_icF (cd := .lt) h14 ?_
    refine tr_blk 2 (pc' := 97) (rows' := kb_297_87.drop 5) (loc' := [.inr (5, 0, 0, i0), .inr (20, 8, 0, i1), .inl (.int x2), .inl (.int x3), .inl (.int x4), .inl (.int d5)]) (st' := [.inl (.int (2 : Int32)), .inl (.int x2)]) (P1 := P) rfl ⟨trivial, trivial, trivial⟩ ?_
    refine tr_if (fun h15 => ?_) (fun h15 => ?_)
    · refine tr_icT (cd := .lt) h15 ?_
      refine tr_nil (rows2 := kb_297_132) rfl (List.cons_ne_nil _ _) ?_
      refine tr_blk 1 (pc' := 135) (rows' := kb_297_132.drop 1) (loc' := [.inr (5, 0, 0, i0), .inr (20, 8, 0, i1), .inl (.int x2), .inl (.int (x3 + 1)), .inl (.int x4), .inl (.int d5)]) (st' := []) (P1 := P) rfl ⟨trivial, trivial⟩ ?_
      refine tr_goto ?_
      exact hH4 x2 (x3 + 1) (.inl (.int x4)) (.inl (.int d5)) P
    · refine tr_icF (cd := .lt) h15 ?_
      refine tr_gd (fun h9 => ?_)
      refine tr_gd (fun h10 => ?_)
      refine tr_blk 18 (pc' := 125) (rows' := kb_297_87.drop 24) (loc' := [.inr (5, 0, 0, i0), .inr (20, 8, 0, i1), .inl (.int x2), .inl (.int x3), .inl (.int x4), .inl (.int d5)]) (st' := [.inl (.int (P.1 (i0 + 2) ((x2 - (1 : Int32))).toNatClampNeg)), .inl (.int (P.1 (i0 + 2) ((x2 - (2 : Int32))).toNatClampNeg)), .inl (.int x4), .inl (.int (x2 - (2 : Int32))), .inr (20, 32, 0, (i0 + 2))]) (P1 := P) rfl ⟨trivial, trivial, trivial, trivial, trivial, trivial, trivial, trivial, trivial, trivial, trivial, h9, trivial, trivial, trivial, trivial, trivial, h10, trivial⟩ ?_
      refine tr_cRI (z := km_342) (av := [.inl (.int x4), .inl (.int (P.1 (i0 + 2) ((x2 - (2 : Int32))).toNatClampNeg)), .inl (.int (P.1 (i0 + 2) ((x2 - (1 : Int32))).toNatClampNeg))]) (st' := [.inl (.int (x2 - (2 : Int32))), .inr (20, 32, 0, (i0 + 2))]) rfl rfl rfl (Nat.le_of_ble_eq_true rfl) trivial rfl (Nat.le_of_ble_eq_true rfl) (t_342 P x4 (P.1 (i0 + 2) ((x2 - (2 : Int32))).toNatClampNeg) (P.1 (i0 + 2) ((x2 - (1 : Int32))).toNatClampNeg)) (fun v11 => ?_)
      refine tr_gd (fun h12 => ?_)
      refine tr_blk 1 (pc' := 129) (rows' := kb_297_87.drop 26) (loc' := [.inr (5, 0, 0, i0), .inr (20, 8, 0, i1), .inl (.int x2), .inl (.int x3), .inl (.int x4), .inl (.int d5)]) (st' := []) (P1 := (ab_pI P (i0 + 2) ((x2 - (2 : Int32))).toNatClampNeg v11)) rfl ⟨h12, trivial⟩ ?_
      refine tr_lt (fun P13 => ?_)
      refine tr_blk 1 (pc' := 132) (rows' := kb_297_87.drop 27) (loc' := [.inr (5, 0, 0, i0), .inr (20, 8, 0, i1), .inl (.int (x2 + (-1))), .inl (.int x3), .inl (.int x4), .inl (.int d5)]) (st' := []) (P1 := P13) rfl ⟨trivial, trivial⟩ ?_
      refine tr_nil (rows2 := kb_297_132) rfl (List.cons_ne_nil _ _) ?_
      refine tr_blk 1 (pc' := 135) (rows' := kb_297_132.drop 1) (loc' := [.inr (5, 0, 0, i0), .inr (20, 8, 0, i1), .inl (.int (x2 + (-1))), .inl (.int (x3 + 1)), .inl (.int x4), .inl (.int d5)]) (st' := []) (P1 := P13) rfl ⟨trivial, trivial⟩ ?_
      refine tr_goto ?_
      exact hH4 (x2 + (-1)) (x3 + 1) (.inl (.int x4)) (.inl (.int d5)) P13
def f_297_8_4 (i0 : Nat) (i1 : Nat) : Nat → Int32 → Int32 → ab_P → Option (Int32 × ab_P)
  | 0, _, _, _ => none
  | n + 1, x2, x3, P =>
    if x3 < (P.1 i0 1) then
      if x3 < (150 : Int32) then
        if ab_gi x3 150 then
        if (P.1 (i0 + 1) x3.toNatClampNeg) < (2000 : Int32) then
          if x2 < (32 : Int32) then
            if ((P.1 (i0 + 1) x3.toNatClampNeg) - (1000 : Int32)) < (0 : Int32) then
              if ab_gi x2 32 then
              ab_lt (ab_pI P (i0 + 2) x2.toNatClampNeg (P.1 (i0 + 1) x3.toNatClampNeg)) fun P3 =>
              f_297_8_4 i0 i1 n (x2 + 1) (x3 + 1) P3
              else none
            else
            if ((P.1 (i0 + 1) x3.toNatClampNeg) - (1000 : Int32)) < (8 : Int32) then
              if ab_gi ((P.1 (i0 + 1) x3.toNatClampNeg) - (1000 : Int32)) 8 then
              if ab_gi x2 32 then
              ab_lt (ab_pI P (i0 + 2) x2.toNatClampNeg (P.1 i1 (((P.1 (i0 + 1) x3.toNatClampNeg) - (1000 : Int32))).toNatClampNeg)) fun P8 =>
              f_297_8_4 i0 i1 n (x2 + 1) (x3 + 1) P8
              else none
              else none
            else
            if ab_gi x2 32 then
            ab_lt (ab_pI P (i0 + 2) x2.toNatClampNeg (P.1 (i0 + 1) x3.toNatClampNeg)) fun P5 =>
            f_297_8_4 i0 i1 n (x2 + 1) (x3 + 1) P5
            else none
          else
          f_297_8_87 i0 i1 (fun y0 y1 y2 => f_297_8_4 i0 i1 n y0 y1 y2) x2 x3 (P.1 (i0 + 1) x3.toNatClampNeg) P
        else
        f_297_8_87 i0 i1 (fun y0 y1 y2 => f_297_8_4 i0 i1 n y0 y1 y2) x2 x3 (P.1 (i0 + 1) x3.toNatClampNeg) P
        else none
      else
      some ((ab_mx (0 : Int32) (ab_mn (99 : Int32) (P.1 (i0 + 2) 0))), P)
    else
    some ((ab_mx (0 : Int32) (ab_mn (99 : Int32) (P.1 (i0 + 2) 0))), P)
theorem t_297_8_4 {xs : Nat × (Nat → Int32)} {d : Nat} (i0 : Nat) (i1 : Nat) : ∀ n : Nat, ∀ (x2 : Int32) (x3 : Int32) (d4 : ab_V) (d5 : ab_V) (P : ab_P), ab_tr xs wI (d + 1) 297 4 [] [.inr (5, 0, 0, i0), .inr (20, 8, 0, i1), .inl (.int x2), .inl (.int x3), d4, d5] [] P (f_297_8_4 i0 i1 n x2 x3 P) := by
  intro n
  induction n with
  | zero => intro x2 x3 d4 d5 P; exact tr_no
  | succ n ih =>
    intro x2 x3 d4 d5 P
    refine tr_nil (rows2 := kb_297_4) rfl (List.cons_ne_nil _ _) ?_
    refine tr_blk 3 (pc' := 9) (rows' := kb_297_4.drop 3) (loc' := [.inr (5, 0, 0, i0), .inr (20, 8, 0, i1), .inl (.int x2), .inl (.int x3), d4, d5]) (st' := [.inl (.int (P.1 i0 1)), .inl (.int x3)]) (P1 := P) rfl ⟨trivial, trivial, trivial, trivial⟩ ?_
    refine tr_if (fun h16 => ?_) (fun h16 => ?_)
    · refine tr_icF (cd := .ge) (Int32.not_le.mpr h16) ?_
      refine tr_blk 4 (pc' := 18) (rows' := kb_297_4.drop 8) (loc' := [.inr (5, 0, 0, i0), .inr (20, 8, 0, i1), .inl (.int x2), .inl (.int x3), d4, d5]) (st' := [.inl (.int (150 : Int32)), .inl (.int x3)]) (P1 := P) rfl ⟨trivial, trivial, trivial, (Or.inl (by decide)), trivial⟩ ?_
      refine tr_if (fun h17 => ?_) (fun h17 => ?_)
      · refine tr_icF (cd := .ge) (Int32.not_le.mpr h17) ?_
        refine tr_gd (fun h1 => ?_)
        refine tr_blk 11 (pc' := 42) (rows' := kb_297_4.drop 20) (loc' := [.inr (5, 0, 0, i0), .inr (20, 8, 0, i1), .inl (.int x2), .inl (.int x3), .inl (.int (P.1 (i0 + 1) x3.toNatClampNeg)), .inl (.int ((P.1 (i0 + 1) x3.toNatClampNeg) - (1000 : Int32)))]) (st' := [.inl (.int (2000 : Int32)), .inl (.int (P.1 (i0 + 1) x3.toNatClampNeg))]) (P1 := P) rfl ⟨trivial, trivial, trivial, h1, trivial, trivial, trivial, trivial, trivial, trivial, trivial, trivial⟩ ?_
        refine tr_if (fun h18 => ?_) (fun h18 => ?_)
        · refine tr_icF (cd := .ge) (Int32.not_le.mpr h18) ?_
          refine tr_blk 4 (pc' := 51) (rows' := kb_297_4.drop 25) (loc' := [.inr (5, 0, 0, i0), .inr (20, 8, 0, i1), .inl (.int x2), .inl (.int x3), .inl (.int (P.1 (i0 + 1) x3.toNatClampNeg)), .inl (.int ((P.1 (i0 + 1) x3.toNatClampNeg) - (1000 : Int32)))]) (st' := [.inl (.int (32 : Int32)), .inl (.int x2)]) (P1 := P) rfl ⟨trivial, trivial, trivial, (Or.inl (by decide)), trivial⟩ ?_
          refine tr_if (fun h19 => ?_) (fun h19 => ?_)
          · refine tr_icF (cd := .ge) (Int32.not_le.mpr h19) ?_
            refine tr_blk 4 (pc' := 61) (rows' := kb_297_4.drop 30) (loc' := [.inr (5, 0, 0, i0), .inr (20, 8, 0, i1), .inl (.int x2), .inl (.int x3), .inl (.int (P.1 (i0 + 1) x3.toNatClampNeg)), .inl (.int ((P.1 (i0 + 1) x3.toNatClampNeg) - (1000 : Int32)))]) (st' := [.inl (.int ((P.1 (i0 + 1) x3.toNatClampNeg) - (1000 : Int32))), .inl (.int x2), .inr (20, 32, 0, (i0 + 2))]) (P1 := P) rfl ⟨trivial, trivial, trivial, trivial, trivial⟩ ?_
            refine tr_if (fun h20 => ?_) (fun h20 => ?_)
            · refine tr_ifT (cd := .lt) h20 ?_
              refine tr_nil (rows2 := kb_297_78) rfl (List.cons_ne_nil _ _) ?_
              refine tr_blk 1 (pc' := 80) (rows' := kb_297_78.drop 1) (loc' := [.inr (5, 0, 0, i0), .inr (20, 8, 0, i1), .inl (.int x2), .inl (.int x3), .inl (.int (P.1 (i0 + 1) x3.toNatClampNeg)), .inl (.int ((P.1 (i0 + 1) x3.toNatClampNeg) - (1000 : Int32)))]) (st' := [.inl (.int (P.1 (i0 + 1) x3.toNatClampNeg)), .inl (.int x2), .inr (20, 32, 0, (i0 + 2))]) (P1 := P) rfl ⟨trivial, trivial⟩ ?_
              refine tr_nil (rows2 := kb_297_80) rfl (List.cons_ne_nil _ _) ?_
              refine tr_gd (fun h2 => ?_)
              refine tr_blk 1 (pc' := 81) (rows' := kb_297_80.drop 1) (loc' := [.inr (5, 0, 0, i0), .inr (20, 8, 0, i1), .inl (.int x2), .inl (.int x3), .inl (.int (P.1 (i0 + 1) x3.toNatClampNeg)), .inl (.int ((P.1 (i0 + 1) x3.toNatClampNeg) - (1000 : Int32)))]) (st' := []) (P1 := (ab_pI P (i0 + 2) x2.toNatClampNeg (P.1 (i0 + 1) x3.toNatClampNeg))) rfl ⟨h2, trivial⟩ ?_
              refine tr_lt (fun P3 => ?_)
              refine tr_blk 1 (pc' := 84) (rows' := kb_297_80.drop 2) (loc' := [.inr (5, 0, 0, i0), .inr (20, 8, 0, i1), .inl (.int (x2 + 1)), .inl (.int x3), .inl (.int (P.1 (i0 + 1) x3.toNatClampNeg)), .inl (.int ((P.1 (i0 + 1) x3.toNatClampNeg) - (1000 : Int32)))]) (st' := []) (P1 := P3) rfl ⟨trivial, trivial⟩ ?_
              refine tr_goto ?_
              refine tr_nil (rows2 := kb_297_132) rfl (List.cons_ne_nil _ _) ?_
              refine tr_blk 1 (pc' := 135) (rows' := kb_297_132.drop 1) (loc' := [.inr (5, 0, 0, i0), .inr (20, 8, 0, i1), .inl (.int (x2 + 1)), .inl (.int (x3 + 1)), .inl (.int (P.1 (i0 + 1) x3.toNatClampNeg)), .inl (.int ((P.1 (i0 + 1) x3.toNatClampNeg) - (1000 : Int32)))]) (st' := []) (P1 := P3) rfl ⟨trivial, trivial⟩ ?_
              refine tr_goto ?_
              exact ih (x2 + 1) (x3 + 1) (.inl (.int (P.1 (i0 + 1) x3.toNatClampNeg))) (.inl (.int ((P.1 (i0 + 1) x3.toNatClampNeg) - (1000 : Int32)))) P3
            · refine tr_ifF (cd := .lt) h20 ?_
              refine tr_blk 3 (pc' := 68) (rows' := kb_297_4.drop 34) (loc' := [.inr (5, 0, 0, i0), .inr (20, 8, 0, i1), .inl (.int x2), .inl (.int x3), .inl (.int (P.1 (i0 + 1) x3.toNatClampNeg)), .inl (.int ((P.1 (i0 + 1) x3.toNatClampNeg) - (1000 : Int32)))]) (st' := [.inl (.int (8 : Int32)), .inl (.int ((P.1 (i0 + 1) x3.toNatClampNeg) - (1000 : Int32))), .inl (.int x2), .inr (20, 32, 0, (i0 + 2))]) (P1 := P) rfl ⟨trivial, trivial, (Or.inl (by decide)), trivial⟩ ?_
              refine tr_if (fun h21 => ?_) (fun h21 => ?_)
              · refine tr_icF (cd := .ge) (Int32.not_le.mpr h21) ?_
                refine tr_gd (fun h6 => ?_)
                refine tr_blk 3 (pc' := 75) (rows' := kb_297_4.drop 38) (loc' := [.inr (5, 0, 0, i0), .inr (20, 8, 0, i1), .inl (.int x2), .inl (.int x3), .inl (.int (P.1 (i0 + 1) x3.toNatClampNeg)), .inl (.int ((P.1 (i0 + 1) x3.toNatClampNeg) - (1000 : Int32)))]) (st' := [.inl (.int (P.1 i1 (((P.1 (i0 + 1) x3.toNatClampNeg) - (1000 : Int32))).toNatClampNeg)), .inl (.int x2), .inr (20, 32, 0, (i0 + 2))]) (P1 := P) rfl ⟨trivial, trivial, h6, trivial⟩ ?_
                refine tr_goto ?_
                refine tr_nil (rows2 := kb_297_80) rfl (List.cons_ne_nil _ _) ?_
                refine tr_gd (fun h7 => ?_)
                refine tr_blk 1 (pc' := 81) (rows' := kb_297_80.drop 1) (loc' := [.inr (5, 0, 0, i0), .inr (20, 8, 0, i1), .inl (.int x2), .inl (.int x3), .inl (.int (P.1 (i0 + 1) x3.toNatClampNeg)), .inl (.int ((P.1 (i0 + 1) x3.toNatClampNeg) - (1000 : Int32)))]) (st' := []) (P1 := (ab_pI P (i0 + 2) x2.toNatClampNeg (P.1 i1 (((P.1 (i0 + 1) x3.toNatClampNeg) - (1000 : Int32))).toNatClampNeg))) rfl ⟨h7, trivial⟩ ?_
                refine tr_lt (fun P8 => ?_)
                refine tr_blk 1 (pc' := 84) (rows' := kb_297_80.drop 2) (loc' := [.inr (5, 0, 0, i0), .inr (20, 8, 0, i1), .inl (.int (x2 + 1)), .inl (.int x3), .inl (.int (P.1 (i0 + 1) x3.toNatClampNeg)), .inl (.int ((P.1 (i0 + 1) x3.toNatClampNeg) - (1000 : Int32)))]) (st' := []) (P1 := P8) rfl ⟨trivial, trivial⟩ ?_
                refine tr_goto ?_
                refine tr_nil (rows2 := kb_297_132) rfl (List.cons_ne_nil _ _) ?_
                refine tr_blk 1 (pc' := 135) (rows' := kb_297_132.drop 1) (loc' := [.inr (5, 0, 0, i0), .inr (20, 8, 0, i1), .inl (.int (x2 + 1)), .inl (.int (x3 + 1)), .inl (.int (P.1 (i0 + 1) x3.toNatClampNeg)), .inl (.int ((P.1 (i0 + 1) x3.toNatClampNeg) - (1000 : Int32)))]) (st' := []) (P1 := P8) rfl ⟨trivial, trivial⟩ ?_
                refine tr_goto ?_
                exact ih (x2 + 1) (x3 + 1) (.inl (.int (P.1 (i0 + 1) x3.toNatClampNeg))) (.inl (.int ((P.1 (i0 + 1) x3.toNatClampNeg) - (1000 : Int32)))) P8
              · refine tr_icT (cd := .ge) (Int32.not_lt.mp h21) ?_
                refine tr_nil (rows2 := kb_297_78) rfl (List.cons_ne_nil _ _) ?_
                refine tr_blk 1 (pc' := 80) (rows' := kb_297_78.drop 1) (loc' := [.inr (5, 0, 0, i0), .inr (20, 8, 0, i1), .inl (.int x2), .inl (.int x3), .inl (.int (P.1 (i0 + 1) x3.toNatClampNeg)), .inl (.int ((P.1 (i0 + 1) x3.toNatClampNeg) - (1000 : Int32)))]) (st' := [.inl (.int (P.1 (i0 + 1) x3.toNatClampNeg)), .inl (.int x2), .inr (20, 32, 0, (i0 + 2))]) (P1 := P) rfl ⟨trivial, trivial⟩ ?_
                refine tr_nil (rows2 := kb_297_80) rfl (List.cons_ne_nil _ _) ?_
                refine tr_gd (fun h4 => ?_)
                refine tr_blk 1 (pc' := 81) (rows' := kb_297_80.drop 1) (loc' := [.inr (5, 0, 0, i0), .inr (20, 8, 0, i1), .inl (.int x2), .inl (.int x3), .inl (.int (P.1 (i0 + 1) x3.toNatClampNeg)), .inl (.int ((P.1 (i0 + 1) x3.toNatClampNeg) - (1000 : Int32)))]) (st' := []) (P1 := (ab_pI P (i0 + 2) x2.toNatClampNeg (P.1 (i0 + 1) x3.toNatClampNeg))) rfl ⟨h4, trivial⟩ ?_
                refine tr_lt (fun P5 => ?_)
                refine tr_blk 1 (pc' := 84) (rows' := kb_297_80.drop 2) (loc' := [.inr (5, 0, 0, i0), .inr (20, 8, 0, i1), .inl (.int (x2 + 1)), .inl (.int x3), .inl (.int (P.1 (i0 + 1) x3.toNatClampNeg)), .inl (.int ((P.1 (i0 + 1) x3.toNatClampNeg) - (1000 : Int32)))]) (st' := []) (P1 := P5) rfl ⟨trivial, trivial⟩ ?_
                refine tr_goto ?_
                refine tr_nil (rows2 := kb_297_132) rfl (List.cons_ne_nil _ _) ?_
                refine tr_blk 1 (pc' := 135) (rows' := kb_297_132.drop 1) (loc' := [.inr (5, 0, 0, i0), .inr (20, 8, 0, i1), .inl (.int (x2 + 1)), .inl (.int (x3 + 1)), .inl (.int (P.1 (i0 + 1) x3.toNatClampNeg)), .inl (.int ((P.1 (i0 + 1) x3.toNatClampNeg) - (1000 : Int32)))]) (st' := []) (P1 := P5) rfl ⟨trivial, trivial⟩ ?_
                refine tr_goto ?_
                exact ih (x2 + 1) (x3 + 1) (.inl (.int (P.1 (i0 + 1) x3.toNatClampNeg))) (.inl (.int ((P.1 (i0 + 1) x3.toNatClampNeg) - (1000 : Int32)))) P5
          · refine tr_icT (cd := .ge) (Int32.not_lt.mp h19) ?_
            exact t_297_8_87 i0 i1 _ ih x2 x3 (P.1 (i0 + 1) x3.toNatClampNeg) (((P.1 (i0 + 1) x3.toNatClampNeg) - (1000 : Int32))) P
        · refine tr_icT (cd := .ge) (Int32.not_lt.mp h18) ?_
          exact t_297_8_87 i0 i1 _ ih x2 x3 (P.1 (i0 + 1) x3.toNatClampNeg) (((P.1 (i0 + 1) x3.toNatClampNeg) - (1000 : Int32))) P
      · refine tr_icT (cd := .ge) (Int32.not_lt.mp h17) ?_
        refine tr_nil (rows2 := kb_297_138) rfl (List.cons_ne_nil _ _) ?_
        refine tr_blk 8 (pc' := 153) (rows' := kb_297_138.drop 8) (loc' := [.inr (5, 0, 0, i0), .inr (20, 8, 0, i1), .inl (.int x2), .inl (.int x3), d4, d5]) (st' := [.inl (.int (ab_mx (0 : Int32) (ab_mn (99 : Int32) (P.1 (i0 + 2) 0))))]) (P1 := P) rfl ⟨trivial, trivial, trivial, trivial, trivial, (ab_vi (by decide)), (Nat.le_of_ble_eq_true rfl), (Nat.le_of_ble_eq_true rfl), trivial⟩ ?_
        exact tr_reI (z := km_297) rfl ⟨_, rfl, rfl⟩ rfl
    · refine tr_icT (cd := .ge) (Int32.not_lt.mp h16) ?_
      refine tr_nil (rows2 := kb_297_138) rfl (List.cons_ne_nil _ _) ?_
      refine tr_blk 8 (pc' := 153) (rows' := kb_297_138.drop 8) (loc' := [.inr (5, 0, 0, i0), .inr (20, 8, 0, i1), .inl (.int x2), .inl (.int x3), d4, d5]) (st' := [.inl (.int (ab_mx (0 : Int32) (ab_mn (99 : Int32) (P.1 (i0 + 2) 0))))]) (P1 := P) rfl ⟨trivial, trivial, trivial, trivial, trivial, (ab_vi (by decide)), (Nat.le_of_ble_eq_true rfl), (Nat.le_of_ble_eq_true rfl), trivial⟩ ?_
      exact tr_reI (z := km_297) rfl ⟨_, rfl, rfl⟩ rfl
def f_297_8 (i0 : Nat) (i1 : Nat) (N : Nat) (P : ab_P) : Option (Int32 × ab_P) :=
    f_297_8_4 i0 i1 N (0 : Int32) (0 : Int32) P
theorem t_297_8 {xs : Nat × (Nat → Int32)} {d : Nat} (i0 : Nat) (i1 : Nat) (N : Nat) : ∀ (P : ab_P), ab_tr xs wI (d + 1) 297 0 [] [.inr (5, 0, 0, i0), .inr (20, 8, 0, i1), ab_top, ab_top, ab_top, ab_top] [] P (f_297_8 i0 i1 N P) := by
  intro P
  unfold f_297_8
  refine tr_nil (rows2 := kb_297_0) rfl (List.cons_ne_nil _ _) ?_
  refine tr_blk 4 (pc' := 4) (rows' := kb_297_0.drop 4) (loc' := [.inr (5, 0, 0, i0), .inr (20, 8, 0, i1), .inl (.int (0 : Int32)), .inl (.int (0 : Int32)), ab_top, ab_top]) (st' := []) (P1 := P) rfl ⟨trivial, trivial, trivial, trivial, trivial⟩ ?_
  exact t_297_8_4 i0 i1 N (0 : Int32) (0 : Int32) (ab_top) (ab_top) P
def f_296 (N : Nat) (a1 : Int32) (a2 : Int32) (P : ab_P) : Option (Int32 × ab_P) :=
    Option.bind (f_231 43 P (2 : Int32) a1) fun v1 =>
    ab_lt (ab_pI P 47 0 v1) fun P2 =>
    Option.bind (f_231 43 P2 (3 : Int32) a1) fun v3 =>
    ab_lt (ab_pI P2 47 1 ((P2.1 43 3) - v3)) fun P4 =>
    Option.bind (f_231 43 P4 (0 : Int32) a1) fun v5 =>
    Option.bind (f_233 3 P4 v5) fun v6 =>
    ab_lt (ab_pI P4 47 2 v6) fun P7 =>
    Option.bind (f_231 43 P7 (1 : Int32) a1) fun v8 =>
    Option.bind (f_233 3 P7 v8) fun v9 =>
    ab_lt (ab_pI P7 47 3 v9) fun P10 =>
    Option.bind (f_231 43 P10 (4 : Int32) a1) fun v11 =>
    ab_lt (ab_pI P10 47 4 v11) fun P12 =>
    Option.bind (f_231 43 P12 (5 : Int32) a1) fun v13 =>
    ab_lt (ab_pI P12 47 5 v13) fun P14 =>
    ab_lt (ab_pI P14 47 6 (P14.1 43 3)) fun P15 =>
    ab_lt (ab_pI P15 47 7 a2) fun P16 =>
    ab_b2 (f_297_8 15 47 N P16) fun v18 P17 =>
    some (v18, P17)
theorem t_296 {xs : Nat × (Nat → Int32)} {d : Nat} (N : Nat) : ∀ (a1 : Int32) (a2 : Int32) (P : ab_P), ab_tr xs wI (d + 2) 296 0 [] [.inr (4, 0, 0, 46), .inl (.int a1), .inl (.int a2)] [] P (f_296 N a1 a2 P) := by
  intro a1 a2 P
  unfold f_296
  refine tr_nil (rows2 := kb_296_0) rfl (List.cons_ne_nil _ _) ?_
  refine tr_blk 7 (pc' := 11) (rows' := kb_296_0.drop 7) (loc' := [.inr (4, 0, 0, 46), .inl (.int a1), .inl (.int a2)]) (st' := [.inl (.int a1), .inl (.int (2 : Int32)), .inr (6, 0, 0, 43), .inl (.int (0 : Int32)), .inr (20, 8, 0, 47)]) (P1 := P) rfl ⟨trivial, trivial, trivial, trivial, trivial, trivial, trivial, trivial⟩ ?_
  refine tr_cRI (z := km_231) (av := [.inr (6, 0, 0, 43), .inl (.int (2 : Int32)), .inl (.int a1)]) (st' := [.inl (.int (0 : Int32)), .inr (20, 8, 0, 47)]) rfl rfl rfl (Nat.le_of_ble_eq_true rfl) ⟨rfl, Or.inl (by decide)⟩ rfl (Nat.le_of_ble_eq_true rfl) (t_231 43 P (2 : Int32) a1) (fun v1 => ?_)
  refine tr_blk 1 (pc' := 15) (rows' := kb_296_0.drop 9) (loc' := [.inr (4, 0, 0, 46), .inl (.int a1), .inl (.int a2)]) (st' := []) (P1 := (ab_pI P 47 0 v1)) rfl ⟨(ab_vi (by decide)), trivial⟩ ?_
  refine tr_lt (fun P2 => ?_)
  refine tr_blk 10 (pc' := 33) (rows' := kb_296_0.drop 19) (loc' := [.inr (4, 0, 0, 46), .inl (.int a1), .inl (.int a2)]) (st' := [.inl (.int a1), .inl (.int (3 : Int32)), .inr (6, 0, 0, 43), .inl (.int (P2.1 43 3)), .inl (.int (1 : Int32)), .inr (20, 8, 0, 47)]) (P1 := P2) rfl ⟨trivial, trivial, trivial, trivial, trivial, trivial, trivial, trivial, trivial, trivial, trivial⟩ ?_
  refine tr_cRI (z := km_231) (av := [.inr (6, 0, 0, 43), .inl (.int (3 : Int32)), .inl (.int a1)]) (st' := [.inl (.int (P2.1 43 3)), .inl (.int (1 : Int32)), .inr (20, 8, 0, 47)]) rfl rfl rfl (Nat.le_of_ble_eq_true rfl) ⟨rfl, Or.inl (by decide)⟩ rfl (Nat.le_of_ble_eq_true rfl) (t_231 43 P2 (3 : Int32) a1) (fun v3 => ?_)
  refine tr_blk 2 (pc' := 38) (rows' := kb_296_0.drop 22) (loc' := [.inr (4, 0, 0, 46), .inl (.int a1), .inl (.int a2)]) (st' := []) (P1 := (ab_pI P2 47 1 ((P2.1 43 3) - v3))) rfl ⟨trivial, (ab_vi (by decide)), trivial⟩ ?_
  refine tr_lt (fun P4 => ?_)
  refine tr_blk 9 (pc' := 53) (rows' := kb_296_0.drop 31) (loc' := [.inr (4, 0, 0, 46), .inl (.int a1), .inl (.int a2)]) (st' := [.inl (.int a1), .inl (.int (0 : Int32)), .inr (6, 0, 0, 43), .inr (10, 0, 0, 3), .inl (.int (2 : Int32)), .inr (20, 8, 0, 47)]) (P1 := P4) rfl ⟨trivial, trivial, trivial, trivial, trivial, trivial, trivial, trivial, trivial, trivial⟩ ?_
  refine tr_cRI (z := km_231) (av := [.inr (6, 0, 0, 43), .inl (.int (0 : Int32)), .inl (.int a1)]) (st' := [.inr (10, 0, 0, 3), .inl (.int (2 : Int32)), .inr (20, 8, 0, 47)]) rfl rfl rfl (Nat.le_of_ble_eq_true rfl) ⟨rfl, Or.inl (by decide)⟩ rfl (Nat.le_of_ble_eq_true rfl) (t_231 43 P4 (0 : Int32) a1) (fun v5 => ?_)
  refine tr_cRI (z := km_233) (av := [.inr (10, 0, 0, 3), .inl (.int v5)]) (st' := [.inl (.int (2 : Int32)), .inr (20, 8, 0, 47)]) rfl rfl rfl (Nat.le_of_ble_eq_true rfl) ⟨rfl, Or.inl (by decide)⟩ rfl (Nat.le_of_ble_eq_true rfl) (t_233 3 P4 v5) (fun v6 => ?_)
  refine tr_blk 1 (pc' := 60) (rows' := kb_296_0.drop 34) (loc' := [.inr (4, 0, 0, 46), .inl (.int a1), .inl (.int a2)]) (st' := []) (P1 := (ab_pI P4 47 2 v6)) rfl ⟨(ab_vi (by decide)), trivial⟩ ?_
  refine tr_lt (fun P7 => ?_)
  refine tr_blk 9 (pc' := 75) (rows' := kb_296_0.drop 43) (loc' := [.inr (4, 0, 0, 46), .inl (.int a1), .inl (.int a2)]) (st' := [.inl (.int a1), .inl (.int (1 : Int32)), .inr (6, 0, 0, 43), .inr (10, 0, 0, 3), .inl (.int (3 : Int32)), .inr (20, 8, 0, 47)]) (P1 := P7) rfl ⟨trivial, trivial, trivial, trivial, trivial, trivial, trivial, trivial, trivial, trivial⟩ ?_
  refine tr_cRI (z := km_231) (av := [.inr (6, 0, 0, 43), .inl (.int (1 : Int32)), .inl (.int a1)]) (st' := [.inr (10, 0, 0, 3), .inl (.int (3 : Int32)), .inr (20, 8, 0, 47)]) rfl rfl rfl (Nat.le_of_ble_eq_true rfl) ⟨rfl, Or.inl (by decide)⟩ rfl (Nat.le_of_ble_eq_true rfl) (t_231 43 P7 (1 : Int32) a1) (fun v8 => ?_)
  refine tr_cRI (z := km_233) (av := [.inr (10, 0, 0, 3), .inl (.int v8)]) (st' := [.inl (.int (3 : Int32)), .inr (20, 8, 0, 47)]) rfl rfl rfl (Nat.le_of_ble_eq_true rfl) ⟨rfl, Or.inl (by decide)⟩ rfl (Nat.le_of_ble_eq_true rfl) (t_233 3 P7 v8) (fun v9 => ?_)
  refine tr_blk 1 (pc' := 82) (rows' := kb_296_0.drop 46) (loc' := [.inr (4, 0, 0, 46), .inl (.int a1), .inl (.int a2)]) (st' := []) (P1 := (ab_pI P7 47 3 v9)) rfl ⟨(ab_vi (by decide)), trivial⟩ ?_
  refine tr_lt (fun P10 => ?_)
  refine tr_blk 7 (pc' := 93) (rows' := kb_296_0.drop 53) (loc' := [.inr (4, 0, 0, 46), .inl (.int a1), .inl (.int a2)]) (st' := [.inl (.int a1), .inl (.int (4 : Int32)), .inr (6, 0, 0, 43), .inl (.int (4 : Int32)), .inr (20, 8, 0, 47)]) (P1 := P10) rfl ⟨trivial, trivial, trivial, trivial, trivial, trivial, trivial, trivial⟩ ?_
  refine tr_cRI (z := km_231) (av := [.inr (6, 0, 0, 43), .inl (.int (4 : Int32)), .inl (.int a1)]) (st' := [.inl (.int (4 : Int32)), .inr (20, 8, 0, 47)]) rfl rfl rfl (Nat.le_of_ble_eq_true rfl) ⟨rfl, Or.inl (by decide)⟩ rfl (Nat.le_of_ble_eq_true rfl) (t_231 43 P10 (4 : Int32) a1) (fun v11 => ?_)
  refine tr_blk 1 (pc' := 97) (rows' := kb_296_0.drop 55) (loc' := [.inr (4, 0, 0, 46), .inl (.int a1), .inl (.int a2)]) (st' := []) (P1 := (ab_pI P10 47 4 v11)) rfl ⟨(ab_vi (by decide)), trivial⟩ ?_
  refine tr_lt (fun P12 => ?_)
  refine tr_blk 7 (pc' := 108) (rows' := kb_296_0.drop 62) (loc' := [.inr (4, 0, 0, 46), .inl (.int a1), .inl (.int a2)]) (st' := [.inl (.int a1), .inl (.int (5 : Int32)), .inr (6, 0, 0, 43), .inl (.int (5 : Int32)), .inr (20, 8, 0, 47)]) (P1 := P12) rfl ⟨trivial, trivial, trivial, trivial, trivial, trivial, trivial, trivial⟩ ?_
  refine tr_cRI (z := km_231) (av := [.inr (6, 0, 0, 43), .inl (.int (5 : Int32)), .inl (.int a1)]) (st' := [.inl (.int (5 : Int32)), .inr (20, 8, 0, 47)]) rfl rfl rfl (Nat.le_of_ble_eq_true rfl) ⟨rfl, Or.inl (by decide)⟩ rfl (Nat.le_of_ble_eq_true rfl) (t_231 43 P12 (5 : Int32) a1) (fun v13 => ?_)
  refine tr_blk 1 (pc' := 112) (rows' := kb_296_0.drop 64) (loc' := [.inr (4, 0, 0, 46), .inl (.int a1), .inl (.int a2)]) (st' := []) (P1 := (ab_pI P12 47 5 v13)) rfl ⟨(ab_vi (by decide)), trivial⟩ ?_
  refine tr_lt (fun P14 => ?_)
  refine tr_blk 7 (pc' := 126) (rows' := kb_296_0.drop 71) (loc' := [.inr (4, 0, 0, 46), .inl (.int a1), .inl (.int a2)]) (st' := []) (P1 := (ab_pI P14 47 6 (P14.1 43 3))) rfl ⟨trivial, trivial, trivial, trivial, trivial, trivial, (ab_vi (by decide)), trivial⟩ ?_
  refine tr_lt (fun P15 => ?_)
  refine tr_blk 5 (pc' := 134) (rows' := kb_296_0.drop 76) (loc' := [.inr (4, 0, 0, 46), .inl (.int a1), .inl (.int a2)]) (st' := []) (P1 := (ab_pI P15 47 7 a2)) rfl ⟨trivial, trivial, trivial, trivial, (ab_vi (by decide)), trivial⟩ ?_
  refine tr_lt (fun P16 => ?_)
  refine tr_blk 4 (pc' := 142) (rows' := kb_296_0.drop 80) (loc' := [.inr (4, 0, 0, 46), .inl (.int a1), .inl (.int a2)]) (st' := [.inr (20, 8, 0, 47), .inr (5, 0, 0, 15)]) (P1 := P16) rfl ⟨trivial, trivial, trivial, trivial, trivial⟩ ?_
  refine tr_cWI (z := km_297) (av := [.inr (5, 0, 0, 15), .inr (20, 8, 0, 47)]) (st' := []) rfl rfl rfl (Nat.le_of_ble_eq_true rfl) ⟨rfl, Or.inl (by decide)⟩ rfl (Nat.le_of_ble_eq_true rfl) (t_297_8 15 47 N P16) (fun v18 P17 => ?_)
  exact tr_reI (z := km_296) rfl ⟨_, rfl, rfl⟩ rfl
def f_239 (N : Nat) (a1 : Int32) (P : ab_P) : Option (Int32 × ab_P) :=
    Option.bind (f_231 43 P (1 : Int32) a1) fun v1 =>
    Option.bind (f_235 43 N P (1 : Int32) v1) fun v2 =>
    ab_b2 (f_296 N a1 v2 P) fun v4 P3 =>
    some (v4, P3)
theorem t_239 {xs : Nat × (Nat → Int32)} {d : Nat} (N : Nat) : ∀ (a1 : Int32) (P : ab_P), ab_tr xs wI (d + 3) 239 0 [] [.inr (4, 0, 0, 46), .inl (.int a1)] [] P (f_239 N a1 P) := by
  intro a1 P
  unfold f_239
  refine tr_nil (rows2 := kb_239_0) rfl (List.cons_ne_nil _ _) ?_
  refine tr_blk 9 (pc' := 13) (rows' := kb_239_0.drop 9) (loc' := [.inr (4, 0, 0, 46), .inl (.int a1)]) (st' := [.inl (.int a1), .inl (.int (1 : Int32)), .inr (6, 0, 0, 43), .inl (.int (1 : Int32)), .inr (6, 0, 0, 43), .inl (.int a1), .inr (4, 0, 0, 46)]) (P1 := P) rfl ⟨trivial, trivial, trivial, trivial, trivial, trivial, trivial, trivial, trivial, trivial⟩ ?_
  refine tr_cRI (z := km_231) (av := [.inr (6, 0, 0, 43), .inl (.int (1 : Int32)), .inl (.int a1)]) (st' := [.inl (.int (1 : Int32)), .inr (6, 0, 0, 43), .inl (.int a1), .inr (4, 0, 0, 46)]) rfl rfl rfl (Nat.le_of_ble_eq_true rfl) ⟨rfl, Or.inl (by decide)⟩ rfl (Nat.le_of_ble_eq_true rfl) (t_231 43 P (1 : Int32) a1) (fun v1 => ?_)
  refine tr_cRI (z := km_235) (av := [.inr (6, 0, 0, 43), .inl (.int (1 : Int32)), .inl (.int v1)]) (st' := [.inl (.int a1), .inr (4, 0, 0, 46)]) rfl rfl rfl (Nat.le_of_ble_eq_true rfl) ⟨rfl, Or.inl (by decide)⟩ rfl (Nat.le_of_ble_eq_true rfl) (t_235 43 N P (1 : Int32) v1) (fun v2 => ?_)
  refine tr_cWI (z := km_296) (av := [.inr (4, 0, 0, 46), .inl (.int a1), .inl (.int v2)]) (st' := []) rfl rfl rfl (Nat.le_of_ble_eq_true rfl) ⟨rfl, Or.inl (by decide)⟩ rfl (Nat.le_of_ble_eq_true rfl) (t_296 N a1 v2 P) (fun v4 P3 => ?_)
  exact tr_reI (z := km_239) rfl ⟨_, rfl, rfl⟩ rfl
def f_243 (N : Nat) (a1 : Int32) (P : ab_P) : Option (Int32 × ab_P) :=
    Option.bind (f_263 43 P a1) fun v1 =>
    if v1 = (0 : Int32) then
      some ((0 : Int32), P)
    else
    ab_b2 (f_239 N a1 P) fun v3 P2 =>
    if v3 < (P2.1 46 5) then
      some ((0 : Int32), P2)
    else
    some ((1 : Int32), P2)
theorem t_243 {xs : Nat × (Nat → Int32)} {d : Nat} (N : Nat) : ∀ (a1 : Int32) (P : ab_P), ab_tr xs wI (d + 4) 243 0 [] [.inr (4, 0, 0, 46), .inl (.int a1)] [] P (f_243 N a1 P) := by
  intro a1 P
  unfold f_243
  refine tr_nil (rows2 := kb_243_0) rfl (List.cons_ne_nil _ _) ?_
  refine tr_blk 3 (pc' := 5) (rows' := kb_243_0.drop 3) (loc' := [.inr (4, 0, 0, 46), .inl (.int a1)]) (st' := [.inl (.int a1), .inr (6, 0, 0, 43)]) (P1 := P) rfl ⟨trivial, trivial, trivial, trivial⟩ ?_
  refine tr_cRI (z := km_263) (av := [.inr (6, 0, 0, 43), .inl (.int a1)]) (st' := []) rfl rfl rfl (Nat.le_of_ble_eq_true rfl) ⟨rfl, Or.inl (by decide)⟩ rfl (Nat.le_of_ble_eq_true rfl) (t_263 43 P a1) (fun v1 => ?_)
  refine tr_if (fun h4 => ?_) (fun h4 => ?_)
  · refine tr_ifT (cd := .eq) h4 ?_
    refine tr_nil (rows2 := kb_243_27) rfl (List.cons_ne_nil _ _) ?_
    refine tr_blk 1 (pc' := 28) (rows' := kb_243_27.drop 1) (loc' := [.inr (4, 0, 0, 46), .inl (.int a1)]) (st' := [.inl (.int (0 : Int32))]) (P1 := P) rfl ⟨trivial, trivial⟩ ?_
    refine tr_nil (rows2 := kb_243_28) rfl (List.cons_ne_nil _ _) ?_
    exact tr_reI (z := km_243) rfl ⟨_, rfl, rfl⟩ rfl
  · refine tr_ifF (cd := .eq) h4 ?_
    refine tr_blk 2 (pc' := 13) (rows' := kb_243_0.drop 7) (loc' := [.inr (4, 0, 0, 46), .inl (.int a1)]) (st' := [.inl (.int a1), .inr (4, 0, 0, 46)]) (P1 := P) rfl ⟨trivial, trivial, trivial⟩ ?_
    refine tr_cWI (z := km_239) (av := [.inr (4, 0, 0, 46), .inl (.int a1)]) (st' := []) rfl rfl rfl (Nat.le_of_ble_eq_true rfl) ⟨rfl, Or.inl (by decide)⟩ rfl (Nat.le_of_ble_eq_true rfl) (t_239 N a1 P) (fun v3 P2 => ?_)
    refine tr_blk 2 (pc' := 20) (rows' := kb_243_0.drop 10) (loc' := [.inr (4, 0, 0, 46), .inl (.int a1)]) (st' := [.inl (.int (P2.1 46 5)), .inl (.int v3)]) (P1 := P2) rfl ⟨trivial, trivial, trivial⟩ ?_
    refine tr_if (fun h5 => ?_) (fun h5 => ?_)
    · refine tr_icT (cd := .lt) h5 ?_
      refine tr_nil (rows2 := kb_243_27) rfl (List.cons_ne_nil _ _) ?_
      refine tr_blk 1 (pc' := 28) (rows' := kb_243_27.drop 1) (loc' := [.inr (4, 0, 0, 46), .inl (.int a1)]) (st' := [.inl (.int (0 : Int32))]) (P1 := P2) rfl ⟨trivial, trivial⟩ ?_
      refine tr_nil (rows2 := kb_243_28) rfl (List.cons_ne_nil _ _) ?_
      exact tr_reI (z := km_243) rfl ⟨_, rfl, rfl⟩ rfl
    · refine tr_icF (cd := .lt) h5 ?_
      refine tr_blk 1 (pc' := 24) (rows' := kb_243_0.drop 12) (loc' := [.inr (4, 0, 0, 46), .inl (.int a1)]) (st' := [.inl (.int (1 : Int32))]) (P1 := P2) rfl ⟨trivial, trivial⟩ ?_
      refine tr_goto ?_
      refine tr_nil (rows2 := kb_243_28) rfl (List.cons_ne_nil _ _) ?_
      exact tr_reI (z := km_243) rfl ⟨_, rfl, rfl⟩ rfl
def f_340 (a1 : Int32) (a2 : Int32) (P : ab_P) : Option (Int32 × ab_P) :=
    Option.bind (f_231 43 P (1 : Int32) a1) fun v1 =>
    Option.bind (f_263 43 P a1) fun v2 =>
    if v2 = (0 : Int32) then
      some ((0 : Int32), P)
    else
    Option.bind (f_231 43 P (0 : Int32) a1) fun v3 =>
    if v3 = a2 then
      some ((0 : Int32), P)
    else
    if v1 = a2 then
      some ((0 : Int32), P)
    else
    ab_b2 (f_285 43 a2 v1 (1 : Int32) (1 : Int32) P) fun v5 P4 =>
    if v5 = (0 : Int32) then
      some ((0 : Int32), P4)
    else
    some ((1 : Int32), P4)
theorem t_340 {xs : Nat × (Nat → Int32)} {d : Nat} : ∀ (a1 : Int32) (a2 : Int32) (P : ab_P), ab_tr xs wI (d + 2) 340 0 [] [.inr (2, 0, 0, 52), .inl (.int a1), .inl (.int a2), ab_top, ab_top] [] P (f_340 a1 a2 P) := by
  intro a1 a2 P
  unfold f_340
  refine tr_nil (rows2 := kb_340_0) rfl (List.cons_ne_nil _ _) ?_
  refine tr_blk 4 (pc' := 6) (rows' := kb_340_0.drop 4) (loc' := [.inr (2, 0, 0, 52), .inl (.int a1), .inl (.int a2), ab_top, ab_top]) (st' := [.inl (.int a1), .inl (.int (1 : Int32)), .inr (6, 0, 0, 43)]) (P1 := P) rfl ⟨trivial, trivial, trivial, trivial, trivial⟩ ?_
  refine tr_cRI (z := km_231) (av := [.inr (6, 0, 0, 43), .inl (.int (1 : Int32)), .inl (.int a1)]) (st' := []) rfl rfl rfl (Nat.le_of_ble_eq_true rfl) ⟨rfl, Or.inl (by decide)⟩ rfl (Nat.le_of_ble_eq_true rfl) (t_231 43 P (1 : Int32) a1) (fun v1 => ?_)
  refine tr_blk 4 (pc' := 15) (rows' := kb_340_0.drop 9) (loc' := [.inr (2, 0, 0, 52), .inl (.int a1), .inl (.int a2), .inl (.int v1), ab_top]) (st' := [.inl (.int a1), .inr (6, 0, 0, 43)]) (P1 := P) rfl ⟨trivial, trivial, trivial, trivial, trivial⟩ ?_
  refine tr_cRI (z := km_263) (av := [.inr (6, 0, 0, 43), .inl (.int a1)]) (st' := []) rfl rfl rfl (Nat.le_of_ble_eq_true rfl) ⟨rfl, Or.inl (by decide)⟩ rfl (Nat.le_of_ble_eq_true rfl) (t_263 43 P a1) (fun v2 => ?_)
  refine tr_if (fun h6 => ?_) (fun h6 => ?_)
  · refine tr_ifT (cd := .eq) h6 ?_
    refine tr_nil (rows2 := kb_340_43) rfl (List.cons_ne_nil _ _) ?_
    refine tr_blk 1 (pc' := 44) (rows' := kb_340_43.drop 1) (loc' := [.inr (2, 0, 0, 52), .inl (.int a1), .inl (.int a2), .inl (.int v1), ab_top]) (st' := [.inl (.int (0 : Int32))]) (P1 := P) rfl ⟨trivial, trivial⟩ ?_
    refine tr_nil (rows2 := kb_340_44) rfl (List.cons_ne_nil _ _) ?_
    refine tr_blk 2 (pc' := 48) (rows' := kb_340_44.drop 2) (loc' := [.inr (2, 0, 0, 52), .inl (.int a1), .inl (.int a2), .inl (.int v1), .inl (.int (0 : Int32))]) (st' := [.inl (.int (0 : Int32))]) (P1 := P) rfl ⟨trivial, trivial, trivial⟩ ?_
    refine tr_ifT (cd := .eq) (ab_cdT (by decide)) ?_
    refine tr_nil (rows2 := kb_340_69) rfl (List.cons_ne_nil _ _) ?_
    refine tr_blk 1 (pc' := 70) (rows' := kb_340_69.drop 1) (loc' := [.inr (2, 0, 0, 52), .inl (.int a1), .inl (.int a2), .inl (.int v1), .inl (.int (0 : Int32))]) (st' := [.inl (.int (0 : Int32))]) (P1 := P) rfl ⟨trivial, trivial⟩ ?_
    refine tr_nil (rows2 := kb_340_70) rfl (List.cons_ne_nil _ _) ?_
    exact tr_reI (z := km_340) rfl ⟨_, rfl, rfl⟩ rfl
  · refine tr_ifF (cd := .eq) h6 ?_
    refine tr_blk 4 (pc' := 27) (rows' := kb_340_0.drop 15) (loc' := [.inr (2, 0, 0, 52), .inl (.int a1), .inl (.int a2), .inl (.int v1), ab_top]) (st' := [.inl (.int a1), .inl (.int (0 : Int32)), .inr (6, 0, 0, 43)]) (P1 := P) rfl ⟨trivial, trivial, trivial, trivial, trivial⟩ ?_
    refine tr_cRI (z := km_231) (av := [.inr (6, 0, 0, 43), .inl (.int (0 : Int32)), .inl (.int a1)]) (st' := []) rfl rfl rfl (Nat.le_of_ble_eq_true rfl) ⟨rfl, Or.inl (by decide)⟩ rfl (Nat.le_of_ble_eq_true rfl) (t_231 43 P (0 : Int32) a1) (fun v3 => ?_)
    refine tr_blk 1 (pc' := 31) (rows' := kb_340_0.drop 17) (loc' := [.inr (2, 0, 0, 52), .inl (.int a1), .inl (.int a2), .inl (.int v1), ab_top]) (st' := [.inl (.int a2), .inl (.int v3)]) (P1 := P) rfl ⟨trivial, trivial⟩ ?_
    refine tr_if (fun h7 => ?_) (fun h7 => ?_)
    · refine tr_icT (cd := .eq) h7 ?_
      refine tr_nil (rows2 := kb_340_43) rfl (List.cons_ne_nil _ _) ?_
      refine tr_blk 1 (pc' := 44) (rows' := kb_340_43.drop 1) (loc' := [.inr (2, 0, 0, 52), .inl (.int a1), .inl (.int a2), .inl (.int v1), ab_top]) (st' := [.inl (.int (0 : Int32))]) (P1 := P) rfl ⟨trivial, trivial⟩ ?_
      refine tr_nil (rows2 := kb_340_44) rfl (List.cons_ne_nil _ _) ?_
      refine tr_blk 2 (pc' := 48) (rows' := kb_340_44.drop 2) (loc' := [.inr (2, 0, 0, 52), .inl (.int a1), .inl (.int a2), .inl (.int v1), .inl (.int (0 : Int32))]) (st' := [.inl (.int (0 : Int32))]) (P1 := P) rfl ⟨trivial, trivial, trivial⟩ ?_
      refine tr_ifT (cd := .eq) (ab_cdT (by decide)) ?_
      refine tr_nil (rows2 := kb_340_69) rfl (List.cons_ne_nil _ _) ?_
      refine tr_blk 1 (pc' := 70) (rows' := kb_340_69.drop 1) (loc' := [.inr (2, 0, 0, 52), .inl (.int a1), .inl (.int a2), .inl (.int v1), .inl (.int (0 : Int32))]) (st' := [.inl (.int (0 : Int32))]) (P1 := P) rfl ⟨trivial, trivial⟩ ?_
      refine tr_nil (rows2 := kb_340_70) rfl (List.cons_ne_nil _ _) ?_
      exact tr_reI (z := km_340) rfl ⟨_, rfl, rfl⟩ rfl
    · refine tr_icF (cd := .eq) h7 ?_
      refine tr_blk 2 (pc' := 36) (rows' := kb_340_0.drop 20) (loc' := [.inr (2, 0, 0, 52), .inl (.int a1), .inl (.int a2), .inl (.int v1), ab_top]) (st' := [.inl (.int a2), .inl (.int v1)]) (P1 := P) rfl ⟨trivial, trivial, trivial⟩ ?_
      refine tr_if (fun h8 => ?_) (fun h8 => ?_)
      · refine tr_icT (cd := .eq) h8 ?_
        refine tr_nil (rows2 := kb_340_43) rfl (List.cons_ne_nil _ _) ?_
        refine tr_blk 1 (pc' := 44) (rows' := kb_340_43.drop 1) (loc' := [.inr (2, 0, 0, 52), .inl (.int a1), .inl (.int a2), .inl (.int v1), ab_top]) (st' := [.inl (.int (0 : Int32))]) (P1 := P) rfl ⟨trivial, trivial⟩ ?_
        refine tr_nil (rows2 := kb_340_44) rfl (List.cons_ne_nil _ _) ?_
        refine tr_blk 2 (pc' := 48) (rows' := kb_340_44.drop 2) (loc' := [.inr (2, 0, 0, 52), .inl (.int a1), .inl (.int a2), .inl (.int v1), .inl (.int (0 : Int32))]) (st' := [.inl (.int (0 : Int32))]) (P1 := P) rfl ⟨trivial, trivial, trivial⟩ ?_
        refine tr_ifT (cd := .eq) (ab_cdT (by decide)) ?_
        refine tr_nil (rows2 := kb_340_69) rfl (List.cons_ne_nil _ _) ?_
        refine tr_blk 1 (pc' := 70) (rows' := kb_340_69.drop 1) (loc' := [.inr (2, 0, 0, 52), .inl (.int a1), .inl (.int a2), .inl (.int v1), .inl (.int (0 : Int32))]) (st' := [.inl (.int (0 : Int32))]) (P1 := P) rfl ⟨trivial, trivial⟩ ?_
        refine tr_nil (rows2 := kb_340_70) rfl (List.cons_ne_nil _ _) ?_
        exact tr_reI (z := km_340) rfl ⟨_, rfl, rfl⟩ rfl
      · refine tr_icF (cd := .eq) h8 ?_
        refine tr_blk 1 (pc' := 40) (rows' := kb_340_0.drop 22) (loc' := [.inr (2, 0, 0, 52), .inl (.int a1), .inl (.int a2), .inl (.int v1), ab_top]) (st' := [.inl (.int (1 : Int32))]) (P1 := P) rfl ⟨trivial, trivial⟩ ?_
        refine tr_goto ?_
        refine tr_nil (rows2 := kb_340_44) rfl (List.cons_ne_nil _ _) ?_
        refine tr_blk 2 (pc' := 48) (rows' := kb_340_44.drop 2) (loc' := [.inr (2, 0, 0, 52), .inl (.int a1), .inl (.int a2), .inl (.int v1), .inl (.int (1 : Int32))]) (st' := [.inl (.int (1 : Int32))]) (P1 := P) rfl ⟨trivial, trivial, trivial⟩ ?_
        refine tr_ifF (cd := .eq) (ab_cdF (by decide)) ?_
        refine tr_blk 6 (pc' := 59) (rows' := kb_340_44.drop 9) (loc' := [.inr (2, 0, 0, 52), .inl (.int a1), .inl (.int a2), .inl (.int v1), .inl (.int (1 : Int32))]) (st' := [.inl (.int (1 : Int32)), .inl (.int (1 : Int32)), .inl (.int v1), .inl (.int a2), .inr (6, 0, 0, 43)]) (P1 := P) rfl ⟨trivial, trivial, trivial, trivial, trivial, trivial, trivial⟩ ?_
        refine tr_cWI (z := km_285) (av := [.inr (6, 0, 0, 43), .inl (.int a2), .inl (.int v1), .inl (.int (1 : Int32)), .inl (.int (1 : Int32))]) (st' := []) rfl rfl rfl (Nat.le_of_ble_eq_true rfl) ⟨rfl, Or.inl (by decide)⟩ rfl (Nat.le_of_ble_eq_true rfl) (t_285 43 a2 v1 (1 : Int32) (1 : Int32) P) (fun v5 P4 => ?_)
        refine tr_if (fun h9 => ?_) (fun h9 => ?_)
        · refine tr_ifT (cd := .eq) h9 ?_
          refine tr_nil (rows2 := kb_340_69) rfl (List.cons_ne_nil _ _) ?_
          refine tr_blk 1 (pc' := 70) (rows' := kb_340_69.drop 1) (loc' := [.inr (2, 0, 0, 52), .inl (.int a1), .inl (.int a2), .inl (.int v1), .inl (.int (1 : Int32))]) (st' := [.inl (.int (0 : Int32))]) (P1 := P4) rfl ⟨trivial, trivial⟩ ?_
          refine tr_nil (rows2 := kb_340_70) rfl (List.cons_ne_nil _ _) ?_
          exact tr_reI (z := km_340) rfl ⟨_, rfl, rfl⟩ rfl
        · refine tr_ifF (cd := .eq) h9 ?_
          refine tr_blk 1 (pc' := 66) (rows' := kb_340_44.drop 12) (loc' := [.inr (2, 0, 0, 52), .inl (.int a1), .inl (.int a2), .inl (.int v1), .inl (.int (1 : Int32))]) (st' := [.inl (.int (1 : Int32))]) (P1 := P4) rfl ⟨trivial, trivial⟩ ?_
          refine tr_goto ?_
          refine tr_nil (rows2 := kb_340_70) rfl (List.cons_ne_nil _ _) ?_
          exact tr_reI (z := km_340) rfl ⟨_, rfl, rfl⟩ rfl
def f_308 (P : ab_P) (a0 : Int32) (a1 : Int32) (a2 : Int32) : Option Unit :=
    if a2 < a1 then
      none
    else
    if a1 < (0 : Int32) then
      none
    else
    if a0 < a2 then
      none
    else
    some ()
theorem t_308 {xs : Nat × (Nat → Int32)} {d : Nat} (P : ab_P) : ∀ (a0 : Int32) (a1 : Int32) (a2 : Int32), ab_tr xs (rV P) (d + 0) 308 0 [] [.inl (.int a0), .inl (.int a1), .inl (.int a2)] [] P (f_308 P a0 a1 a2) := by
  intro a0 a1 a2
  unfold f_308
  refine tr_nil (rows2 := kb_308_0) rfl (List.cons_ne_nil _ _) ?_
  refine tr_blk 2 (pc' := 2) (rows' := kb_308_0.drop 2) (loc' := [.inl (.int a0), .inl (.int a1), .inl (.int a2)]) (st' := [.inl (.int a2), .inl (.int a1)]) (P1 := P) rfl ⟨trivial, trivial, trivial⟩ ?_
  refine tr_if (fun h1 => ?_) (fun h1 => ?_)
  · refine tr_icF (cd := .le) (Int32.not_le.mpr h1) ?_
    exact tr_no
  · refine tr_icT (cd := .le) (Int32.not_lt.mp h1) ?_
    refine tr_nil (rows2 := kb_308_46) rfl (List.cons_ne_nil _ _) ?_
    refine tr_blk 1 (pc' := 47) (rows' := kb_308_46.drop 1) (loc' := [.inl (.int a0), .inl (.int a1), .inl (.int a2)]) (st' := [.inl (.int a1)]) (P1 := P) rfl ⟨trivial, trivial⟩ ?_
    refine tr_if (fun h2 => ?_) (fun h2 => ?_)
    · refine tr_ifF (cd := .ge) (Int32.not_le.mpr h2) ?_
      exact tr_no
    · refine tr_ifT (cd := .ge) (Int32.not_lt.mp h2) ?_
      refine tr_nil (rows2 := kb_308_59) rfl (List.cons_ne_nil _ _) ?_
      refine tr_blk 2 (pc' := 61) (rows' := kb_308_59.drop 2) (loc' := [.inl (.int a0), .inl (.int a1), .inl (.int a2)]) (st' := [.inl (.int a0), .inl (.int a2)]) (P1 := P) rfl ⟨trivial, trivial, trivial⟩ ?_
      refine tr_if (fun h3 => ?_) (fun h3 => ?_)
      · refine tr_icF (cd := .le) (Int32.not_le.mpr h3) ?_
        exact tr_no
      · refine tr_icT (cd := .le) (Int32.not_lt.mp h3) ?_
        refine tr_nil (rows2 := kb_308_73) rfl (List.cons_ne_nil _ _) ?_
        exact tr_reV (z := km_308) rfl rfl rfl
def f_299_1000_10 : Nat → Int32 → Int64 → Int32 → ab_P → Option ab_P
  | 0, _, _, _, _ => none
  | n + 1, x2, x3, x5, P =>
    if x5 < x2 then
      if ab_gi x5 1000 then
      ab_lt (ab_pL P 51 x5.toNatClampNeg x3) fun P2 =>
      f_299_1000_10 n x2 x3 (x5 + 1) P2
      else none
    else
    some P
theorem t_299_1000_10 {xs : Nat × (Nat → Int32)} {d : Nat} : ∀ n : Nat, ∀ (x2 : Int32) (x3 : Int64) (x5 : Int32) (d1 : Int32) (P : ab_P), ab_tr xs wV (d + 1) 299 10 [] [.inr (22, 1000, 0, 51), .inl (.int d1), .inl (.int x2), .inl (.long x3), ab_top, .inl (.int x5)] [] P (f_299_1000_10 n x2 x3 x5 P) := by
  intro n
  induction n with
  | zero => intro x2 x3 x5 d1 P; exact tr_no
  | succ n ih =>
    intro x2 x3 x5 d1 P
    refine tr_nil (rows2 := kb_299_10) rfl (List.cons_ne_nil _ _) ?_
    refine tr_blk 2 (pc' := 13) (rows' := kb_299_10.drop 2) (loc' := [.inr (22, 1000, 0, 51), .inl (.int d1), .inl (.int x2), .inl (.long x3), ab_top, .inl (.int x5)]) (st' := [.inl (.int x2), .inl (.int x5)]) (P1 := P) rfl ⟨trivial, trivial, trivial⟩ ?_
    refine tr_if (fun h3 => ?_) (fun h3 => ?_)
    · refine tr_icF (cd := .ge) (Int32.not_le.mpr h3) ?_
      refine tr_gd (fun h1 => ?_)
      refine tr_blk 4 (pc' := 21) (rows' := kb_299_10.drop 7) (loc' := [.inr (22, 1000, 0, 51), .inl (.int d1), .inl (.int x2), .inl (.long x3), ab_top, .inl (.int x5)]) (st' := []) (P1 := (ab_pL P 51 x5.toNatClampNeg x3)) rfl ⟨trivial, trivial, trivial, h1, trivial⟩ ?_
      refine tr_lt (fun P2 => ?_)
      refine tr_blk 1 (pc' := 24) (rows' := kb_299_10.drop 8) (loc' := [.inr (22, 1000, 0, 51), .inl (.int d1), .inl (.int x2), .inl (.long x3), ab_top, .inl (.int (x5 + 1))]) (st' := []) (P1 := P2) rfl ⟨trivial, trivial⟩ ?_
      refine tr_goto ?_
      exact ih x2 x3 (x5 + 1) (d1) P2
    · refine tr_icT (cd := .ge) (Int32.not_lt.mp h3) ?_
      refine tr_nil (rows2 := kb_299_27) rfl (List.cons_ne_nil _ _) ?_
      exact tr_reV (z := km_299) rfl rfl rfl
def f_299_1000 (N : Nat) (a1 : Int32) (a2 : Int32) (a3 : Int64) (P : ab_P) : Option ab_P :=
    Option.bind (f_308 P (1000 : Int32) a1 a2) fun _ =>
    f_299_1000_10 N a2 a3 a1 P
theorem t_299_1000 {xs : Nat × (Nat → Int32)} {d : Nat} (N : Nat) : ∀ (a1 : Int32) (a2 : Int32) (a3 : Int64) (P : ab_P), ab_tr xs wV (d + 1) 299 0 [] [.inr (22, 1000, 0, 51), .inl (.int a1), .inl (.int a2), .inl (.long a3), ab_top, ab_top] [] P (f_299_1000 N a1 a2 a3 P) := by
  intro a1 a2 a3 P
  unfold f_299_1000
  refine tr_nil (rows2 := kb_299_0) rfl (List.cons_ne_nil _ _) ?_
  refine tr_blk 4 (pc' := 4) (rows' := kb_299_0.drop 4) (loc' := [.inr (22, 1000, 0, 51), .inl (.int a1), .inl (.int a2), .inl (.long a3), ab_top, ab_top]) (st' := [.inl (.int a2), .inl (.int a1), .inl (.int (1000 : Int32))]) (P1 := P) rfl ⟨trivial, (Or.inl (by decide)), trivial, trivial, trivial⟩ ?_
  refine tr_cRV (z := km_308) (av := [.inl (.int (1000 : Int32)), .inl (.int a1), .inl (.int a2)]) (st' := []) rfl rfl rfl (Nat.le_of_ble_eq_true rfl) trivial rfl (Nat.le_of_ble_eq_true rfl) (t_308 P (1000 : Int32) a1 a2) (fun _ => ?_)
  refine tr_blk 2 (pc' := 10) (rows' := kb_299_0.drop 7) (loc' := [.inr (22, 1000, 0, 51), .inl (.int a1), .inl (.int a2), .inl (.long a3), ab_top, .inl (.int a1)]) (st' := []) (P1 := P) rfl ⟨trivial, trivial, trivial⟩ ?_
  exact t_299_1000_10 N a2 a3 a1 (a1) P
def f_300_12 : Nat → Int32 → Int64 → Int32 → ab_P → Option ab_P
  | 0, _, _, _, _ => none
  | n + 1, x2, x4, x6, P =>
    if x6 < x2 then
      some P
    else
    if (0 : Int32) < x2 then
      if x6 < (1000 : Int32) then
        if ab_gi (x6 - x2) 1000 then
        if (lg_cmp (P.2.1 51 ((x6 - x2)).toNatClampNeg) (0 : Int64)) < (0 : Int32) then
          f_300_12 n x2 x4 (x6 + (-1)) P
        else
        if ab_gi x6 1000 then
        if (lg_cmp (P.2.1 51 x6.toNatClampNeg) (0 : Int64)) < (0 : Int32) then
          if ab_gi x6 1000 then
          ab_lt (ab_pL P 51 x6.toNatClampNeg ((P.2.1 51 ((x6 - x2)).toNatClampNeg) + x4)) fun P4 =>
          f_300_12 n x2 x4 (x6 + (-1)) P4
          else none
        else
        if ab_gi x6 1000 then
        if (0 : Int32) < (lg_cmp (((P.2.1 51 ((x6 - x2)).toNatClampNeg) + x4) >>> (((40 : Int32)).toInt64 &&& 63)) ((P.2.1 51 x6.toNatClampNeg) >>> (((40 : Int32)).toInt64 &&& 63))) then
          f_300_12 n x2 x4 (x6 + (-1)) P
        else
        if ab_gi x6 1000 then
        ab_lt (ab_pL P 51 x6.toNatClampNeg ((P.2.1 51 ((x6 - x2)).toNatClampNeg) + x4)) fun P7 =>
        f_300_12 n x2 x4 (x6 + (-1)) P7
        else none
        else none
        else none
        else none
      else
      some P
    else
    some P
theorem t_300_12 {xs : Nat × (Nat → Int32)} {d : Nat} : ∀ n : Nat, ∀ (x2 : Int32) (x4 : Int64) (x6 : Int32) (d1 : Int32) (d3 : Int32) (d7 : ab_V) (d9 : ab_V) (P : ab_P), ab_tr xs wV (d + 0) 300 12 [] [.inr (8, 0, 0, 49), .inl (.int d1), .inl (.int x2), .inl (.int d3), .inl (.long x4), ab_top, .inl (.int x6), d7, ab_top, d9, ab_top] [] P (f_300_12 n x2 x4 x6 P) := by
  intro n
  induction n with
  | zero => intro x2 x4 x6 d1 d3 d7 d9 P; exact tr_no
  | succ n ih =>
    intro x2 x4 x6 d1 d3 d7 d9 P
    refine tr_nil (rows2 := kb_300_12) rfl (List.cons_ne_nil _ _) ?_
    refine tr_blk 2 (pc' := 15) (rows' := kb_300_12.drop 2) (loc' := [.inr (8, 0, 0, 49), .inl (.int d1), .inl (.int x2), .inl (.int d3), .inl (.long x4), ab_top, .inl (.int x6), d7, ab_top, d9, ab_top]) (st' := [.inl (.int x2), .inl (.int x6)]) (P1 := P) rfl ⟨trivial, trivial, trivial⟩ ?_
    refine tr_if (fun h8 => ?_) (fun h8 => ?_)
    · refine tr_icT (cd := .lt) h8 ?_
      refine tr_nil (rows2 := kb_300_103) rfl (List.cons_ne_nil _ _) ?_
      exact tr_reV (z := km_300) rfl rfl rfl
    · refine tr_icF (cd := .lt) h8 ?_
      refine tr_blk 1 (pc' := 19) (rows' := kb_300_12.drop 4) (loc' := [.inr (8, 0, 0, 49), .inl (.int d1), .inl (.int x2), .inl (.int d3), .inl (.long x4), ab_top, .inl (.int x6), d7, ab_top, d9, ab_top]) (st' := [.inl (.int x2)]) (P1 := P) rfl ⟨trivial, trivial⟩ ?_
      refine tr_if (fun h9 => ?_) (fun h9 => ?_)
      · refine tr_ifF (cd := .le) (Int32.not_le.mpr h9) ?_
        refine tr_blk 4 (pc' := 29) (rows' := kb_300_12.drop 9) (loc' := [.inr (8, 0, 0, 49), .inl (.int d1), .inl (.int x2), .inl (.int d3), .inl (.long x4), ab_top, .inl (.int x6), d7, ab_top, d9, ab_top]) (st' := [.inl (.int (1000 : Int32)), .inl (.int x6)]) (P1 := P) rfl ⟨trivial, trivial, trivial, (Or.inl (by decide)), trivial⟩ ?_
        refine tr_if (fun h10 => ?_) (fun h10 => ?_)
        · refine tr_icF (cd := .ge) (Int32.not_le.mpr h10) ?_
          refine tr_gd (fun h1 => ?_)
          refine tr_blk 14 (pc' := 54) (rows' := kb_300_12.drop 24) (loc' := [.inr (8, 0, 0, 49), .inl (.int d1), .inl (.int x2), .inl (.int d3), .inl (.long x4), ab_top, .inl (.int x6), .inl (.long (P.2.1 51 ((x6 - x2)).toNatClampNeg)), ab_top, .inl (.long ((P.2.1 51 ((x6 - x2)).toNatClampNeg) + x4)), ab_top]) (st' := [.inl (.int (lg_cmp (P.2.1 51 ((x6 - x2)).toNatClampNeg) (0 : Int64)))]) (P1 := P) rfl ⟨trivial, trivial, trivial, trivial, trivial, h1, trivial, trivial, trivial, trivial, trivial, trivial, trivial, trivial, trivial⟩ ?_
          refine tr_if (fun h11 => ?_) (fun h11 => ?_)
          · refine tr_ifT (cd := .lt) h11 ?_
            refine tr_nil (rows2 := kb_300_97) rfl (List.cons_ne_nil _ _) ?_
            refine tr_blk 1 (pc' := 100) (rows' := kb_300_97.drop 1) (loc' := [.inr (8, 0, 0, 49), .inl (.int d1), .inl (.int x2), .inl (.int d3), .inl (.long x4), ab_top, .inl (.int (x6 + (-1))), .inl (.long (P.2.1 51 ((x6 - x2)).toNatClampNeg)), ab_top, .inl (.long ((P.2.1 51 ((x6 - x2)).toNatClampNeg) + x4)), ab_top]) (st' := []) (P1 := P) rfl ⟨trivial, trivial⟩ ?_
            refine tr_goto ?_
            exact ih x2 x4 (x6 + (-1)) (d1) (d3) (.inl (.long (P.2.1 51 ((x6 - x2)).toNatClampNeg))) (.inl (.long ((P.2.1 51 ((x6 - x2)).toNatClampNeg) + x4))) P
          · refine tr_ifF (cd := .lt) h11 ?_
            refine tr_gd (fun h2 => ?_)
            refine tr_blk 6 (pc' := 66) (rows' := kb_300_12.drop 31) (loc' := [.inr (8, 0, 0, 49), .inl (.int d1), .inl (.int x2), .inl (.int d3), .inl (.long x4), ab_top, .inl (.int x6), .inl (.long (P.2.1 51 ((x6 - x2)).toNatClampNeg)), ab_top, .inl (.long ((P.2.1 51 ((x6 - x2)).toNatClampNeg) + x4)), ab_top]) (st' := [.inl (.int (lg_cmp (P.2.1 51 x6.toNatClampNeg) (0 : Int64)))]) (P1 := P) rfl ⟨trivial, trivial, trivial, h2, trivial, trivial, trivial⟩ ?_
            refine tr_if (fun h12 => ?_) (fun h12 => ?_)
            · refine tr_ifT (cd := .lt) h12 ?_
              refine tr_nil (rows2 := kb_300_88) rfl (List.cons_ne_nil _ _) ?_
              refine tr_gd (fun h3 => ?_)
              refine tr_blk 5 (pc' := 97) (rows' := kb_300_88.drop 5) (loc' := [.inr (8, 0, 0, 49), .inl (.int d1), .inl (.int x2), .inl (.int d3), .inl (.long x4), ab_top, .inl (.int x6), .inl (.long (P.2.1 51 ((x6 - x2)).toNatClampNeg)), ab_top, .inl (.long ((P.2.1 51 ((x6 - x2)).toNatClampNeg) + x4)), ab_top]) (st' := []) (P1 := (ab_pL P 51 x6.toNatClampNeg ((P.2.1 51 ((x6 - x2)).toNatClampNeg) + x4))) rfl ⟨trivial, trivial, trivial, trivial, h3, trivial⟩ ?_
              refine tr_lt (fun P4 => ?_)
              refine tr_nil (rows2 := kb_300_97) rfl (List.cons_ne_nil _ _) ?_
              refine tr_blk 1 (pc' := 100) (rows' := kb_300_97.drop 1) (loc' := [.inr (8, 0, 0, 49), .inl (.int d1), .inl (.int x2), .inl (.int d3), .inl (.long x4), ab_top, .inl (.int (x6 + (-1))), .inl (.long (P.2.1 51 ((x6 - x2)).toNatClampNeg)), ab_top, .inl (.long ((P.2.1 51 ((x6 - x2)).toNatClampNeg) + x4)), ab_top]) (st' := []) (P1 := P4) rfl ⟨trivial, trivial⟩ ?_
              refine tr_goto ?_
              exact ih x2 x4 (x6 + (-1)) (d1) (d3) (.inl (.long (P.2.1 51 ((x6 - x2)).toNatClampNeg))) (.inl (.long ((P.2.1 51 ((x6 - x2)).toNatClampNeg) + x4))) P4
            · refine tr_ifF (cd := .lt) h12 ?_
              refine tr_gd (fun h5 => ?_)
              refine tr_blk 10 (pc' := 85) (rows' := kb_300_12.drop 42) (loc' := [.inr (8, 0, 0, 49), .inl (.int d1), .inl (.int x2), .inl (.int d3), .inl (.long x4), ab_top, .inl (.int x6), .inl (.long (P.2.1 51 ((x6 - x2)).toNatClampNeg)), ab_top, .inl (.long ((P.2.1 51 ((x6 - x2)).toNatClampNeg) + x4)), ab_top]) (st' := [.inl (.int (lg_cmp (((P.2.1 51 ((x6 - x2)).toNatClampNeg) + x4) >>> (((40 : Int32)).toInt64 &&& 63)) ((P.2.1 51 x6.toNatClampNeg) >>> (((40 : Int32)).toInt64 &&& 63))))]) (P1 := P) rfl ⟨trivial, trivial, trivial, trivial, trivial, trivial, h5, trivial, trivial, trivial, trivial⟩ ?_
              refine tr_if (fun h13 => ?_) (fun h13 => ?_)
              · refine tr_ifT (cd := .gt) h13 ?_
                refine tr_nil (rows2 := kb_300_97) rfl (List.cons_ne_nil _ _) ?_
                refine tr_blk 1 (pc' := 100) (rows' := kb_300_97.drop 1) (loc' := [.inr (8, 0, 0, 49), .inl (.int d1), .inl (.int x2), .inl (.int d3), .inl (.long x4), ab_top, .inl (.int (x6 + (-1))), .inl (.long (P.2.1 51 ((x6 - x2)).toNatClampNeg)), ab_top, .inl (.long ((P.2.1 51 ((x6 - x2)).toNatClampNeg) + x4)), ab_top]) (st' := []) (P1 := P) rfl ⟨trivial, trivial⟩ ?_
                refine tr_goto ?_
                exact ih x2 x4 (x6 + (-1)) (d1) (d3) (.inl (.long (P.2.1 51 ((x6 - x2)).toNatClampNeg))) (.inl (.long ((P.2.1 51 ((x6 - x2)).toNatClampNeg) + x4))) P
              · refine tr_ifF (cd := .gt) h13 ?_
                refine tr_nil (rows2 := kb_300_88) rfl (List.cons_ne_nil _ _) ?_
                refine tr_gd (fun h6 => ?_)
                refine tr_blk 5 (pc' := 97) (rows' := kb_300_88.drop 5) (loc' := [.inr (8, 0, 0, 49), .inl (.int d1), .inl (.int x2), .inl (.int d3), .inl (.long x4), ab_top, .inl (.int x6), .inl (.long (P.2.1 51 ((x6 - x2)).toNatClampNeg)), ab_top, .inl (.long ((P.2.1 51 ((x6 - x2)).toNatClampNeg) + x4)), ab_top]) (st' := []) (P1 := (ab_pL P 51 x6.toNatClampNeg ((P.2.1 51 ((x6 - x2)).toNatClampNeg) + x4))) rfl ⟨trivial, trivial, trivial, trivial, h6, trivial⟩ ?_
                refine tr_lt (fun P7 => ?_)
                refine tr_nil (rows2 := kb_300_97) rfl (List.cons_ne_nil _ _) ?_
                refine tr_blk 1 (pc' := 100) (rows' := kb_300_97.drop 1) (loc' := [.inr (8, 0, 0, 49), .inl (.int d1), .inl (.int x2), .inl (.int d3), .inl (.long x4), ab_top, .inl (.int (x6 + (-1))), .inl (.long (P.2.1 51 ((x6 - x2)).toNatClampNeg)), ab_top, .inl (.long ((P.2.1 51 ((x6 - x2)).toNatClampNeg) + x4)), ab_top]) (st' := []) (P1 := P7) rfl ⟨trivial, trivial⟩ ?_
                refine tr_goto ?_
                exact ih x2 x4 (x6 + (-1)) (d1) (d3) (.inl (.long (P.2.1 51 ((x6 - x2)).toNatClampNeg))) (.inl (.long ((P.2.1 51 ((x6 - x2)).toNatClampNeg) + x4))) P7
        · refine tr_icT (cd := .ge) (Int32.not_lt.mp h10) ?_
          refine tr_nil (rows2 := kb_300_103) rfl (List.cons_ne_nil _ _) ?_
          exact tr_reV (z := km_300) rfl rfl rfl
      · refine tr_ifT (cd := .le) (Int32.not_lt.mp h9) ?_
        refine tr_nil (rows2 := kb_300_103) rfl (List.cons_ne_nil _ _) ?_
        exact tr_reV (z := km_300) rfl rfl rfl
def f_300 (N : Nat) (a1 : Int32) (a2 : Int32) (a3 : Int32) (P : ab_P) : Option ab_P :=
    f_300_12 N a2 ((1099511627776 : Int64) + ((1 : Int64) <<< ((a1).toInt64 &&& 63))) a3 P
theorem t_300 {xs : Nat × (Nat → Int32)} {d : Nat} (N : Nat) : ∀ (a1 : Int32) (a2 : Int32) (a3 : Int32) (P : ab_P), ab_tr xs wV (d + 0) 300 0 [] [.inr (8, 0, 0, 49), .inl (.int a1), .inl (.int a2), .inl (.int a3), ab_top, ab_top, ab_top, ab_top, ab_top, ab_top, ab_top] [] P (f_300 N a1 a2 a3 P) := by
  intro a1 a2 a3 P
  unfold f_300
  refine tr_nil (rows2 := kb_300_0) rfl (List.cons_ne_nil _ _) ?_
  refine tr_blk 8 (pc' := 12) (rows' := kb_300_0.drop 8) (loc' := [.inr (8, 0, 0, 49), .inl (.int a1), .inl (.int a2), .inl (.int a3), .inl (.long ((1099511627776 : Int64) + ((1 : Int64) <<< ((a1).toInt64 &&& 63)))), ab_top, .inl (.int a3), ab_top, ab_top, ab_top, ab_top]) (st' := []) (P1 := P) rfl ⟨trivial, trivial, trivial, trivial, trivial, trivial, trivial, trivial, trivial⟩ ?_
  exact t_300_12 N a2 ((1099511627776 : Int64) + ((1 : Int64) <<< ((a1).toInt64 &&& 63))) a3 (a1) (a3) (ab_top) (ab_top) P
def f_244_48 (N : Nat) : Nat → Int32 → Int32 → Int32 → Int32 → ab_P → Option (Int64 × ab_P)
  | 0, _, _, _, _, _ => none
  | n + 1, x1, x2, x3, x4, P =>
    if x4 < (0 : Int32) then
      if ab_gi x3 1000 then
      if (lg_cmp (P.2.1 51 x3.toNatClampNeg) (0 : Int64)) < (0 : Int32) then
        some ((0 : Int64), P)
      else
      if ab_gi x3 1000 then
      some (((P.2.1 51 x3.toNatClampNeg) &&& (1099511627775 : Int64)), P)
      else none
      else none
    else
    Option.bind (f_263 43 P x4) fun v5 =>
    if v5 = (0 : Int32) then
      f_244_48 N n x1 x2 x3 (x4 + (-1)) P
    else
    Option.bind (f_231 43 P (1 : Int32) x4) fun v6 =>
    if v6 = x1 then
      Option.bind (f_231 43 P (0 : Int32) x4) fun v7 =>
      if v7 = x2 then
        f_244_48 N n x1 x2 x3 (x4 + (-1)) P
      else
      Option.bind (f_231 43 P (2 : Int32) x4) fun v8 =>
      Option.bind (f_300 N x4 v8 x3 P) fun P9 =>
      f_244_48 N n x1 x2 x3 (x4 + (-1)) P9
    else
    f_244_48 N n x1 x2 x3 (x4 + (-1)) P
theorem t_244_48 {xs : Nat × (Nat → Int32)} {d : Nat} (N : Nat) : ∀ n : Nat, ∀ (x1 : Int32) (x2 : Int32) (x3 : Int32) (x4 : Int32) (d5 : ab_V) (P : ab_P), ab_tr xs wL (d + 2) 244 48 [] [.inr (8, 0, 0, 49), .inl (.int x1), .inl (.int x2), .inl (.int x3), .inl (.int x4), d5] [] P (f_244_48 N n x1 x2 x3 x4 P) := by
  intro n
  induction n with
  | zero => intro x1 x2 x3 x4 d5 P; exact tr_no
  | succ n ih =>
    intro x1 x2 x3 x4 d5 P
    refine tr_nil (rows2 := kb_244_48) rfl (List.cons_ne_nil _ _) ?_
    refine tr_blk 1 (pc' := 50) (rows' := kb_244_48.drop 1) (loc' := [.inr (8, 0, 0, 49), .inl (.int x1), .inl (.int x2), .inl (.int x3), .inl (.int x4), d5]) (st' := [.inl (.int x4)]) (P1 := P) rfl ⟨trivial, trivial⟩ ?_
    refine tr_if (fun h10 => ?_) (fun h10 => ?_)
    · refine tr_ifT (cd := .lt) h10 ?_
      refine tr_nil (rows2 := kb_244_128) rfl (List.cons_ne_nil _ _) ?_
      refine tr_gd (fun h3 => ?_)
      refine tr_blk 6 (pc' := 136) (rows' := kb_244_128.drop 6) (loc' := [.inr (8, 0, 0, 49), .inl (.int x1), .inl (.int x2), .inl (.int x3), .inl (.int x4), d5]) (st' := [.inl (.int (lg_cmp (P.2.1 51 x3.toNatClampNeg) (0 : Int64)))]) (P1 := P) rfl ⟨trivial, trivial, trivial, h3, trivial, trivial, trivial⟩ ?_
      refine tr_if (fun h11 => ?_) (fun h11 => ?_)
      · refine tr_ifF (cd := .ge) (Int32.not_le.mpr h11) ?_
        refine tr_blk 1 (pc' := 140) (rows' := kb_244_128.drop 8) (loc' := [.inr (8, 0, 0, 49), .inl (.int x1), .inl (.int x2), .inl (.int x3), .inl (.int x4), d5]) (st' := [.inl (.long (0 : Int64))]) (P1 := P) rfl ⟨trivial, trivial⟩ ?_
        refine tr_goto ?_
        refine tr_nil (rows2 := kb_244_153) rfl (List.cons_ne_nil _ _) ?_
        exact tr_reL (z := km_244) rfl rfl rfl
      · refine tr_ifT (cd := .ge) (Int32.not_lt.mp h11) ?_
        refine tr_nil (rows2 := kb_244_143) rfl (List.cons_ne_nil _ _) ?_
        refine tr_gd (fun h4 => ?_)
        refine tr_blk 6 (pc' := 153) (rows' := kb_244_143.drop 6) (loc' := [.inr (8, 0, 0, 49), .inl (.int x1), .inl (.int x2), .inl (.int x3), .inl (.int x4), d5]) (st' := [.inl (.long ((P.2.1 51 x3.toNatClampNeg) &&& (1099511627775 : Int64)))]) (P1 := P) rfl ⟨trivial, trivial, trivial, h4, trivial, trivial, trivial⟩ ?_
        refine tr_nil (rows2 := kb_244_153) rfl (List.cons_ne_nil _ _) ?_
        exact tr_reL (z := km_244) rfl rfl rfl
    · refine tr_ifF (cd := .lt) h10 ?_
      refine tr_blk 3 (pc' := 59) (rows' := kb_244_48.drop 5) (loc' := [.inr (8, 0, 0, 49), .inl (.int x1), .inl (.int x2), .inl (.int x3), .inl (.int x4), d5]) (st' := [.inl (.int x4), .inr (6, 0, 0, 43)]) (P1 := P) rfl ⟨trivial, trivial, trivial, trivial⟩ ?_
      refine tr_cRI (z := km_263) (av := [.inr (6, 0, 0, 43), .inl (.int x4)]) (st' := []) rfl rfl rfl (Nat.le_of_ble_eq_true rfl) ⟨rfl, Or.inl (by decide)⟩ rfl (Nat.le_of_ble_eq_true rfl) (t_263 43 P x4) (fun v5 => ?_)
      refine tr_if (fun h12 => ?_) (fun h12 => ?_)
      · refine tr_ifT (cd := .eq) h12 ?_
        refine tr_nil (rows2 := kb_244_97) rfl (List.cons_ne_nil _ _) ?_
        refine tr_blk 1 (pc' := 98) (rows' := kb_244_97.drop 1) (loc' := [.inr (8, 0, 0, 49), .inl (.int x1), .inl (.int x2), .inl (.int x3), .inl (.int x4), d5]) (st' := [.inl (.int (0 : Int32))]) (P1 := P) rfl ⟨trivial, trivial⟩ ?_
        refine tr_nil (rows2 := kb_244_98) rfl (List.cons_ne_nil _ _) ?_
        refine tr_blk 2 (pc' := 102) (rows' := kb_244_98.drop 2) (loc' := [.inr (8, 0, 0, 49), .inl (.int x1), .inl (.int x2), .inl (.int x3), .inl (.int x4), .inl (.int (0 : Int32))]) (st' := [.inl (.int (0 : Int32))]) (P1 := P) rfl ⟨trivial, trivial, trivial⟩ ?_
        refine tr_ifT (cd := .eq) (ab_cdT (by decide)) ?_
        refine tr_nil (rows2 := kb_244_122) rfl (List.cons_ne_nil _ _) ?_
        refine tr_blk 1 (pc' := 125) (rows' := kb_244_122.drop 1) (loc' := [.inr (8, 0, 0, 49), .inl (.int x1), .inl (.int x2), .inl (.int x3), .inl (.int (x4 + (-1))), .inl (.int (0 : Int32))]) (st' := []) (P1 := P) rfl ⟨trivial, trivial⟩ ?_
        refine tr_goto ?_
        exact ih x1 x2 x3 (x4 + (-1)) (.inl (.int (0 : Int32))) P
      · refine tr_ifF (cd := .eq) h12 ?_
        refine tr_blk 4 (pc' := 72) (rows' := kb_244_48.drop 11) (loc' := [.inr (8, 0, 0, 49), .inl (.int x1), .inl (.int x2), .inl (.int x3), .inl (.int x4), d5]) (st' := [.inl (.int x4), .inl (.int (1 : Int32)), .inr (6, 0, 0, 43)]) (P1 := P) rfl ⟨trivial, trivial, trivial, trivial, trivial⟩ ?_
        refine tr_cRI (z := km_231) (av := [.inr (6, 0, 0, 43), .inl (.int (1 : Int32)), .inl (.int x4)]) (st' := []) rfl rfl rfl (Nat.le_of_ble_eq_true rfl) ⟨rfl, Or.inl (by decide)⟩ rfl (Nat.le_of_ble_eq_true rfl) (t_231 43 P (1 : Int32) x4) (fun v6 => ?_)
        refine tr_blk 1 (pc' := 76) (rows' := kb_244_48.drop 13) (loc' := [.inr (8, 0, 0, 49), .inl (.int x1), .inl (.int x2), .inl (.int x3), .inl (.int x4), d5]) (st' := [.inl (.int x1), .inl (.int v6)]) (P1 := P) rfl ⟨trivial, trivial⟩ ?_
        refine tr_if (fun h13 => ?_) (fun h13 => ?_)
        · refine tr_icF (cd := .ne) (fun q => q h13) ?_
          refine tr_blk 4 (pc' := 86) (rows' := kb_244_48.drop 18) (loc' := [.inr (8, 0, 0, 49), .inl (.int x1), .inl (.int x2), .inl (.int x3), .inl (.int x4), d5]) (st' := [.inl (.int x4), .inl (.int (0 : Int32)), .inr (6, 0, 0, 43)]) (P1 := P) rfl ⟨trivial, trivial, trivial, trivial, trivial⟩ ?_
          refine tr_cRI (z := km_231) (av := [.inr (6, 0, 0, 43), .inl (.int (0 : Int32)), .inl (.int x4)]) (st' := []) rfl rfl rfl (Nat.le_of_ble_eq_true rfl) ⟨rfl, Or.inl (by decide)⟩ rfl (Nat.le_of_ble_eq_true rfl) (t_231 43 P (0 : Int32) x4) (fun v7 => ?_)
          refine tr_blk 1 (pc' := 90) (rows' := kb_244_48.drop 20) (loc' := [.inr (8, 0, 0, 49), .inl (.int x1), .inl (.int x2), .inl (.int x3), .inl (.int x4), d5]) (st' := [.inl (.int x2), .inl (.int v7)]) (P1 := P) rfl ⟨trivial, trivial⟩ ?_
          refine tr_if (fun h14 => ?_) (fun h14 => ?_)
          · refine tr_icT (cd := .eq) h14 ?_
            refine tr_nil (rows2 := kb_244_97) rfl (List.cons_ne_nil _ _) ?_
            refine tr_blk 1 (pc' := 98) (rows' := kb_244_97.drop 1) (loc' := [.inr (8, 0, 0, 49), .inl (.int x1), .inl (.int x2), .inl (.int x3), .inl (.int x4), d5]) (st' := [.inl (.int (0 : Int32))]) (P1 := P) rfl ⟨trivial, trivial⟩ ?_
            refine tr_nil (rows2 := kb_244_98) rfl (List.cons_ne_nil _ _) ?_
            refine tr_blk 2 (pc' := 102) (rows' := kb_244_98.drop 2) (loc' := [.inr (8, 0, 0, 49), .inl (.int x1), .inl (.int x2), .inl (.int x3), .inl (.int x4), .inl (.int (0 : Int32))]) (st' := [.inl (.int (0 : Int32))]) (P1 := P) rfl ⟨trivial, trivial, trivial⟩ ?_
            refine tr_ifT (cd := .eq) (ab_cdT (by decide)) ?_
            refine tr_nil (rows2 := kb_244_122) rfl (List.cons_ne_nil _ _) ?_
            refine tr_blk 1 (pc' := 125) (rows' := kb_244_122.drop 1) (loc' := [.inr (8, 0, 0, 49), .inl (.int x1), .inl (.int x2), .inl (.int x3), .inl (.int (x4 + (-1))), .inl (.int (0 : Int32))]) (st' := []) (P1 := P) rfl ⟨trivial, trivial⟩ ?_
            refine tr_goto ?_
            exact ih x1 x2 x3 (x4 + (-1)) (.inl (.int (0 : Int32))) P
          · refine tr_icF (cd := .eq) h14 ?_
            refine tr_blk 1 (pc' := 94) (rows' := kb_244_48.drop 22) (loc' := [.inr (8, 0, 0, 49), .inl (.int x1), .inl (.int x2), .inl (.int x3), .inl (.int x4), d5]) (st' := [.inl (.int (1 : Int32))]) (P1 := P) rfl ⟨trivial, trivial⟩ ?_
            refine tr_goto ?_
            refine tr_nil (rows2 := kb_244_98) rfl (List.cons_ne_nil _ _) ?_
            refine tr_blk 2 (pc' := 102) (rows' := kb_244_98.drop 2) (loc' := [.inr (8, 0, 0, 49), .inl (.int x1), .inl (.int x2), .inl (.int x3), .inl (.int x4), .inl (.int (1 : Int32))]) (st' := [.inl (.int (1 : Int32))]) (P1 := P) rfl ⟨trivial, trivial, trivial⟩ ?_
            refine tr_ifF (cd := .eq) (ab_cdF (by decide)) ?_
            refine tr_blk 6 (pc' := 115) (rows' := kb_244_98.drop 9) (loc' := [.inr (8, 0, 0, 49), .inl (.int x1), .inl (.int x2), .inl (.int x3), .inl (.int x4), .inl (.int (1 : Int32))]) (st' := [.inl (.int x4), .inl (.int (2 : Int32)), .inr (6, 0, 0, 43), .inl (.int x4), .inr (8, 0, 0, 49)]) (P1 := P) rfl ⟨trivial, trivial, trivial, trivial, trivial, trivial, trivial⟩ ?_
            refine tr_cRI (z := km_231) (av := [.inr (6, 0, 0, 43), .inl (.int (2 : Int32)), .inl (.int x4)]) (st' := [.inl (.int x4), .inr (8, 0, 0, 49)]) rfl rfl rfl (Nat.le_of_ble_eq_true rfl) ⟨rfl, Or.inl (by decide)⟩ rfl (Nat.le_of_ble_eq_true rfl) (t_231 43 P (2 : Int32) x4) (fun v8 => ?_)
            refine tr_blk 1 (pc' := 119) (rows' := kb_244_98.drop 11) (loc' := [.inr (8, 0, 0, 49), .inl (.int x1), .inl (.int x2), .inl (.int x3), .inl (.int x4), .inl (.int (1 : Int32))]) (st' := [.inl (.int x3), .inl (.int v8), .inl (.int x4), .inr (8, 0, 0, 49)]) (P1 := P) rfl ⟨trivial, trivial⟩ ?_
            refine tr_cWV (z := km_300) (av := [.inr (8, 0, 0, 49), .inl (.int x4), .inl (.int v8), .inl (.int x3)]) (st' := []) rfl rfl rfl (Nat.le_of_ble_eq_true rfl) ⟨rfl, Or.inl (by decide)⟩ rfl (Nat.le_of_ble_eq_true rfl) (t_300 N x4 v8 x3 P) (fun P9 => ?_)
            refine tr_nil (rows2 := kb_244_122) rfl (List.cons_ne_nil _ _) ?_
            refine tr_blk 1 (pc' := 125) (rows' := kb_244_122.drop 1) (loc' := [.inr (8, 0, 0, 49), .inl (.int x1), .inl (.int x2), .inl (.int x3), .inl (.int (x4 + (-1))), .inl (.int (1 : Int32))]) (st' := []) (P1 := P9) rfl ⟨trivial, trivial⟩ ?_
            refine tr_goto ?_
            exact ih x1 x2 x3 (x4 + (-1)) (.inl (.int (1 : Int32))) P9
        · refine tr_icT (cd := .ne) h13 ?_
          refine tr_nil (rows2 := kb_244_97) rfl (List.cons_ne_nil _ _) ?_
          refine tr_blk 1 (pc' := 98) (rows' := kb_244_97.drop 1) (loc' := [.inr (8, 0, 0, 49), .inl (.int x1), .inl (.int x2), .inl (.int x3), .inl (.int x4), d5]) (st' := [.inl (.int (0 : Int32))]) (P1 := P) rfl ⟨trivial, trivial⟩ ?_
          refine tr_nil (rows2 := kb_244_98) rfl (List.cons_ne_nil _ _) ?_
          refine tr_blk 2 (pc' := 102) (rows' := kb_244_98.drop 2) (loc' := [.inr (8, 0, 0, 49), .inl (.int x1), .inl (.int x2), .inl (.int x3), .inl (.int x4), .inl (.int (0 : Int32))]) (st' := [.inl (.int (0 : Int32))]) (P1 := P) rfl ⟨trivial, trivial, trivial⟩ ?_
          refine tr_ifT (cd := .eq) (ab_cdT (by decide)) ?_
          refine tr_nil (rows2 := kb_244_122) rfl (List.cons_ne_nil _ _) ?_
          refine tr_blk 1 (pc' := 125) (rows' := kb_244_122.drop 1) (loc' := [.inr (8, 0, 0, 49), .inl (.int x1), .inl (.int x2), .inl (.int x3), .inl (.int (x4 + (-1))), .inl (.int (0 : Int32))]) (st' := []) (P1 := P) rfl ⟨trivial, trivial⟩ ?_
          refine tr_goto ?_
          exact ih x1 x2 x3 (x4 + (-1)) (.inl (.int (0 : Int32))) P
def f_244 (N : Nat) (a1 : Int32) (a2 : Int32) (a3 : Int32) (P : ab_P) : Option (Int64 × ab_P) :=
    if a3 < (1 : Int32) then
      some ((0 : Int64), P)
    else
    if a3 < (1000 : Int32) then
      Option.bind (f_299_1000 N (0 : Int32) (a3 + (1 : Int32)) (-1 : Int64) P) fun P1 =>
      ab_lt (ab_pL P1 51 0 (0 : Int64)) fun P2 =>
      f_244_48 N N a1 a2 a3 ((P2.1 43 2) - (1 : Int32)) P2
    else
    some ((0 : Int64), P)
theorem t_244 {xs : Nat × (Nat → Int32)} {d : Nat} (N : Nat) : ∀ (a1 : Int32) (a2 : Int32) (a3 : Int32) (P : ab_P), ab_tr xs wL (d + 2) 244 0 [] [.inr (8, 0, 0, 49), .inl (.int a1), .inl (.int a2), .inl (.int a3), ab_top, ab_top] [] P (f_244 N a1 a2 a3 P) := by
  intro a1 a2 a3 P
  unfold f_244
  refine tr_nil (rows2 := kb_244_0) rfl (List.cons_ne_nil _ _) ?_
  refine tr_blk 2 (pc' := 2) (rows' := kb_244_0.drop 2) (loc' := [.inr (8, 0, 0, 49), .inl (.int a1), .inl (.int a2), .inl (.int a3), ab_top, ab_top]) (st' := [.inl (.int (1 : Int32)), .inl (.int a3)]) (P1 := P) rfl ⟨trivial, trivial, trivial⟩ ?_
  refine tr_if (fun h15 => ?_) (fun h15 => ?_)
  · refine tr_icT (cd := .lt) h15 ?_
    refine tr_nil (rows2 := kb_244_14) rfl (List.cons_ne_nil _ _) ?_
    refine tr_blk 1 (pc' := 15) (rows' := kb_244_14.drop 1) (loc' := [.inr (8, 0, 0, 49), .inl (.int a1), .inl (.int a2), .inl (.int a3), ab_top, ab_top]) (st' := [.inl (.long (0 : Int64))]) (P1 := P) rfl ⟨trivial, trivial⟩ ?_
    exact tr_reL (z := km_244) rfl rfl rfl
  · refine tr_icF (cd := .lt) h15 ?_
    refine tr_blk 4 (pc' := 11) (rows' := kb_244_0.drop 7) (loc' := [.inr (8, 0, 0, 49), .inl (.int a1), .inl (.int a2), .inl (.int a3), ab_top, ab_top]) (st' := [.inl (.int (1000 : Int32)), .inl (.int a3)]) (P1 := P) rfl ⟨trivial, trivial, trivial, (Or.inl (by decide)), trivial⟩ ?_
    refine tr_if (fun h16 => ?_) (fun h16 => ?_)
    · refine tr_icT (cd := .lt) h16 ?_
      refine tr_nil (rows2 := kb_244_16) rfl (List.cons_ne_nil _ _) ?_
      refine tr_blk 7 (pc' := 27) (rows' := kb_244_16.drop 7) (loc' := [.inr (8, 0, 0, 49), .inl (.int a1), .inl (.int a2), .inl (.int a3), ab_top, ab_top]) (st' := [.inl (.long (-1 : Int64)), .inl (.int (a3 + (1 : Int32))), .inl (.int (0 : Int32)), .inr (22, 1000, 0, 51)]) (P1 := P) rfl ⟨trivial, trivial, trivial, trivial, trivial, trivial, trivial, trivial⟩ ?_
      refine tr_cWV (z := km_299) (av := [.inr (22, 1000, 0, 51), .inl (.int (0 : Int32)), .inl (.int (a3 + (1 : Int32))), .inl (.long (-1 : Int64))]) (st' := []) rfl rfl rfl (Nat.le_of_ble_eq_true rfl) trivial rfl (Nat.le_of_ble_eq_true rfl) (t_299_1000 N (0 : Int32) (a3 + (1 : Int32)) (-1 : Int64) P) (fun P1 => ?_)
      refine tr_blk 5 (pc' := 37) (rows' := kb_244_16.drop 13) (loc' := [.inr (8, 0, 0, 49), .inl (.int a1), .inl (.int a2), .inl (.int a3), ab_top, ab_top]) (st' := []) (P1 := (ab_pL P1 51 0 (0 : Int64))) rfl ⟨trivial, trivial, trivial, trivial, (ab_vi (by decide)), trivial⟩ ?_
      refine tr_lt (fun P2 => ?_)
      refine tr_blk 6 (pc' := 48) (rows' := kb_244_16.drop 19) (loc' := [.inr (8, 0, 0, 49), .inl (.int a1), .inl (.int a2), .inl (.int a3), .inl (.int ((P2.1 43 2) - (1 : Int32))), ab_top]) (st' := []) (P1 := P2) rfl ⟨trivial, trivial, trivial, trivial, trivial, trivial, trivial⟩ ?_
      exact t_244_48 N N a1 a2 a3 ((P2.1 43 2) - (1 : Int32)) (ab_top) P2
    · refine tr_icF (cd := .lt) h16 ?_
      refine tr_nil (rows2 := kb_244_14) rfl (List.cons_ne_nil _ _) ?_
      refine tr_blk 1 (pc' := 15) (rows' := kb_244_14.drop 1) (loc' := [.inr (8, 0, 0, 49), .inl (.int a1), .inl (.int a2), .inl (.int a3), ab_top, ab_top]) (st' := [.inl (.long (0 : Int64))]) (P1 := P) rfl ⟨trivial, trivial⟩ ?_
      exact tr_reL (z := km_244) rfl rfl rfl
def f_341_3 : Nat → Int64 → Int32 → Int32 → ab_P → Option (Int32 × ab_P)
  | 0, _, _, _, _ => none
  | n + 1, x1, x3, x4, P =>
    if x4 < (40 : Int32) then
      if (lg_cmp (((x1).toUInt64 >>> ((x4).toInt64.toUInt64 &&& Int64.toUInt64 63)).toInt64 &&& (1 : Int64)) (0 : Int64)) = (0 : Int32) then
        f_341_3 n x1 x3 (x4 + 1) P
      else
      ab_b2 (f_335 43 x4 x3 P) fun v2 P1 =>
      f_341_3 n x1 x3 (x4 + 1) P1
    else
    if (lg_cmp x1 (0 : Int64)) = (0 : Int32) then
      some ((0 : Int32), P)
    else
    some ((1 : Int32), P)
theorem t_341_3 {xs : Nat × (Nat → Int32)} {d : Nat} : ∀ n : Nat, ∀ (x1 : Int64) (x3 : Int32) (x4 : Int32) (P : ab_P), ab_tr xs wI (d + 4) 341 3 [] [.inr (2, 0, 0, 52), .inl (.long x1), ab_top, .inl (.int x3), .inl (.int x4)] [] P (f_341_3 n x1 x3 x4 P) := by
  intro n
  induction n with
  | zero => intro x1 x3 x4 P; exact tr_no
  | succ n ih =>
    intro x1 x3 x4 P
    refine tr_nil (rows2 := kb_341_3) rfl (List.cons_ne_nil _ _) ?_
    refine tr_blk 2 (pc' := 7) (rows' := kb_341_3.drop 2) (loc' := [.inr (2, 0, 0, 52), .inl (.long x1), ab_top, .inl (.int x3), .inl (.int x4)]) (st' := [.inl (.int (40 : Int32)), .inl (.int x4)]) (P1 := P) rfl ⟨trivial, trivial, trivial⟩ ?_
    refine tr_if (fun h3 => ?_) (fun h3 => ?_)
    · refine tr_icF (cd := .ge) (Int32.not_le.mpr h3) ?_
      refine tr_blk 7 (pc' := 18) (rows' := kb_341_3.drop 10) (loc' := [.inr (2, 0, 0, 52), .inl (.long x1), ab_top, .inl (.int x3), .inl (.int x4)]) (st' := [.inl (.int (lg_cmp (((x1).toUInt64 >>> ((x4).toInt64.toUInt64 &&& Int64.toUInt64 63)).toInt64 &&& (1 : Int64)) (0 : Int64)))]) (P1 := P) rfl ⟨trivial, trivial, trivial, trivial, trivial, trivial, trivial, trivial⟩ ?_
      refine tr_if (fun h5 => ?_) (fun h5 => ?_)
      · refine tr_ifT (cd := .eq) h5 ?_
        refine tr_nil (rows2 := kb_341_32) rfl (List.cons_ne_nil _ _) ?_
        refine tr_blk 1 (pc' := 35) (rows' := kb_341_32.drop 1) (loc' := [.inr (2, 0, 0, 52), .inl (.long x1), ab_top, .inl (.int x3), .inl (.int (x4 + 1))]) (st' := []) (P1 := P) rfl ⟨trivial, trivial⟩ ?_
        refine tr_goto ?_
        exact ih x1 x3 (x4 + 1) P
      · refine tr_ifF (cd := .eq) h5 ?_
        refine tr_blk 4 (pc' := 28) (rows' := kb_341_3.drop 15) (loc' := [.inr (2, 0, 0, 52), .inl (.long x1), ab_top, .inl (.int x3), .inl (.int x4)]) (st' := [.inl (.int x3), .inl (.int x4), .inr (6, 0, 0, 43)]) (P1 := P) rfl ⟨trivial, trivial, trivial, trivial, trivial⟩ ?_
        refine tr_cWI (z := km_335) (av := [.inr (6, 0, 0, 43), .inl (.int x4), .inl (.int x3)]) (st' := []) rfl rfl rfl (Nat.le_of_ble_eq_true rfl) ⟨rfl, Or.inl (by decide)⟩ rfl (Nat.le_of_ble_eq_true rfl) (t_335 43 x4 x3 P) (fun v2 P1 => ?_)
        refine tr_blk 1 (pc' := 32) (rows' := kb_341_3.drop 17) (loc' := [.inr (2, 0, 0, 52), .inl (.long x1), ab_top, .inl (.int x3), .inl (.int x4)]) (st' := []) (P1 := P1) rfl ⟨trivial, trivial⟩ ?_
        refine tr_nil (rows2 := kb_341_32) rfl (List.cons_ne_nil _ _) ?_
        refine tr_blk 1 (pc' := 35) (rows' := kb_341_32.drop 1) (loc' := [.inr (2, 0, 0, 52), .inl (.long x1), ab_top, .inl (.int x3), .inl (.int (x4 + 1))]) (st' := []) (P1 := P1) rfl ⟨trivial, trivial⟩ ?_
        refine tr_goto ?_
        exact ih x1 x3 (x4 + 1) P1
    · refine tr_icT (cd := .ge) (Int32.not_lt.mp h3) ?_
      refine tr_nil (rows2 := kb_341_38) rfl (List.cons_ne_nil _ _) ?_
      refine tr_blk 3 (pc' := 41) (rows' := kb_341_38.drop 3) (loc' := [.inr (2, 0, 0, 52), .inl (.long x1), ab_top, .inl (.int x3), .inl (.int x4)]) (st' := [.inl (.int (lg_cmp x1 (0 : Int64)))]) (P1 := P) rfl ⟨trivial, trivial, trivial, trivial⟩ ?_
      refine tr_if (fun h4 => ?_) (fun h4 => ?_)
      · refine tr_ifT (cd := .eq) h4 ?_
        refine tr_nil (rows2 := kb_341_48) rfl (List.cons_ne_nil _ _) ?_
        refine tr_blk 1 (pc' := 49) (rows' := kb_341_48.drop 1) (loc' := [.inr (2, 0, 0, 52), .inl (.long x1), ab_top, .inl (.int x3), .inl (.int x4)]) (st' := [.inl (.int (0 : Int32))]) (P1 := P) rfl ⟨trivial, trivial⟩ ?_
        refine tr_nil (rows2 := kb_341_49) rfl (List.cons_ne_nil _ _) ?_
        exact tr_reI (z := km_341) rfl ⟨_, rfl, rfl⟩ rfl
      · refine tr_ifF (cd := .eq) h4 ?_
        refine tr_blk 1 (pc' := 45) (rows' := kb_341_38.drop 5) (loc' := [.inr (2, 0, 0, 52), .inl (.long x1), ab_top, .inl (.int x3), .inl (.int x4)]) (st' := [.inl (.int (1 : Int32))]) (P1 := P) rfl ⟨trivial, trivial⟩ ?_
        refine tr_goto ?_
        refine tr_nil (rows2 := kb_341_49) rfl (List.cons_ne_nil _ _) ?_
        exact tr_reI (z := km_341) rfl ⟨_, rfl, rfl⟩ rfl
def f_341 (N : Nat) (a1 : Int64) (a3 : Int32) (P : ab_P) : Option (Int32 × ab_P) :=
    f_341_3 N a1 a3 (0 : Int32) P
theorem t_341 {xs : Nat × (Nat → Int32)} {d : Nat} (N : Nat) : ∀ (a1 : Int64) (a3 : Int32) (P : ab_P), ab_tr xs wI (d + 4) 341 0 [] [.inr (2, 0, 0, 52), .inl (.long a1), ab_top, .inl (.int a3), ab_top] [] P (f_341 N a1 a3 P) := by
  intro a1 a3 P
  unfold f_341
  refine tr_nil (rows2 := kb_341_0) rfl (List.cons_ne_nil _ _) ?_
  refine tr_blk 2 (pc' := 3) (rows' := kb_341_0.drop 2) (loc' := [.inr (2, 0, 0, 52), .inl (.long a1), ab_top, .inl (.int a3), .inl (.int (0 : Int32))]) (st' := []) (P1 := P) rfl ⟨trivial, trivial, trivial⟩ ?_
  exact t_341_3 N a1 a3 (0 : Int32) P
def f_293 (N : Nat) (a1 : Int32) (a2 : Int32) (a3 : Int32) (a4 : Int32) (P : ab_P) : Option (Int32 × ab_P) :=
    if a1 = 0 then
      ab_lt (ab_pI P 43 3 ((P.1 43 3) + a2)) fun P1 =>
      some ((1 : Int32), P1)
    else
    if a1 = 1 then
      ab_b2 (f_285 43 a2 a3 a4 (1 : Int32) P) fun v3 P2 =>
      if vp_nar .boolean v3 = v3 then
      some (v3, P2)
      else none
    else
    if a1 = 2 then
      ab_b2 (f_335 43 a2 a3 P) fun v6 P5 =>
      if vp_nar .boolean v6 = v6 then
      some (v6, P5)
      else none
    else
    if a1 = 3 then
      ab_b2 (f_336 43 N a2 a3 P) fun v9 P8 =>
      if vp_nar .boolean v9 = v9 then
      some (v9, P8)
      else none
    else
    if a1 = 4 then
      ab_b2 (f_337 43 a2 a3 P) fun v12 P11 =>
      if vp_nar .boolean v12 = v12 then
      some (v12, P11)
      else none
    else
    if a1 = 5 then
      ab_b2 (f_338 43 N a2 (P.1 3 7) P) fun v15 P14 =>
      if vp_nar .boolean v15 = v15 then
      some (v15, P14)
      else none
    else
    if a1 = 6 then
      ab_b2 (f_243 N a2 P) fun v18 P17 =>
      if v18 = (0 : Int32) then
        some ((0 : Int32), P17)
      else
      ab_b2 (f_339 43 a2 (1 : Int32) P17) fun v20 P19 =>
      if v20 = (0 : Int32) then
        some ((0 : Int32), P19)
      else
      some ((1 : Int32), P19)
    else
    if a1 = 7 then
      ab_b2 (f_340 a2 a3 P) fun v22 P21 =>
      if vp_nar .boolean v22 = v22 then
      some (v22, P21)
      else none
    else
    if a1 = 8 then
      ab_b2 (f_339 43 a2 (2 : Int32) P) fun v25 P24 =>
      if vp_nar .boolean v25 = v25 then
      some (v25, P24)
      else none
    else
    ab_b2 (f_244 N a2 a3 a4 P) fun v28 P27 =>
    ab_b2 (f_341 N v28 a3 P27) fun v30 P29 =>
    if vp_nar .boolean v30 = v30 then
    some (v30, P29)
    else none
theorem t_293 {xs : Nat × (Nat → Int32)} {d : Nat} (N : Nat) : ∀ (a1 : Int32) (a2 : Int32) (a3 : Int32) (a4 : Int32) (P : ab_P), ab_tr xs wI (d + 5) 293 0 [] [.inr (2, 0, 0, 52), .inl (.int a1), .inl (.int a2), .inl (.int a3), .inl (.int a4)] [] P (f_293 N a1 a2 a3 a4 P) := by
  intro a1 a2 a3 a4 P
  unfold f_293
  refine tr_nil (rows2 := kb_293_0) rfl (List.cons_ne_nil _ _) ?_
  refine tr_blk 1 (pc' := 1) (rows' := kb_293_0.drop 1) (loc' := [.inr (2, 0, 0, 52), .inl (.int a1), .inl (.int a2), .inl (.int a3), .inl (.int a4)]) (st' := [.inl (.int a1)]) (P1 := P) rfl ⟨trivial, trivial⟩ ?_
  refine tr_if (fun h32 => ?_) (fun h32 => ?_)
  · refine tr_sw (t := 52) (by rw [h32]; rfl) ?_
    refine tr_nil (rows2 := kb_293_52) rfl (List.cons_ne_nil _ _) ?_
    refine tr_blk 7 (pc' := 65) (rows' := kb_293_52.drop 7) (loc' := [.inr (2, 0, 0, 52), .inl (.int a1), .inl (.int a2), .inl (.int a3), .inl (.int a4)]) (st' := []) (P1 := (ab_pI P 43 3 ((P.1 43 3) + a2))) rfl ⟨trivial, trivial, trivial, trivial, trivial, trivial, trivial, trivial⟩ ?_
    refine tr_lt (fun P1 => ?_)
    refine tr_blk 1 (pc' := 66) (rows' := kb_293_52.drop 8) (loc' := [.inr (2, 0, 0, 52), .inl (.int a1), .inl (.int a2), .inl (.int a3), .inl (.int a4)]) (st' := [.inl (.int (1 : Int32))]) (P1 := P1) rfl ⟨trivial, trivial⟩ ?_
    exact tr_reI (z := km_293) rfl ⟨_, rfl, rfl⟩ rfl
  refine tr_if (fun h33 => ?_) (fun h33 => ?_)
  · refine tr_sw (t := 67) (by rw [h33]; rfl) ?_
    refine tr_nil (rows2 := kb_293_67) rfl (List.cons_ne_nil _ _) ?_
    refine tr_blk 6 (pc' := 76) (rows' := kb_293_67.drop 6) (loc' := [.inr (2, 0, 0, 52), .inl (.int a1), .inl (.int a2), .inl (.int a3), .inl (.int a4)]) (st' := [.inl (.int (1 : Int32)), .inl (.int a4), .inl (.int a3), .inl (.int a2), .inr (6, 0, 0, 43)]) (P1 := P) rfl ⟨trivial, trivial, trivial, trivial, trivial, trivial, trivial⟩ ?_
    refine tr_cWI (z := km_285) (av := [.inr (6, 0, 0, 43), .inl (.int a2), .inl (.int a3), .inl (.int a4), .inl (.int (1 : Int32))]) (st' := []) rfl rfl rfl (Nat.le_of_ble_eq_true rfl) ⟨rfl, Or.inl (by decide)⟩ rfl (Nat.le_of_ble_eq_true rfl) (t_285 43 a2 a3 a4 (1 : Int32) P) (fun v3 P2 => ?_)
    refine tr_gd (fun h4 => ?_)
    exact tr_reI (z := km_293) rfl ⟨_, rfl, ab_nar (by decide) h4⟩ rfl
  refine tr_if (fun h34 => ?_) (fun h34 => ?_)
  · refine tr_sw (t := 80) (by rw [h34]; rfl) ?_
    refine tr_nil (rows2 := kb_293_80) rfl (List.cons_ne_nil _ _) ?_
    refine tr_blk 4 (pc' := 86) (rows' := kb_293_80.drop 4) (loc' := [.inr (2, 0, 0, 52), .inl (.int a1), .inl (.int a2), .inl (.int a3), .inl (.int a4)]) (st' := [.inl (.int a3), .inl (.int a2), .inr (6, 0, 0, 43)]) (P1 := P) rfl ⟨trivial, trivial, trivial, trivial, trivial⟩ ?_
    refine tr_cWI (z := km_335) (av := [.inr (6, 0, 0, 43), .inl (.int a2), .inl (.int a3)]) (st' := []) rfl rfl rfl (Nat.le_of_ble_eq_true rfl) ⟨rfl, Or.inl (by decide)⟩ rfl (Nat.le_of_ble_eq_true rfl) (t_335 43 a2 a3 P) (fun v6 P5 => ?_)
    refine tr_gd (fun h7 => ?_)
    exact tr_reI (z := km_293) rfl ⟨_, rfl, ab_nar (by decide) h7⟩ rfl
  refine tr_if (fun h35 => ?_) (fun h35 => ?_)
  · refine tr_sw (t := 90) (by rw [h35]; rfl) ?_
    refine tr_nil (rows2 := kb_293_90) rfl (List.cons_ne_nil _ _) ?_
    refine tr_blk 4 (pc' := 96) (rows' := kb_293_90.drop 4) (loc' := [.inr (2, 0, 0, 52), .inl (.int a1), .inl (.int a2), .inl (.int a3), .inl (.int a4)]) (st' := [.inl (.int a3), .inl (.int a2), .inr (6, 0, 0, 43)]) (P1 := P) rfl ⟨trivial, trivial, trivial, trivial, trivial⟩ ?_
    refine tr_cWI (z := km_336) (av := [.inr (6, 0, 0, 43), .inl (.int a2), .inl (.int a3)]) (st' := []) rfl rfl rfl (Nat.le_of_ble_eq_true rfl) ⟨rfl, Or.inl (by decide)⟩ rfl (Nat.le_of_ble_eq_true rfl) (t_336 43 N a2 a3 P) (fun v9 P8 => ?_)
    refine tr_gd (fun h10 => ?_)
    exact tr_reI (z := km_293) rfl ⟨_, rfl, ab_nar (by decide) h10⟩ rfl
  refine tr_if (fun h36 => ?_) (fun h36 => ?_)
  · refine tr_sw (t := 100) (by rw [h36]; rfl) ?_
    refine tr_nil (rows2 := kb_293_100) rfl (List.cons_ne_nil _ _) ?_
    refine tr_blk 4 (pc' := 106) (rows' := kb_293_100.drop 4) (loc' := [.inr (2, 0, 0, 52), .inl (.int a1), .inl (.int a2), .inl (.int a3), .inl (.int a4)]) (st' := [.inl (.int a3), .inl (.int a2), .inr (6, 0, 0, 43)]) (P1 := P) rfl ⟨trivial, trivial, trivial, trivial, trivial⟩ ?_
    refine tr_cWI (z := km_337) (av := [.inr (6, 0, 0, 43), .inl (.int a2), .inl (.int a3)]) (st' := []) rfl rfl rfl (Nat.le_of_ble_eq_true rfl) ⟨rfl, Or.inl (by decide)⟩ rfl (Nat.le_of_ble_eq_true rfl) (t_337 43 a2 a3 P) (fun v12 P11 => ?_)
    refine tr_gd (fun h13 => ?_)
    exact tr_reI (z := km_293) rfl ⟨_, rfl, ab_nar (by decide) h13⟩ rfl
  refine tr_if (fun h37 => ?_) (fun h37 => ?_)
  · refine tr_sw (t := 110) (by rw [h37]; rfl) ?_
    refine tr_nil (rows2 := kb_293_110) rfl (List.cons_ne_nil _ _) ?_
    refine tr_blk 6 (pc' := 122) (rows' := kb_293_110.drop 6) (loc' := [.inr (2, 0, 0, 52), .inl (.int a1), .inl (.int a2), .inl (.int a3), .inl (.int a4)]) (st' := [.inl (.int (P.1 3 7)), .inl (.int a2), .inr (6, 0, 0, 43)]) (P1 := P) rfl ⟨trivial, trivial, trivial, trivial, trivial, trivial, trivial⟩ ?_
    refine tr_cWI (z := km_338) (av := [.inr (6, 0, 0, 43), .inl (.int a2), .inl (.int (P.1 3 7))]) (st' := []) rfl rfl rfl (Nat.le_of_ble_eq_true rfl) ⟨rfl, Or.inl (by decide)⟩ rfl (Nat.le_of_ble_eq_true rfl) (t_338 43 N a2 (P.1 3 7) P) (fun v15 P14 => ?_)
    refine tr_gd (fun h16 => ?_)
    exact tr_reI (z := km_293) rfl ⟨_, rfl, ab_nar (by decide) h16⟩ rfl
  refine tr_if (fun h38 => ?_) (fun h38 => ?_)
  · refine tr_sw (t := 126) (by rw [h38]; rfl) ?_
    refine tr_nil (rows2 := kb_293_126) rfl (List.cons_ne_nil _ _) ?_
    refine tr_blk 3 (pc' := 131) (rows' := kb_293_126.drop 3) (loc' := [.inr (2, 0, 0, 52), .inl (.int a1), .inl (.int a2), .inl (.int a3), .inl (.int a4)]) (st' := [.inl (.int a2), .inr (4, 0, 0, 46)]) (P1 := P) rfl ⟨trivial, trivial, trivial, trivial⟩ ?_
    refine tr_cWI (z := km_243) (av := [.inr (4, 0, 0, 46), .inl (.int a2)]) (st' := []) rfl rfl rfl (Nat.le_of_ble_eq_true rfl) ⟨rfl, Or.inl (by decide)⟩ rfl (Nat.le_of_ble_eq_true rfl) (t_243 N a2 P) (fun v18 P17 => ?_)
    refine tr_if (fun h39 => ?_) (fun h39 => ?_)
    · refine tr_ifT (cd := .eq) h39 ?_
      refine tr_nil (rows2 := kb_293_153) rfl (List.cons_ne_nil _ _) ?_
      refine tr_blk 1 (pc' := 154) (rows' := kb_293_153.drop 1) (loc' := [.inr (2, 0, 0, 52), .inl (.int a1), .inl (.int a2), .inl (.int a3), .inl (.int a4)]) (st' := [.inl (.int (0 : Int32))]) (P1 := P17) rfl ⟨trivial, trivial⟩ ?_
      refine tr_nil (rows2 := kb_293_154) rfl (List.cons_ne_nil _ _) ?_
      exact tr_reI (z := km_293) rfl ⟨_, rfl, rfl⟩ rfl
    · refine tr_ifF (cd := .eq) h39 ?_
      refine tr_blk 4 (pc' := 143) (rows' := kb_293_126.drop 9) (loc' := [.inr (2, 0, 0, 52), .inl (.int a1), .inl (.int a2), .inl (.int a3), .inl (.int a4)]) (st' := [.inl (.int (1 : Int32)), .inl (.int a2), .inr (6, 0, 0, 43)]) (P1 := P17) rfl ⟨trivial, trivial, trivial, trivial, trivial⟩ ?_
      refine tr_cWI (z := km_339) (av := [.inr (6, 0, 0, 43), .inl (.int a2), .inl (.int (1 : Int32))]) (st' := []) rfl rfl rfl (Nat.le_of_ble_eq_true rfl) ⟨rfl, Or.inl (by decide)⟩ rfl (Nat.le_of_ble_eq_true rfl) (t_339 43 a2 (1 : Int32) P17) (fun v20 P19 => ?_)
      refine tr_if (fun h40 => ?_) (fun h40 => ?_)
      · refine tr_ifT (cd := .eq) h40 ?_
        refine tr_nil (rows2 := kb_293_153) rfl (List.cons_ne_nil _ _) ?_
        refine tr_blk 1 (pc' := 154) (rows' := kb_293_153.drop 1) (loc' := [.inr (2, 0, 0, 52), .inl (.int a1), .inl (.int a2), .inl (.int a3), .inl (.int a4)]) (st' := [.inl (.int (0 : Int32))]) (P1 := P19) rfl ⟨trivial, trivial⟩ ?_
        refine tr_nil (rows2 := kb_293_154) rfl (List.cons_ne_nil _ _) ?_
        exact tr_reI (z := km_293) rfl ⟨_, rfl, rfl⟩ rfl
      · refine tr_ifF (cd := .eq) h40 ?_
        refine tr_blk 1 (pc' := 150) (rows' := kb_293_126.drop 12) (loc' := [.inr (2, 0, 0, 52), .inl (.int a1), .inl (.int a2), .inl (.int a3), .inl (.int a4)]) (st' := [.inl (.int (1 : Int32))]) (P1 := P19) rfl ⟨trivial, trivial⟩ ?_
        refine tr_goto ?_
        refine tr_nil (rows2 := kb_293_154) rfl (List.cons_ne_nil _ _) ?_
        exact tr_reI (z := km_293) rfl ⟨_, rfl, rfl⟩ rfl
  refine tr_if (fun h41 => ?_) (fun h41 => ?_)
  · refine tr_sw (t := 155) (by rw [h41]; rfl) ?_
    refine tr_nil (rows2 := kb_293_155) rfl (List.cons_ne_nil _ _) ?_
    refine tr_blk 3 (pc' := 158) (rows' := kb_293_155.drop 3) (loc' := [.inr (2, 0, 0, 52), .inl (.int a1), .inl (.int a2), .inl (.int a3), .inl (.int a4)]) (st' := [.inl (.int a3), .inl (.int a2), .inr (2, 0, 0, 52)]) (P1 := P) rfl ⟨trivial, trivial, trivial, trivial⟩ ?_
    refine tr_cWI (z := km_340) (av := [.inr (2, 0, 0, 52), .inl (.int a2), .inl (.int a3)]) (st' := []) rfl rfl rfl (Nat.le_of_ble_eq_true rfl) ⟨rfl, Or.inl (by decide)⟩ rfl (Nat.le_of_ble_eq_true rfl) (t_340 a2 a3 P) (fun v22 P21 => ?_)
    refine tr_gd (fun h23 => ?_)
    exact tr_reI (z := km_293) rfl ⟨_, rfl, ab_nar (by decide) h23⟩ rfl
  refine tr_if (fun h42 => ?_) (fun h42 => ?_)
  · refine tr_sw (t := 162) (by rw [h42]; rfl) ?_
    refine tr_nil (rows2 := kb_293_162) rfl (List.cons_ne_nil _ _) ?_
    refine tr_blk 4 (pc' := 168) (rows' := kb_293_162.drop 4) (loc' := [.inr (2, 0, 0, 52), .inl (.int a1), .inl (.int a2), .inl (.int a3), .inl (.int a4)]) (st' := [.inl (.int (2 : Int32)), .inl (.int a2), .inr (6, 0, 0, 43)]) (P1 := P) rfl ⟨trivial, trivial, trivial, trivial, trivial⟩ ?_
    refine tr_cWI (z := km_339) (av := [.inr (6, 0, 0, 43), .inl (.int a2), .inl (.int (2 : Int32))]) (st' := []) rfl rfl rfl (Nat.le_of_ble_eq_true rfl) ⟨rfl, Or.inl (by decide)⟩ rfl (Nat.le_of_ble_eq_true rfl) (t_339 43 a2 (2 : Int32) P) (fun v25 P24 => ?_)
    refine tr_gd (fun h26 => ?_)
    exact tr_reI (z := km_293) rfl ⟨_, rfl, ab_nar (by decide) h26⟩ rfl
  refine tr_sw (t := 172) (ab_swd (k := 9) (by decide) rfl ⟨ab_nei h32 (by decide), ab_nei h33 (by decide), ab_nei h34 (by decide), ab_nei h35 (by decide), ab_nei h36 (by decide), ab_nei h37 (by decide), ab_nei h38 (by decide), ab_nei h41 (by decide), ab_nei h42 (by decide), trivial⟩) ?_
  refine tr_nil (rows2 := kb_293_172) rfl (List.cons_ne_nil _ _) ?_
  refine tr_blk 6 (pc' := 181) (rows' := kb_293_172.drop 6) (loc' := [.inr (2, 0, 0, 52), .inl (.int a1), .inl (.int a2), .inl (.int a3), .inl (.int a4)]) (st' := [.inl (.int a4), .inl (.int a3), .inl (.int a2), .inr (8, 0, 0, 49), .inr (2, 0, 0, 52)]) (P1 := P) rfl ⟨trivial, trivial, trivial, trivial, trivial, trivial, trivial⟩ ?_
  refine tr_cWL (z := km_244) (av := [.inr (8, 0, 0, 49), .inl (.int a2), .inl (.int a3), .inl (.int a4)]) (st' := [.inr (2, 0, 0, 52)]) rfl rfl rfl (Nat.le_of_ble_eq_true rfl) ⟨rfl, Or.inl (by decide)⟩ rfl (Nat.le_of_ble_eq_true rfl) (t_244 N a2 a3 a4 P) (fun v28 P27 => ?_)
  refine tr_blk 1 (pc' := 185) (rows' := kb_293_172.drop 8) (loc' := [.inr (2, 0, 0, 52), .inl (.int a1), .inl (.int a2), .inl (.int a3), .inl (.int a4)]) (st' := [.inl (.int a3), .inl (.long v28), .inr (2, 0, 0, 52)]) (P1 := P27) rfl ⟨trivial, trivial⟩ ?_
  refine tr_cWI (z := km_341) (av := [.inr (2, 0, 0, 52), .inl (.long v28), .inl (.int a3)]) (st' := []) rfl rfl rfl (Nat.le_of_ble_eq_true rfl) ⟨rfl, Or.inl (by decide)⟩ rfl (Nat.le_of_ble_eq_true rfl) (t_341 N v28 a3 P27) (fun v30 P29 => ?_)
  refine tr_gd (fun h31 => ?_)
  exact tr_reI (z := km_293) rfl ⟨_, rfl, ab_nar (by decide) h31⟩ rfl
def f_216_4 (N : Nat) : Nat → Int32 → Int32 → ab_P → Option (Int32 × ab_P)
  | 0, _, _, _ => none
  | n + 1, x1, x2, P =>
    if x2 < (P.1 52 5) then
      if x2 < (30 : Int32) then
        if ab_gi (x2 * (4 : Int32)) 120 then
        if ab_gi ((x2 * (4 : Int32)) + (1 : Int32)) 120 then
        if ab_gi ((x2 * (4 : Int32)) + (2 : Int32)) 120 then
        if ab_gi ((x2 * (4 : Int32)) + (3 : Int32)) 120 then
        ab_b2 (f_293 N (P.1 53 ((x2 * (4 : Int32))).toNatClampNeg) (P.1 53 (((x2 * (4 : Int32)) + (1 : Int32))).toNatClampNeg) (P.1 53 (((x2 * (4 : Int32)) + (2 : Int32))).toNatClampNeg) (P.1 53 (((x2 * (4 : Int32)) + (3 : Int32))).toNatClampNeg) P) fun v8 P7 =>
        if v8 = (0 : Int32) then
          f_216_4 N n (x1 + (0 : Int32)) (x2 + 1) P7
        else
        f_216_4 N n (x1 + (1 : Int32)) (x2 + 1) P7
        else none
        else none
        else none
        else none
      else
      ab_lt (ab_pI P 52 6 ((P.1 52 5) - x1)) fun P2 =>
      some (x1, P2)
    else
    ab_lt (ab_pI P 52 6 ((P.1 52 5) - x1)) fun P1 =>
    some (x1, P1)
theorem t_216_4 {xs : Nat × (Nat → Int32)} {d : Nat} (N : Nat) : ∀ n : Nat, ∀ (x1 : Int32) (x2 : Int32) (d3 : ab_V) (P : ab_P), ab_tr xs wI (d + 6) 216 4 [] [.inr (2, 0, 0, 52), .inl (.int x1), .inl (.int x2), d3] [] P (f_216_4 N n x1 x2 P) := by
  intro n
  induction n with
  | zero => intro x1 x2 d3 P; exact tr_no
  | succ n ih =>
    intro x1 x2 d3 P
    refine tr_nil (rows2 := kb_216_4) rfl (List.cons_ne_nil _ _) ?_
    refine tr_blk 3 (pc' := 9) (rows' := kb_216_4.drop 3) (loc' := [.inr (2, 0, 0, 52), .inl (.int x1), .inl (.int x2), d3]) (st' := [.inl (.int (P.1 52 5)), .inl (.int x2)]) (P1 := P) rfl ⟨trivial, trivial, trivial, trivial⟩ ?_
    refine tr_if (fun h9 => ?_) (fun h9 => ?_)
    · refine tr_icF (cd := .ge) (Int32.not_le.mpr h9) ?_
      refine tr_blk 2 (pc' := 15) (rows' := kb_216_4.drop 6) (loc' := [.inr (2, 0, 0, 52), .inl (.int x1), .inl (.int x2), d3]) (st' := [.inl (.int (30 : Int32)), .inl (.int x2)]) (P1 := P) rfl ⟨trivial, trivial, trivial⟩ ?_
      refine tr_if (fun h10 => ?_) (fun h10 => ?_)
      · refine tr_icF (cd := .ge) (Int32.not_le.mpr h10) ?_
        refine tr_gd (fun h3 => ?_)
        refine tr_gd (fun h4 => ?_)
        refine tr_gd (fun h5 => ?_)
        refine tr_gd (fun h6 => ?_)
        refine tr_blk 28 (pc' := 54) (rows' := kb_216_4.drop 35) (loc' := [.inr (2, 0, 0, 52), .inl (.int x1), .inl (.int x2), .inl (.int (x2 * (4 : Int32)))]) (st' := [.inl (.int (P.1 53 (((x2 * (4 : Int32)) + (3 : Int32))).toNatClampNeg)), .inl (.int (P.1 53 (((x2 * (4 : Int32)) + (2 : Int32))).toNatClampNeg)), .inl (.int (P.1 53 (((x2 * (4 : Int32)) + (1 : Int32))).toNatClampNeg)), .inl (.int (P.1 53 ((x2 * (4 : Int32))).toNatClampNeg)), .inr (2, 0, 0, 52), .inl (.int x1)]) (P1 := P) rfl ⟨trivial, trivial, trivial, trivial, trivial, trivial, trivial, trivial, trivial, h3, trivial, trivial, trivial, trivial, trivial, h4, trivial, trivial, trivial, trivial, trivial, h5, trivial, trivial, trivial, trivial, trivial, h6, trivial⟩ ?_
        refine tr_cWI (z := km_293) (av := [.inr (2, 0, 0, 52), .inl (.int (P.1 53 ((x2 * (4 : Int32))).toNatClampNeg)), .inl (.int (P.1 53 (((x2 * (4 : Int32)) + (1 : Int32))).toNatClampNeg)), .inl (.int (P.1 53 (((x2 * (4 : Int32)) + (2 : Int32))).toNatClampNeg)), .inl (.int (P.1 53 (((x2 * (4 : Int32)) + (3 : Int32))).toNatClampNeg))]) (st' := [.inl (.int x1)]) rfl rfl rfl (Nat.le_of_ble_eq_true rfl) ⟨rfl, Or.inl (by decide)⟩ rfl (Nat.le_of_ble_eq_true rfl) (t_293 N (P.1 53 ((x2 * (4 : Int32))).toNatClampNeg) (P.1 53 (((x2 * (4 : Int32)) + (1 : Int32))).toNatClampNeg) (P.1 53 (((x2 * (4 : Int32)) + (2 : Int32))).toNatClampNeg) (P.1 53 (((x2 * (4 : Int32)) + (3 : Int32))).toNatClampNeg) P) (fun v8 P7 => ?_)
        refine tr_if (fun h11 => ?_) (fun h11 => ?_)
        · refine tr_ifT (cd := .eq) h11 ?_
          refine tr_nil (rows2 := kb_216_64) rfl (List.cons_ne_nil _ _) ?_
          refine tr_blk 1 (pc' := 65) (rows' := kb_216_64.drop 1) (loc' := [.inr (2, 0, 0, 52), .inl (.int x1), .inl (.int x2), .inl (.int (x2 * (4 : Int32)))]) (st' := [.inl (.int (0 : Int32)), .inl (.int x1)]) (P1 := P7) rfl ⟨trivial, trivial⟩ ?_
          refine tr_nil (rows2 := kb_216_65) rfl (List.cons_ne_nil _ _) ?_
          refine tr_blk 3 (pc' := 70) (rows' := kb_216_65.drop 3) (loc' := [.inr (2, 0, 0, 52), .inl (.int (x1 + (0 : Int32))), .inl (.int (x2 + 1)), .inl (.int (x2 * (4 : Int32)))]) (st' := []) (P1 := P7) rfl ⟨trivial, trivial, trivial, trivial⟩ ?_
          refine tr_goto ?_
          exact ih (x1 + (0 : Int32)) (x2 + 1) (.inl (.int (x2 * (4 : Int32)))) P7
        · refine tr_ifF (cd := .eq) h11 ?_
          refine tr_blk 1 (pc' := 61) (rows' := kb_216_4.drop 38) (loc' := [.inr (2, 0, 0, 52), .inl (.int x1), .inl (.int x2), .inl (.int (x2 * (4 : Int32)))]) (st' := [.inl (.int (1 : Int32)), .inl (.int x1)]) (P1 := P7) rfl ⟨trivial, trivial⟩ ?_
          refine tr_goto ?_
          refine tr_nil (rows2 := kb_216_65) rfl (List.cons_ne_nil _ _) ?_
          refine tr_blk 3 (pc' := 70) (rows' := kb_216_65.drop 3) (loc' := [.inr (2, 0, 0, 52), .inl (.int (x1 + (1 : Int32))), .inl (.int (x2 + 1)), .inl (.int (x2 * (4 : Int32)))]) (st' := []) (P1 := P7) rfl ⟨trivial, trivial, trivial, trivial⟩ ?_
          refine tr_goto ?_
          exact ih (x1 + (1 : Int32)) (x2 + 1) (.inl (.int (x2 * (4 : Int32)))) P7
      · refine tr_icT (cd := .ge) (Int32.not_lt.mp h10) ?_
        refine tr_nil (rows2 := kb_216_73) rfl (List.cons_ne_nil _ _) ?_
        refine tr_blk 6 (pc' := 83) (rows' := kb_216_73.drop 6) (loc' := [.inr (2, 0, 0, 52), .inl (.int x1), .inl (.int x2), d3]) (st' := []) (P1 := (ab_pI P 52 6 ((P.1 52 5) - x1))) rfl ⟨trivial, trivial, trivial, trivial, trivial, trivial, trivial⟩ ?_
        refine tr_lt (fun P2 => ?_)
        refine tr_blk 1 (pc' := 84) (rows' := kb_216_73.drop 7) (loc' := [.inr (2, 0, 0, 52), .inl (.int x1), .inl (.int x2), d3]) (st' := [.inl (.int x1)]) (P1 := P2) rfl ⟨trivial, trivial⟩ ?_
        exact tr_reI (z := km_216) rfl ⟨_, rfl, rfl⟩ rfl
    · refine tr_icT (cd := .ge) (Int32.not_lt.mp h9) ?_
      refine tr_nil (rows2 := kb_216_73) rfl (List.cons_ne_nil _ _) ?_
      refine tr_blk 6 (pc' := 83) (rows' := kb_216_73.drop 6) (loc' := [.inr (2, 0, 0, 52), .inl (.int x1), .inl (.int x2), d3]) (st' := []) (P1 := (ab_pI P 52 6 ((P.1 52 5) - x1))) rfl ⟨trivial, trivial, trivial, trivial, trivial, trivial, trivial⟩ ?_
      refine tr_lt (fun P1 => ?_)
      refine tr_blk 1 (pc' := 84) (rows' := kb_216_73.drop 7) (loc' := [.inr (2, 0, 0, 52), .inl (.int x1), .inl (.int x2), d3]) (st' := [.inl (.int x1)]) (P1 := P1) rfl ⟨trivial, trivial⟩ ?_
      exact tr_reI (z := km_216) rfl ⟨_, rfl, rfl⟩ rfl
def f_216 (N : Nat) (P : ab_P) : Option (Int32 × ab_P) :=
    f_216_4 N N (0 : Int32) (0 : Int32) P
theorem t_216 {xs : Nat × (Nat → Int32)} {d : Nat} (N : Nat) : ∀ (P : ab_P), ab_tr xs wI (d + 6) 216 0 [] [.inr (2, 0, 0, 52), ab_top, ab_top, ab_top] [] P (f_216 N P) := by
  intro P
  unfold f_216
  refine tr_nil (rows2 := kb_216_0) rfl (List.cons_ne_nil _ _) ?_
  refine tr_blk 4 (pc' := 4) (rows' := kb_216_0.drop 4) (loc' := [.inr (2, 0, 0, 52), .inl (.int (0 : Int32)), .inl (.int (0 : Int32)), ab_top]) (st' := []) (P1 := P) rfl ⟨trivial, trivial, trivial, trivial, trivial⟩ ?_
  exact t_216_4 N N (0 : Int32) (0 : Int32) (ab_top) P
def f_121 (N : Nat) (a1 : Int32) (P : ab_P) : Option ((Int32 ⊕ Fin 3) × ab_P) :=
    ab_x2 (f_198 a1 (200 : Int32) P) (fun _ P1 =>
    if (P1.1 65 1) < (20 : Int32) then
      Option.bind (f_199 a1 P1) fun P2 =>
      Option.bind (f_214 N P2) fun P3 =>
      Option.bind (f_201 P3) fun v4 =>
      if v4 = (0 : Int32) then
        Option.bind (f_215 43 P3) fun P5 =>
        ab_b2 (f_216 N P5) fun v7 P6 =>
        some (.inl v7, P6)
      else
      some (.inl ((P3.1 1 5) - (10 : Int32)), P3)
    else
    Option.bind (f_199 (0 : Int32) P1) fun P8 =>
    some (.inl (-20 : Int32), P8)) (fun q => q)
theorem t_121 {xs : Nat × (Nat → Int32)} {d : Nat} (N : Nat) : ∀ (a1 : Int32) (P : ab_P), ab_tr xs xI (d + 7) 121 0 [] [.inr (11, 0, 0, 0), .inl (.int a1)] [] P (f_121 N a1 P) := by
  intro a1 P
  unfold f_121
  refine tr_nil (rows2 := kb_121_0) rfl (List.cons_ne_nil _ _) ?_
  refine tr_blk 3 (pc' := 5) (rows' := kb_121_0.drop 3) (loc' := [.inr (11, 0, 0, 0), .inl (.int a1)]) (st' := [.inl (.int (200 : Int32)), .inl (.int a1), .inr (11, 0, 0, 0)]) (P1 := P) rfl ⟨trivial, trivial, trivial, trivial⟩ ?_
  refine tr_cax (fun _ => none) (zi := km_121) (fun _ => rfl) (fun _ _ => rfl) rfl rfl (z := km_198) (av := [.inr (11, 0, 0, 0), .inl (.int a1), .inl (.int (200 : Int32))]) (st' := []) rfl rfl rfl (Nat.le_of_ble_eq_true rfl) ⟨rfl, Or.inl (by decide)⟩ rfl (Nat.le_of_ble_eq_true rfl) (t_198 a1 (200 : Int32) P) (fun _ P1 => ?_)
  refine tr_blk 4 (pc' := 17) (rows' := kb_121_0.drop 8) (loc' := [.inr (11, 0, 0, 0), .inl (.int a1)]) (st' := [.inl (.int (20 : Int32)), .inl (.int (P1.1 65 1))]) (P1 := P1) rfl ⟨trivial, trivial, trivial, trivial, trivial⟩ ?_
  refine tr_if (fun h9 => ?_) (fun h9 => ?_)
  · refine tr_icT (cd := .lt) h9 ?_
    refine tr_nil (rows2 := kb_121_31) rfl (List.cons_ne_nil _ _) ?_
    refine tr_blk 3 (pc' := 36) (rows' := kb_121_31.drop 3) (loc' := [.inr (11, 0, 0, 0), .inl (.int a1)]) (st' := [.inl (.int a1), .inr (9, 0, 0, 1)]) (P1 := P1) rfl ⟨trivial, trivial, trivial, trivial⟩ ?_
    refine tr_cWV (z := km_199) (av := [.inr (9, 0, 0, 1), .inl (.int a1)]) (st' := []) rfl rfl rfl (Nat.le_of_ble_eq_true rfl) ⟨rfl, Or.inl (by decide)⟩ rfl (Nat.le_of_ble_eq_true rfl) (t_199 a1 P1) (fun P2 => ?_)
    refine tr_blk 4 (pc' := 47) (rows' := kb_121_31.drop 8) (loc' := [.inr (11, 0, 0, 0), .inl (.int a1)]) (st' := [.inr (9, 0, 0, 1), .inr (2, 0, 0, 52)]) (P1 := P2) rfl ⟨trivial, trivial, trivial, trivial, trivial⟩ ?_
    refine tr_cWV (z := km_214) (av := [.inr (2, 0, 0, 52), .inr (9, 0, 0, 1)]) (st' := []) rfl rfl rfl (Nat.le_of_ble_eq_true rfl) ⟨rfl, Or.inl (by decide)⟩ rfl (Nat.le_of_ble_eq_true rfl) (t_214 N P2) (fun P3 => ?_)
    refine tr_blk 2 (pc' := 54) (rows' := kb_121_31.drop 11) (loc' := [.inr (11, 0, 0, 0), .inl (.int a1)]) (st' := [.inr (9, 0, 0, 1)]) (P1 := P3) rfl ⟨trivial, trivial, trivial⟩ ?_
    refine tr_cRI (z := km_201) (av := [.inr (9, 0, 0, 1)]) (st' := []) rfl rfl rfl (Nat.le_of_ble_eq_true rfl) ⟨rfl, Or.inl (by decide)⟩ rfl (Nat.le_of_ble_eq_true rfl) (t_201 P3) (fun v4 => ?_)
    refine tr_if (fun h10 => ?_) (fun h10 => ?_)
    · refine tr_ifT (cd := .eq) h10 ?_
      refine tr_nil (rows2 := kb_121_71) rfl (List.cons_ne_nil _ _) ?_
      refine tr_blk 4 (pc' := 79) (rows' := kb_121_71.drop 4) (loc' := [.inr (11, 0, 0, 0), .inl (.int a1)]) (st' := [.inr (6, 0, 0, 43), .inr (3, 0, 0, 65)]) (P1 := P3) rfl ⟨trivial, trivial, trivial, trivial, trivial⟩ ?_
      refine tr_cWV (z := km_215) (av := [.inr (3, 0, 0, 65), .inr (6, 0, 0, 43)]) (st' := []) rfl rfl rfl (Nat.le_of_ble_eq_true rfl) ⟨rfl, Or.inl (by decide)⟩ rfl (Nat.le_of_ble_eq_true rfl) (t_215 43 P3) (fun P5 => ?_)
      refine tr_blk 2 (pc' := 86) (rows' := kb_121_71.drop 7) (loc' := [.inr (11, 0, 0, 0), .inl (.int a1)]) (st' := [.inr (2, 0, 0, 52)]) (P1 := P5) rfl ⟨trivial, trivial, trivial⟩ ?_
      refine tr_cWI (z := km_216) (av := [.inr (2, 0, 0, 52)]) (st' := []) rfl rfl rfl (Nat.le_of_ble_eq_true rfl) ⟨rfl, Or.inl (by decide)⟩ rfl (Nat.le_of_ble_eq_true rfl) (t_216 N P5) (fun v7 P6 => ?_)
      exact tr_reI (z := km_121) rfl ⟨_, rfl, rfl⟩ rfl
    · refine tr_ifF (cd := .eq) h10 ?_
      refine tr_blk 5 (pc' := 70) (rows' := kb_121_31.drop 18) (loc' := [.inr (11, 0, 0, 0), .inl (.int a1)]) (st' := [.inl (.int ((P3.1 1 5) - (10 : Int32)))]) (P1 := P3) rfl ⟨trivial, trivial, trivial, trivial, trivial, trivial⟩ ?_
      exact tr_reI (z := km_121) rfl ⟨_, rfl, rfl⟩ rfl
  · refine tr_icF (cd := .lt) h9 ?_
    refine tr_blk 3 (pc' := 25) (rows' := kb_121_0.drop 12) (loc' := [.inr (11, 0, 0, 0), .inl (.int a1)]) (st' := [.inl (.int (0 : Int32)), .inr (9, 0, 0, 1)]) (P1 := P1) rfl ⟨trivial, trivial, trivial, trivial⟩ ?_
    refine tr_cWV (z := km_199) (av := [.inr (9, 0, 0, 1), .inl (.int (0 : Int32))]) (st' := []) rfl rfl rfl (Nat.le_of_ble_eq_true rfl) ⟨rfl, Or.inl (by decide)⟩ rfl (Nat.le_of_ble_eq_true rfl) (t_199 (0 : Int32) P1) (fun P8 => ?_)
    refine tr_blk 1 (pc' := 30) (rows' := kb_121_0.drop 14) (loc' := [.inr (11, 0, 0, 0), .inl (.int a1)]) (st' := [.inl (.int (-20 : Int32))]) (P1 := P8) rfl ⟨trivial, trivial⟩ ?_
    exact tr_reI (z := km_121) rfl ⟨_, rfl, rfl⟩ rfl
def f_10_1 (N : Nat) (a1 : Int32) (P : ab_P) : Option (Int32 × ab_P) :=
    ab_h2 (f_121 N a1 P) (fun v2 P1 =>
    ab_lt (ab_pL P1 570 0 (v2).toInt64) fun P3 =>
    some ((0 : Int32), P3))
    (fun _ => none) (fun P9 => some ((1 : Int32), P9)) (fun _ => none)
theorem t_10_1 {xs : Nat × (Nat → Int32)} {d : Nat} (N : Nat) : ∀ (a1 : Int32) (P : ab_P), ab_tr xs wI (d + 8) 10 0 [] [.inr (11, 0, 0, 0), .inl (.int a1), .inr (22, 1, 0, 570), ab_top] [] P (f_10_1 N a1 P) := by
  intro a1 P
  unfold f_10_1
  refine tr_nil (rows2 := kb_10_0) rfl (List.cons_ne_nil _ _) ?_
  refine tr_blk 4 (pc' := 4) (rows' := kb_10_0.drop 4) (loc' := [.inr (11, 0, 0, 0), .inl (.int a1), .inr (22, 1, 0, 570), ab_top]) (st' := [.inl (.int a1), .inr (11, 0, 0, 0), .inl (.int (0 : Int32)), .inr (22, 1, 0, 570)]) (P1 := P) rfl ⟨trivial, trivial, trivial, trivial, trivial⟩ ?_
  refine tr_cah (fun b => some (.inl (.int b))) (zi := km_10) (fun _ => rfl) rfl (z := km_121) (av := [.inr (11, 0, 0, 0), .inl (.int a1)]) (st' := [.inl (.int (0 : Int32)), .inr (22, 1, 0, 570)]) rfl rfl rfl (Nat.le_of_ble_eq_true rfl) ⟨rfl, Or.inl (by decide)⟩ rfl (Nat.le_of_ble_eq_true rfl) (t_121 N a1 P) (fun v2 P1 => ?_) ?_ ?_ ?_
  · refine tr_blk 2 (pc' := 9) (rows' := kb_10_0.drop 7) (loc' := [.inr (11, 0, 0, 0), .inl (.int a1), .inr (22, 1, 0, 570), ab_top]) (st' := []) (P1 := (ab_pL P1 570 0 (v2).toInt64)) rfl ⟨trivial, (ab_vi (by decide)), trivial⟩ ?_
    refine tr_lt (fun P3 => ?_)
    refine tr_goto ?_
    refine tr_nil (rows2 := kb_10_15) rfl (List.cons_ne_nil _ _) ?_
    refine tr_blk 1 (pc' := 16) (rows' := kb_10_15.drop 1) (loc' := [.inr (11, 0, 0, 0), .inl (.int a1), .inr (22, 1, 0, 570), ab_top]) (st' := [.inl (.int (0 : Int32))]) (P1 := P3) rfl ⟨trivial, trivial⟩ ?_
    exact tr_reI (z := km_10) rfl ⟨_, rfl, rfl⟩ rfl
  · exact fun _ => rfl
  · exact fun _ => tr_han (rows2 := kb_10_12) (z := km_10) _ (fun q => [.inr (11, 0, 0, 0), .inl (.int a1), .inr (22, 1, 0, 570), .inr (40, 1, 0, q)]) rfl (List.cons_ne_nil _ _) (fun q => rfl) ⟨trivial, trivial, trivial⟩ rfl ⟨_, rfl, rfl⟩ rfl
  · exact fun _ => rfl
def f_123_366_366_2 (i0 : Nat) (i1 : Nat) : Nat → Int32 → ab_P → Option ab_P
  | 0, _, _ => none
  | n + 1, x2, P =>
    if x2 < (366 : Int32) then
      if ab_gi x2 366 then
      if ab_gi x2 366 then
      ab_lt (ab_pI P i1 x2.toNatClampNeg (P.1 i0 x2.toNatClampNeg)) fun P3 =>
      f_123_366_366_2 i0 i1 n (x2 + 1) P3
      else none
      else none
    else
    some P
theorem t_123_366_366_2 {xs : Nat × (Nat → Int32)} {d : Nat} (i0 : Nat) (i1 : Nat) : ∀ n : Nat, ∀ (x2 : Int32) (P : ab_P), ab_tr xs wV (d + 0) 123 2 [] [.inr (20, 366, 0, i0), .inr (20, 366, 0, i1), .inl (.int x2)] [] P (f_123_366_366_2 i0 i1 n x2 P) := by
  intro n
  induction n with
  | zero => intro x2 P; exact tr_no
  | succ n ih =>
    intro x2 P
    refine tr_nil (rows2 := kb_123_2) rfl (List.cons_ne_nil _ _) ?_
    refine tr_blk 2 (pc' := 6) (rows' := kb_123_2.drop 2) (loc' := [.inr (20, 366, 0, i0), .inr (20, 366, 0, i1), .inl (.int x2)]) (st' := [.inl (.int (366 : Int32)), .inl (.int x2)]) (P1 := P) rfl ⟨trivial, trivial, trivial⟩ ?_
    refine tr_if (fun h4 => ?_) (fun h4 => ?_)
    · refine tr_icF (cd := .ge) (Int32.not_le.mpr h4) ?_
      refine tr_gd (fun h1 => ?_)
      refine tr_gd (fun h2 => ?_)
      refine tr_blk 6 (pc' := 15) (rows' := kb_123_2.drop 9) (loc' := [.inr (20, 366, 0, i0), .inr (20, 366, 0, i1), .inl (.int x2)]) (st' := []) (P1 := (ab_pI P i1 x2.toNatClampNeg (P.1 i0 x2.toNatClampNeg))) rfl ⟨trivial, trivial, trivial, trivial, h1, h2, trivial⟩ ?_
      refine tr_lt (fun P3 => ?_)
      refine tr_blk 1 (pc' := 18) (rows' := kb_123_2.drop 10) (loc' := [.inr (20, 366, 0, i0), .inr (20, 366, 0, i1), .inl (.int (x2 + 1))]) (st' := []) (P1 := P3) rfl ⟨trivial, trivial⟩ ?_
      refine tr_goto ?_
      exact ih (x2 + 1) P3
    · refine tr_icT (cd := .ge) (Int32.not_lt.mp h4) ?_
      refine tr_nil (rows2 := kb_123_21) rfl (List.cons_ne_nil _ _) ?_
      exact tr_reV (z := km_123) rfl rfl rfl
def f_123_366_366 (i0 : Nat) (i1 : Nat) (N : Nat) (P : ab_P) : Option ab_P :=
    f_123_366_366_2 i0 i1 N (0 : Int32) P
theorem t_123_366_366 {xs : Nat × (Nat → Int32)} {d : Nat} (i0 : Nat) (i1 : Nat) (N : Nat) : ∀ (P : ab_P), ab_tr xs wV (d + 0) 123 0 [] [.inr (20, 366, 0, i0), .inr (20, 366, 0, i1), ab_top] [] P (f_123_366_366 i0 i1 N P) := by
  intro P
  unfold f_123_366_366
  refine tr_nil (rows2 := kb_123_0) rfl (List.cons_ne_nil _ _) ?_
  refine tr_blk 2 (pc' := 2) (rows' := kb_123_0.drop 2) (loc' := [.inr (20, 366, 0, i0), .inr (20, 366, 0, i1), .inl (.int (0 : Int32))]) (st' := []) (P1 := P) rfl ⟨trivial, trivial, trivial⟩ ?_
  exact t_123_366_366_2 i0 i1 N (0 : Int32) P
def f_217 (N : Nat) (P : ab_P) : Option (Int32 × ab_P) :=
    ab_b2 (f_206 N (4 : Int32) (1 : Int32) (25 : Int32) (0 : Int32) (0 : Int32) (0 : Int32) (0 : Int32) (0 : Int32) P) fun v2 P1 =>
    if v2 = (0 : Int32) then
      ab_b2 (f_206 N (19 : Int32) (12 : Int32) (1 : Int32) (16 : Int32) (0 : Int32) (0 : Int32) (0 : Int32) (0 : Int32) P1) fun v4 P3 =>
      if v4 = (0 : Int32) then
        ab_b2 (f_206 N (16 : Int32) (1 : Int32) (19 : Int32) (19 : Int32) (0 : Int32) (0 : Int32) (0 : Int32) (0 : Int32) P3) fun v6 P5 =>
        if v6 = (0 : Int32) then
          ab_b2 (f_206 N (19 : Int32) (16 : Int32) (12 : Int32) (9 : Int32) (20 : Int32) (0 : Int32) (0 : Int32) (0 : Int32) P5) fun v8 P7 =>
          if v8 = (0 : Int32) then
            ab_b2 (f_206 N (10 : Int32) (15 : Int32) (9 : Int32) (14 : Int32) (0 : Int32) (0 : Int32) (0 : Int32) (0 : Int32) P7) fun v10 P9 =>
            if v10 = (0 : Int32) then
              ab_b2 (f_206 N (20 : Int32) (5 : Int32) (12 : Int32) (12 : Int32) (0 : Int32) (0 : Int32) (0 : Int32) (0 : Int32) P9) fun v12 P11 =>
              if v12 = (0 : Int32) then
                ab_b2 (f_206 N (19 : Int32) (15 : Int32) (18 : Int32) (18 : Int32) (25 : Int32) (0 : Int32) (0 : Int32) (0 : Int32) P11) fun v14 P13 =>
                if v14 = (0 : Int32) then
                  ab_b2 (f_206 N (23 : Int32) (18 : Int32) (15 : Int32) (14 : Int32) (7 : Int32) (12 : Int32) (25 : Int32) (0 : Int32) P13) fun v16 P15 =>
                  if v16 = (0 : Int32) then
                    ab_b2 (f_206 N (6 : Int32) (15 : Int32) (18 : Int32) (7 : Int32) (9 : Int32) (22 : Int32) (5 : Int32) (0 : Int32) P15) fun v18 P17 =>
                    if v18 = (0 : Int32) then
                      ab_b2 (f_206 N (16 : Int32) (1 : Int32) (25 : Int32) (0 : Int32) (0 : Int32) (0 : Int32) (0 : Int32) (0 : Int32) P17) fun v20 P19 =>
                      if v20 = (0 : Int32) then
                        some ((-1 : Int32), P19)
                      else
                      some ((9 : Int32), P19)
                    else
                    some ((8 : Int32), P17)
                  else
                  some ((7 : Int32), P15)
                else
                some ((6 : Int32), P13)
              else
              some ((5 : Int32), P11)
            else
            some ((4 : Int32), P9)
          else
          some ((3 : Int32), P7)
        else
        some ((2 : Int32), P5)
      else
      some ((1 : Int32), P3)
    else
    some ((0 : Int32), P1)
theorem t_217 {xs : Nat × (Nat → Int32)} {d : Nat} (N : Nat) : ∀ (P : ab_P), ab_tr xs wI (d + 4) 217 0 [] [.inr (12, 0, 0, 72)] [] P (f_217 N P) := by
  intro P
  unfold f_217
  refine tr_nil (rows2 := kb_217_0) rfl (List.cons_ne_nil _ _) ?_
  refine tr_blk 9 (pc' := 10) (rows' := kb_217_0.drop 9) (loc' := [.inr (12, 0, 0, 72)]) (st' := [.inl (.int (0 : Int32)), .inl (.int (0 : Int32)), .inl (.int (0 : Int32)), .inl (.int (0 : Int32)), .inl (.int (0 : Int32)), .inl (.int (25 : Int32)), .inl (.int (1 : Int32)), .inl (.int (4 : Int32)), .inr (12, 0, 0, 72)]) (P1 := P) rfl ⟨trivial, trivial, trivial, trivial, trivial, trivial, trivial, trivial, trivial, trivial⟩ ?_
  refine tr_cWI (z := km_206) (av := [.inr (12, 0, 0, 72), .inl (.int (4 : Int32)), .inl (.int (1 : Int32)), .inl (.int (25 : Int32)), .inl (.int (0 : Int32)), .inl (.int (0 : Int32)), .inl (.int (0 : Int32)), .inl (.int (0 : Int32)), .inl (.int (0 : Int32))]) (st' := []) rfl rfl rfl (Nat.le_of_ble_eq_true rfl) ⟨rfl, Or.inl (by decide)⟩ rfl (Nat.le_of_ble_eq_true rfl) (t_206 N (4 : Int32) (1 : Int32) (25 : Int32) (0 : Int32) (0 : Int32) (0 : Int32) (0 : Int32) (0 : Int32) P) (fun v2 P1 => ?_)
  refine tr_if (fun h21 => ?_) (fun h21 => ?_)
  · refine tr_ifT (cd := .eq) h21 ?_
    refine tr_nil (rows2 := kb_217_18) rfl (List.cons_ne_nil _ _) ?_
    refine tr_blk 9 (pc' := 30) (rows' := kb_217_18.drop 9) (loc' := [.inr (12, 0, 0, 72)]) (st' := [.inl (.int (0 : Int32)), .inl (.int (0 : Int32)), .inl (.int (0 : Int32)), .inl (.int (0 : Int32)), .inl (.int (16 : Int32)), .inl (.int (1 : Int32)), .inl (.int (12 : Int32)), .inl (.int (19 : Int32)), .inr (12, 0, 0, 72)]) (P1 := P1) rfl ⟨trivial, trivial, trivial, trivial, trivial, trivial, trivial, trivial, trivial, trivial⟩ ?_
    refine tr_cWI (z := km_206) (av := [.inr (12, 0, 0, 72), .inl (.int (19 : Int32)), .inl (.int (12 : Int32)), .inl (.int (1 : Int32)), .inl (.int (16 : Int32)), .inl (.int (0 : Int32)), .inl (.int (0 : Int32)), .inl (.int (0 : Int32)), .inl (.int (0 : Int32))]) (st' := []) rfl rfl rfl (Nat.le_of_ble_eq_true rfl) ⟨rfl, Or.inl (by decide)⟩ rfl (Nat.le_of_ble_eq_true rfl) (t_206 N (19 : Int32) (12 : Int32) (1 : Int32) (16 : Int32) (0 : Int32) (0 : Int32) (0 : Int32) (0 : Int32) P1) (fun v4 P3 => ?_)
    refine tr_if (fun h22 => ?_) (fun h22 => ?_)
    · refine tr_ifT (cd := .eq) h22 ?_
      refine tr_nil (rows2 := kb_217_38) rfl (List.cons_ne_nil _ _) ?_
      refine tr_blk 9 (pc' := 50) (rows' := kb_217_38.drop 9) (loc' := [.inr (12, 0, 0, 72)]) (st' := [.inl (.int (0 : Int32)), .inl (.int (0 : Int32)), .inl (.int (0 : Int32)), .inl (.int (0 : Int32)), .inl (.int (19 : Int32)), .inl (.int (19 : Int32)), .inl (.int (1 : Int32)), .inl (.int (16 : Int32)), .inr (12, 0, 0, 72)]) (P1 := P3) rfl ⟨trivial, trivial, trivial, trivial, trivial, trivial, trivial, trivial, trivial, trivial⟩ ?_
      refine tr_cWI (z := km_206) (av := [.inr (12, 0, 0, 72), .inl (.int (16 : Int32)), .inl (.int (1 : Int32)), .inl (.int (19 : Int32)), .inl (.int (19 : Int32)), .inl (.int (0 : Int32)), .inl (.int (0 : Int32)), .inl (.int (0 : Int32)), .inl (.int (0 : Int32))]) (st' := []) rfl rfl rfl (Nat.le_of_ble_eq_true rfl) ⟨rfl, Or.inl (by decide)⟩ rfl (Nat.le_of_ble_eq_true rfl) (t_206 N (16 : Int32) (1 : Int32) (19 : Int32) (19 : Int32) (0 : Int32) (0 : Int32) (0 : Int32) (0 : Int32) P3) (fun v6 P5 => ?_)
      refine tr_if (fun h23 => ?_) (fun h23 => ?_)
      · refine tr_ifT (cd := .eq) h23 ?_
        refine tr_nil (rows2 := kb_217_58) rfl (List.cons_ne_nil _ _) ?_
        refine tr_blk 9 (pc' := 72) (rows' := kb_217_58.drop 9) (loc' := [.inr (12, 0, 0, 72)]) (st' := [.inl (.int (0 : Int32)), .inl (.int (0 : Int32)), .inl (.int (0 : Int32)), .inl (.int (20 : Int32)), .inl (.int (9 : Int32)), .inl (.int (12 : Int32)), .inl (.int (16 : Int32)), .inl (.int (19 : Int32)), .inr (12, 0, 0, 72)]) (P1 := P5) rfl ⟨trivial, trivial, trivial, trivial, trivial, trivial, trivial, trivial, trivial, trivial⟩ ?_
        refine tr_cWI (z := km_206) (av := [.inr (12, 0, 0, 72), .inl (.int (19 : Int32)), .inl (.int (16 : Int32)), .inl (.int (12 : Int32)), .inl (.int (9 : Int32)), .inl (.int (20 : Int32)), .inl (.int (0 : Int32)), .inl (.int (0 : Int32)), .inl (.int (0 : Int32))]) (st' := []) rfl rfl rfl (Nat.le_of_ble_eq_true rfl) ⟨rfl, Or.inl (by decide)⟩ rfl (Nat.le_of_ble_eq_true rfl) (t_206 N (19 : Int32) (16 : Int32) (12 : Int32) (9 : Int32) (20 : Int32) (0 : Int32) (0 : Int32) (0 : Int32) P5) (fun v8 P7 => ?_)
        refine tr_if (fun h24 => ?_) (fun h24 => ?_)
        · refine tr_ifT (cd := .eq) h24 ?_
          refine tr_nil (rows2 := kb_217_80) rfl (List.cons_ne_nil _ _) ?_
          refine tr_blk 9 (pc' := 93) (rows' := kb_217_80.drop 9) (loc' := [.inr (12, 0, 0, 72)]) (st' := [.inl (.int (0 : Int32)), .inl (.int (0 : Int32)), .inl (.int (0 : Int32)), .inl (.int (0 : Int32)), .inl (.int (14 : Int32)), .inl (.int (9 : Int32)), .inl (.int (15 : Int32)), .inl (.int (10 : Int32)), .inr (12, 0, 0, 72)]) (P1 := P7) rfl ⟨trivial, trivial, trivial, trivial, trivial, trivial, trivial, trivial, trivial, trivial⟩ ?_
          refine tr_cWI (z := km_206) (av := [.inr (12, 0, 0, 72), .inl (.int (10 : Int32)), .inl (.int (15 : Int32)), .inl (.int (9 : Int32)), .inl (.int (14 : Int32)), .inl (.int (0 : Int32)), .inl (.int (0 : Int32)), .inl (.int (0 : Int32)), .inl (.int (0 : Int32))]) (st' := []) rfl rfl rfl (Nat.le_of_ble_eq_true rfl) ⟨rfl, Or.inl (by decide)⟩ rfl (Nat.le_of_ble_eq_true rfl) (t_206 N (10 : Int32) (15 : Int32) (9 : Int32) (14 : Int32) (0 : Int32) (0 : Int32) (0 : Int32) (0 : Int32) P7) (fun v10 P9 => ?_)
          refine tr_if (fun h25 => ?_) (fun h25 => ?_)
          · refine tr_ifT (cd := .eq) h25 ?_
            refine tr_nil (rows2 := kb_217_101) rfl (List.cons_ne_nil _ _) ?_
            refine tr_blk 9 (pc' := 113) (rows' := kb_217_101.drop 9) (loc' := [.inr (12, 0, 0, 72)]) (st' := [.inl (.int (0 : Int32)), .inl (.int (0 : Int32)), .inl (.int (0 : Int32)), .inl (.int (0 : Int32)), .inl (.int (12 : Int32)), .inl (.int (12 : Int32)), .inl (.int (5 : Int32)), .inl (.int (20 : Int32)), .inr (12, 0, 0, 72)]) (P1 := P9) rfl ⟨trivial, trivial, trivial, trivial, trivial, trivial, trivial, trivial, trivial, trivial⟩ ?_
            refine tr_cWI (z := km_206) (av := [.inr (12, 0, 0, 72), .inl (.int (20 : Int32)), .inl (.int (5 : Int32)), .inl (.int (12 : Int32)), .inl (.int (12 : Int32)), .inl (.int (0 : Int32)), .inl (.int (0 : Int32)), .inl (.int (0 : Int32)), .inl (.int (0 : Int32))]) (st' := []) rfl rfl rfl (Nat.le_of_ble_eq_true rfl) ⟨rfl, Or.inl (by decide)⟩ rfl (Nat.le_of_ble_eq_true rfl) (t_206 N (20 : Int32) (5 : Int32) (12 : Int32) (12 : Int32) (0 : Int32) (0 : Int32) (0 : Int32) (0 : Int32) P9) (fun v12 P11 => ?_)
            refine tr_if (fun h26 => ?_) (fun h26 => ?_)
            · refine tr_ifT (cd := .eq) h26 ?_
              refine tr_nil (rows2 := kb_217_121) rfl (List.cons_ne_nil _ _) ?_
              refine tr_blk 9 (pc' := 135) (rows' := kb_217_121.drop 9) (loc' := [.inr (12, 0, 0, 72)]) (st' := [.inl (.int (0 : Int32)), .inl (.int (0 : Int32)), .inl (.int (0 : Int32)), .inl (.int (25 : Int32)), .inl (.int (18 : Int32)), .inl (.int (18 : Int32)), .inl (.int (15 : Int32)), .inl (.int (19 : Int32)), .inr (12, 0, 0, 72)]) (P1 := P11) rfl ⟨trivial, trivial, trivial, trivial, trivial, trivial, trivial, trivial, trivial, trivial⟩ ?_
              refine tr_cWI (z := km_206) (av := [.inr (12, 0, 0, 72), .inl (.int (19 : Int32)), .inl (.int (15 : Int32)), .inl (.int (18 : Int32)), .inl (.int (18 : Int32)), .inl (.int (25 : Int32)), .inl (.int (0 : Int32)), .inl (.int (0 : Int32)), .inl (.int (0 : Int32))]) (st' := []) rfl rfl rfl (Nat.le_of_ble_eq_true rfl) ⟨rfl, Or.inl (by decide)⟩ rfl (Nat.le_of_ble_eq_true rfl) (t_206 N (19 : Int32) (15 : Int32) (18 : Int32) (18 : Int32) (25 : Int32) (0 : Int32) (0 : Int32) (0 : Int32) P11) (fun v14 P13 => ?_)
              refine tr_if (fun h27 => ?_) (fun h27 => ?_)
              · refine tr_ifT (cd := .eq) h27 ?_
                refine tr_nil (rows2 := kb_217_144) rfl (List.cons_ne_nil _ _) ?_
                refine tr_blk 9 (pc' := 160) (rows' := kb_217_144.drop 9) (loc' := [.inr (12, 0, 0, 72)]) (st' := [.inl (.int (0 : Int32)), .inl (.int (25 : Int32)), .inl (.int (12 : Int32)), .inl (.int (7 : Int32)), .inl (.int (14 : Int32)), .inl (.int (15 : Int32)), .inl (.int (18 : Int32)), .inl (.int (23 : Int32)), .inr (12, 0, 0, 72)]) (P1 := P13) rfl ⟨trivial, trivial, trivial, trivial, trivial, trivial, trivial, trivial, trivial, trivial⟩ ?_
                refine tr_cWI (z := km_206) (av := [.inr (12, 0, 0, 72), .inl (.int (23 : Int32)), .inl (.int (18 : Int32)), .inl (.int (15 : Int32)), .inl (.int (14 : Int32)), .inl (.int (7 : Int32)), .inl (.int (12 : Int32)), .inl (.int (25 : Int32)), .inl (.int (0 : Int32))]) (st' := []) rfl rfl rfl (Nat.le_of_ble_eq_true rfl) ⟨rfl, Or.inl (by decide)⟩ rfl (Nat.le_of_ble_eq_true rfl) (t_206 N (23 : Int32) (18 : Int32) (15 : Int32) (14 : Int32) (7 : Int32) (12 : Int32) (25 : Int32) (0 : Int32) P13) (fun v16 P15 => ?_)
                refine tr_if (fun h28 => ?_) (fun h28 => ?_)
                · refine tr_ifT (cd := .eq) h28 ?_
                  refine tr_nil (rows2 := kb_217_169) rfl (List.cons_ne_nil _ _) ?_
                  refine tr_blk 9 (pc' := 184) (rows' := kb_217_169.drop 9) (loc' := [.inr (12, 0, 0, 72)]) (st' := [.inl (.int (0 : Int32)), .inl (.int (5 : Int32)), .inl (.int (22 : Int32)), .inl (.int (9 : Int32)), .inl (.int (7 : Int32)), .inl (.int (18 : Int32)), .inl (.int (15 : Int32)), .inl (.int (6 : Int32)), .inr (12, 0, 0, 72)]) (P1 := P15) rfl ⟨trivial, trivial, trivial, trivial, trivial, trivial, trivial, trivial, trivial, trivial⟩ ?_
                  refine tr_cWI (z := km_206) (av := [.inr (12, 0, 0, 72), .inl (.int (6 : Int32)), .inl (.int (15 : Int32)), .inl (.int (18 : Int32)), .inl (.int (7 : Int32)), .inl (.int (9 : Int32)), .inl (.int (22 : Int32)), .inl (.int (5 : Int32)), .inl (.int (0 : Int32))]) (st' := []) rfl rfl rfl (Nat.le_of_ble_eq_true rfl) ⟨rfl, Or.inl (by decide)⟩ rfl (Nat.le_of_ble_eq_true rfl) (t_206 N (6 : Int32) (15 : Int32) (18 : Int32) (7 : Int32) (9 : Int32) (22 : Int32) (5 : Int32) (0 : Int32) P15) (fun v18 P17 => ?_)
                  refine tr_if (fun h29 => ?_) (fun h29 => ?_)
                  · refine tr_ifT (cd := .eq) h29 ?_
                    refine tr_nil (rows2 := kb_217_193) rfl (List.cons_ne_nil _ _) ?_
                    refine tr_blk 9 (pc' := 204) (rows' := kb_217_193.drop 9) (loc' := [.inr (12, 0, 0, 72)]) (st' := [.inl (.int (0 : Int32)), .inl (.int (0 : Int32)), .inl (.int (0 : Int32)), .inl (.int (0 : Int32)), .inl (.int (0 : Int32)), .inl (.int (25 : Int32)), .inl (.int (1 : Int32)), .inl (.int (16 : Int32)), .inr (12, 0, 0, 72)]) (P1 := P17) rfl ⟨trivial, trivial, trivial, trivial, trivial, trivial, trivial, trivial, trivial, trivial⟩ ?_
                    refine tr_cWI (z := km_206) (av := [.inr (12, 0, 0, 72), .inl (.int (16 : Int32)), .inl (.int (1 : Int32)), .inl (.int (25 : Int32)), .inl (.int (0 : Int32)), .inl (.int (0 : Int32)), .inl (.int (0 : Int32)), .inl (.int (0 : Int32)), .inl (.int (0 : Int32))]) (st' := []) rfl rfl rfl (Nat.le_of_ble_eq_true rfl) ⟨rfl, Or.inl (by decide)⟩ rfl (Nat.le_of_ble_eq_true rfl) (t_206 N (16 : Int32) (1 : Int32) (25 : Int32) (0 : Int32) (0 : Int32) (0 : Int32) (0 : Int32) (0 : Int32) P17) (fun v20 P19 => ?_)
                    refine tr_if (fun h30 => ?_) (fun h30 => ?_)
                    · refine tr_ifT (cd := .eq) h30 ?_
                      refine tr_nil (rows2 := kb_217_215) rfl (List.cons_ne_nil _ _) ?_
                      refine tr_blk 1 (pc' := 216) (rows' := kb_217_215.drop 1) (loc' := [.inr (12, 0, 0, 72)]) (st' := [.inl (.int (-1 : Int32))]) (P1 := P19) rfl ⟨trivial, trivial⟩ ?_
                      refine tr_nil (rows2 := kb_217_216) rfl (List.cons_ne_nil _ _) ?_
                      exact tr_reI (z := km_217) rfl ⟨_, rfl, rfl⟩ rfl
                    · refine tr_ifF (cd := .eq) h30 ?_
                      refine tr_blk 1 (pc' := 212) (rows' := kb_217_193.drop 12) (loc' := [.inr (12, 0, 0, 72)]) (st' := [.inl (.int (9 : Int32))]) (P1 := P19) rfl ⟨trivial, trivial⟩ ?_
                      refine tr_goto ?_
                      refine tr_nil (rows2 := kb_217_216) rfl (List.cons_ne_nil _ _) ?_
                      exact tr_reI (z := km_217) rfl ⟨_, rfl, rfl⟩ rfl
                  · refine tr_ifF (cd := .eq) h29 ?_
                    refine tr_blk 1 (pc' := 192) (rows' := kb_217_169.drop 12) (loc' := [.inr (12, 0, 0, 72)]) (st' := [.inl (.int (8 : Int32))]) (P1 := P17) rfl ⟨trivial, trivial⟩ ?_
                    exact tr_reI (z := km_217) rfl ⟨_, rfl, rfl⟩ rfl
                · refine tr_ifF (cd := .eq) h28 ?_
                  refine tr_blk 1 (pc' := 168) (rows' := kb_217_144.drop 12) (loc' := [.inr (12, 0, 0, 72)]) (st' := [.inl (.int (7 : Int32))]) (P1 := P15) rfl ⟨trivial, trivial⟩ ?_
                  exact tr_reI (z := km_217) rfl ⟨_, rfl, rfl⟩ rfl
              · refine tr_ifF (cd := .eq) h27 ?_
                refine tr_blk 1 (pc' := 143) (rows' := kb_217_121.drop 12) (loc' := [.inr (12, 0, 0, 72)]) (st' := [.inl (.int (6 : Int32))]) (P1 := P13) rfl ⟨trivial, trivial⟩ ?_
                exact tr_reI (z := km_217) rfl ⟨_, rfl, rfl⟩ rfl
            · refine tr_ifF (cd := .eq) h26 ?_
              refine tr_blk 1 (pc' := 120) (rows' := kb_217_101.drop 12) (loc' := [.inr (12, 0, 0, 72)]) (st' := [.inl (.int (5 : Int32))]) (P1 := P11) rfl ⟨trivial, trivial⟩ ?_
              exact tr_reI (z := km_217) rfl ⟨_, rfl, rfl⟩ rfl
          · refine tr_ifF (cd := .eq) h25 ?_
            refine tr_blk 1 (pc' := 100) (rows' := kb_217_80.drop 12) (loc' := [.inr (12, 0, 0, 72)]) (st' := [.inl (.int (4 : Int32))]) (P1 := P9) rfl ⟨trivial, trivial⟩ ?_
            exact tr_reI (z := km_217) rfl ⟨_, rfl, rfl⟩ rfl
        · refine tr_ifF (cd := .eq) h24 ?_
          refine tr_blk 1 (pc' := 79) (rows' := kb_217_58.drop 12) (loc' := [.inr (12, 0, 0, 72)]) (st' := [.inl (.int (3 : Int32))]) (P1 := P7) rfl ⟨trivial, trivial⟩ ?_
          exact tr_reI (z := km_217) rfl ⟨_, rfl, rfl⟩ rfl
      · refine tr_ifF (cd := .eq) h23 ?_
        refine tr_blk 1 (pc' := 57) (rows' := kb_217_38.drop 12) (loc' := [.inr (12, 0, 0, 72)]) (st' := [.inl (.int (2 : Int32))]) (P1 := P5) rfl ⟨trivial, trivial⟩ ?_
        exact tr_reI (z := km_217) rfl ⟨_, rfl, rfl⟩ rfl
    · refine tr_ifF (cd := .eq) h22 ?_
      refine tr_blk 1 (pc' := 37) (rows' := kb_217_18.drop 12) (loc' := [.inr (12, 0, 0, 72)]) (st' := [.inl (.int (1 : Int32))]) (P1 := P3) rfl ⟨trivial, trivial⟩ ?_
      exact tr_reI (z := km_217) rfl ⟨_, rfl, rfl⟩ rfl
  · refine tr_ifF (cd := .eq) h21 ?_
    refine tr_blk 1 (pc' := 17) (rows' := kb_217_0.drop 12) (loc' := [.inr (12, 0, 0, 72)]) (st' := [.inl (.int (0 : Int32))]) (P1 := P1) rfl ⟨trivial, trivial⟩ ?_
    exact tr_reI (z := km_217) rfl ⟨_, rfl, rfl⟩ rfl
def f_126 (N : Nat) (P : ab_P) : Option (Int32 × ab_P) :=
    ab_b2 (f_128 N (0 : Int32) ((P.1 76 0) - (1 : Int32)) P) fun v2 P1 =>
    some (v2, P1)
theorem t_126 {xs : Nat × (Nat → Int32)} {d : Nat} (N : Nat) : ∀ (P : ab_P), ab_tr xs wI (d + 3) 126 0 [] [.inr (12, 0, 0, 72)] [] P (f_126 N P) := by
  intro P
  unfold f_126
  refine tr_nil (rows2 := kb_126_0) rfl (List.cons_ne_nil _ _) ?_
  refine tr_blk 8 (pc' := 10) (rows' := kb_126_0.drop 8) (loc' := [.inr (12, 0, 0, 72)]) (st' := [.inl (.int ((P.1 76 0) - (1 : Int32))), .inl (.int (0 : Int32)), .inr (12, 0, 0, 72)]) (P1 := P) rfl ⟨trivial, trivial, trivial, trivial, trivial, (ab_vi (by decide)), trivial, trivial, trivial⟩ ?_
  refine tr_cWI (z := km_128) (av := [.inr (12, 0, 0, 72), .inl (.int (0 : Int32)), .inl (.int ((P.1 76 0) - (1 : Int32)))]) (st' := []) rfl rfl rfl (Nat.le_of_ble_eq_true rfl) ⟨rfl, Or.inl (by decide)⟩ rfl (Nat.le_of_ble_eq_true rfl) (t_128 N (0 : Int32) ((P.1 76 0) - (1 : Int32)) P) (fun v2 P1 => ?_)
  exact tr_reI (z := km_126) rfl ⟨_, rfl, rfl⟩ rfl
def f_122_88 (N : Nat) (rx3 : Nat) (P : ab_P) : Option ab_P :=
    ab_b2 (f_126 N P) fun v13 P12 =>
    ab_lt (ab_pI P12 rx3 1 v13) fun P14 =>
    ab_b2 (f_208 N ((P14.1 76 0) - (1 : Int32)) (P14.1 rx3 1) P14) fun v16 P15 =>
    ab_lt (ab_pI P15 rx3 2 v16) fun P17 =>
    ab_b2 (f_128 N (1 : Int32) (999 : Int32) P17) fun v19 P18 =>
    ab_lt (ab_pI P18 rx3 3 v19) fun P20 =>
    Option.bind (f_129 N (59 : Int32) P20) fun P21 =>
    some P21
theorem t_122_88 {xs : Nat × (Nat → Int32)} {d : Nat} (N : Nat) : ∀ (rx3 : Nat) (d1 : Int32) (d2 : Int32) (P : ab_P), ab_tr xs wV (d + 5) 122 88 [] [.inr (12, 0, 0, 72), .inl (.int d1), .inl (.int d2), .inr (20, 4, 0, rx3)] [] P (f_122_88 N rx3 P) := by
  intro rx3 d1 d2 P
  unfold f_122_88
  refine tr_nil (rows2 := kb_122_88) rfl (List.cons_ne_nil _ _) ?_
  refine tr_blk 3 (pc' := 91) (rows' := kb_122_88.drop 3) (loc' := [.inr (12, 0, 0, 72), .inl (.int d1), .inl (.int d2), .inr (20, 4, 0, rx3)]) (st' := [.inr (12, 0, 0, 72), .inl (.int (1 : Int32)), .inr (20, 4, 0, rx3)]) (P1 := P) rfl ⟨trivial, trivial, trivial, trivial⟩ ?_
  refine tr_cWI (z := km_126) (av := [.inr (12, 0, 0, 72)]) (st' := [.inl (.int (1 : Int32)), .inr (20, 4, 0, rx3)]) rfl rfl rfl (Nat.le_of_ble_eq_true rfl) ⟨rfl, Or.inl (by decide)⟩ rfl (Nat.le_of_ble_eq_true rfl) (t_126 N P) (fun v13 P12 => ?_)
  refine tr_blk 1 (pc' := 95) (rows' := kb_122_88.drop 5) (loc' := [.inr (12, 0, 0, 72), .inl (.int d1), .inl (.int d2), .inr (20, 4, 0, rx3)]) (st' := []) (P1 := (ab_pI P12 rx3 1 v13)) rfl ⟨(ab_vi (by decide)), trivial⟩ ?_
  refine tr_lt (fun P14 => ?_)
  refine tr_blk 12 (pc' := 109) (rows' := kb_122_88.drop 17) (loc' := [.inr (12, 0, 0, 72), .inl (.int d1), .inl (.int d2), .inr (20, 4, 0, rx3)]) (st' := [.inl (.int (P14.1 rx3 1)), .inl (.int ((P14.1 76 0) - (1 : Int32))), .inr (12, 0, 0, 72), .inl (.int (2 : Int32)), .inr (20, 4, 0, rx3)]) (P1 := P14) rfl ⟨trivial, trivial, trivial, trivial, trivial, trivial, (ab_vi (by decide)), trivial, trivial, trivial, trivial, (ab_vi (by decide)), trivial⟩ ?_
  refine tr_cWI (z := km_208) (av := [.inr (12, 0, 0, 72), .inl (.int ((P14.1 76 0) - (1 : Int32))), .inl (.int (P14.1 rx3 1))]) (st' := [.inl (.int (2 : Int32)), .inr (20, 4, 0, rx3)]) rfl rfl rfl (Nat.le_of_ble_eq_true rfl) ⟨rfl, Or.inl (by decide)⟩ rfl (Nat.le_of_ble_eq_true rfl) (t_208 N ((P14.1 76 0) - (1 : Int32)) (P14.1 rx3 1) P14) (fun v16 P15 => ?_)
  refine tr_blk 1 (pc' := 113) (rows' := kb_122_88.drop 19) (loc' := [.inr (12, 0, 0, 72), .inl (.int d1), .inl (.int d2), .inr (20, 4, 0, rx3)]) (st' := []) (P1 := (ab_pI P15 rx3 2 v16)) rfl ⟨(ab_vi (by decide)), trivial⟩ ?_
  refine tr_lt (fun P17 => ?_)
  refine tr_blk 5 (pc' := 120) (rows' := kb_122_88.drop 24) (loc' := [.inr (12, 0, 0, 72), .inl (.int d1), .inl (.int d2), .inr (20, 4, 0, rx3)]) (st' := [.inl (.int (999 : Int32)), .inl (.int (1 : Int32)), .inr (12, 0, 0, 72), .inl (.int (3 : Int32)), .inr (20, 4, 0, rx3)]) (P1 := P17) rfl ⟨trivial, trivial, trivial, trivial, trivial, trivial⟩ ?_
  refine tr_cWI (z := km_128) (av := [.inr (12, 0, 0, 72), .inl (.int (1 : Int32)), .inl (.int (999 : Int32))]) (st' := [.inl (.int (3 : Int32)), .inr (20, 4, 0, rx3)]) rfl rfl rfl (Nat.le_of_ble_eq_true rfl) ⟨rfl, Or.inl (by decide)⟩ rfl (Nat.le_of_ble_eq_true rfl) (t_128 N (1 : Int32) (999 : Int32) P17) (fun v19 P18 => ?_)
  refine tr_blk 1 (pc' := 124) (rows' := kb_122_88.drop 26) (loc' := [.inr (12, 0, 0, 72), .inl (.int d1), .inl (.int d2), .inr (20, 4, 0, rx3)]) (st' := []) (P1 := (ab_pI P18 rx3 3 v19)) rfl ⟨(ab_vi (by decide)), trivial⟩ ?_
  refine tr_lt (fun P20 => ?_)
  refine tr_goto ?_
  refine tr_nil (rows2 := kb_122_192) rfl (List.cons_ne_nil _ _) ?_
  refine tr_blk 2 (pc' := 195) (rows' := kb_122_192.drop 2) (loc' := [.inr (12, 0, 0, 72), .inl (.int d1), .inl (.int d2), .inr (20, 4, 0, rx3)]) (st' := [.inl (.int (59 : Int32)), .inr (12, 0, 0, 72)]) (P1 := P20) rfl ⟨trivial, trivial, trivial⟩ ?_
  refine tr_cWV (z := km_129) (av := [.inr (12, 0, 0, 72), .inl (.int (59 : Int32))]) (st' := []) rfl rfl rfl (Nat.le_of_ble_eq_true rfl) ⟨rfl, Or.inl (by decide)⟩ rfl (Nat.le_of_ble_eq_true rfl) (t_129 N (59 : Int32) P20) (fun P21 => ?_)
  exact tr_reV (z := km_122) rfl rfl rfl
def f_122_191 (N : Nat) (rs2 : Nat) (s0 : Int32) (s1 : Int32) (P : ab_P) : Option ab_P :=
    if ab_gi s1 4 then
    ab_lt (ab_pI P rs2 s1.toNatClampNeg s0) fun P30 =>
    Option.bind (f_129 N (59 : Int32) P30) fun P31 =>
    some P31
    else none
theorem t_122_191 {xs : Nat × (Nat → Int32)} {d : Nat} (N : Nat) : ∀ (rs2 : Nat) (s0 : Int32) (s1 : Int32) (d1 : Int32) (d2 : Int32) (rd3 : Nat) (P : ab_P), ab_tr xs wV (d + 5) 122 191 [] [.inr (12, 0, 0, 72), .inl (.int d1), .inl (.int d2), .inr (20, 4, 0, rd3)] [.inl (.int s0), .inl (.int s1), .inr (20, 4, 0, rs2)] P (f_122_191 N rs2 s0 s1 P) := by
  intro rs2 s0 s1 d1 d2 rd3 P
  unfold f_122_191
  refine tr_nil (rows2 := kb_122_191) rfl (List.cons_ne_nil _ _) ?_
  refine tr_gd (fun h29 => ?_)
  refine tr_blk 1 (pc' := 192) (rows' := kb_122_191.drop 1) (loc' := [.inr (12, 0, 0, 72), .inl (.int d1), .inl (.int d2), .inr (20, 4, 0, rd3)]) (st' := []) (P1 := (ab_pI P rs2 s1.toNatClampNeg s0)) rfl ⟨h29, trivial⟩ ?_
  refine tr_lt (fun P30 => ?_)
  refine tr_nil (rows2 := kb_122_192) rfl (List.cons_ne_nil _ _) ?_
  refine tr_blk 2 (pc' := 195) (rows' := kb_122_192.drop 2) (loc' := [.inr (12, 0, 0, 72), .inl (.int d1), .inl (.int d2), .inr (20, 4, 0, rd3)]) (st' := [.inl (.int (59 : Int32)), .inr (12, 0, 0, 72)]) (P1 := P30) rfl ⟨trivial, trivial, trivial⟩ ?_
  refine tr_cWV (z := km_129) (av := [.inr (12, 0, 0, 72), .inl (.int (59 : Int32))]) (st' := []) rfl rfl rfl (Nat.le_of_ble_eq_true rfl) ⟨rfl, Or.inl (by decide)⟩ rfl (Nat.le_of_ble_eq_true rfl) (t_129 N (59 : Int32) P30) (fun P31 => ?_)
  exact tr_reV (z := km_122) rfl rfl rfl
def f_122_173 (N : Nat) (rx3 : Nat) (rs1 : Nat) (x2 : Int32) (s0 : Int32) (P : ab_P) : Option ab_P :=
    if x2 = (4 : Int32) then
      ab_b2 (f_208 N (39 : Int32) (P.1 rx3 1) P) fun v35 P34 =>
      f_122_191 N rs1 v35 s0 P34
    else
    f_122_191 N rs1 (0 : Int32) s0 P
theorem t_122_173 {xs : Nat × (Nat → Int32)} {d : Nat} (N : Nat) : ∀ (rx3 : Nat) (rs1 : Nat) (x2 : Int32) (s0 : Int32) (d1 : Int32) (P : ab_P), ab_tr xs wV (d + 5) 122 173 [] [.inr (12, 0, 0, 72), .inl (.int d1), .inl (.int x2), .inr (20, 4, 0, rx3)] [.inl (.int s0), .inr (20, 4, 0, rs1)] P (f_122_173 N rx3 rs1 x2 s0 P) := by
  intro rx3 rs1 x2 s0 d1 P
  unfold f_122_173
  refine tr_nil (rows2 := kb_122_173) rfl (List.cons_ne_nil _ _) ?_
  refine tr_blk 2 (pc' := 175) (rows' := kb_122_173.drop 2) (loc' := [.inr (12, 0, 0, 72), .inl (.int d1), .inl (.int x2), .inr (20, 4, 0, rx3)]) (st' := [.inl (.int (4 : Int32)), .inl (.int x2), .inl (.int s0), .inr (20, 4, 0, rs1)]) (P1 := P) rfl ⟨trivial, trivial, trivial⟩ ?_
  refine tr_if (fun h36 => ?_) (fun h36 => ?_)
  · refine tr_icF (cd := .ne) (fun q => q h36) ?_
    refine tr_blk 5 (pc' := 184) (rows' := kb_122_173.drop 8) (loc' := [.inr (12, 0, 0, 72), .inl (.int d1), .inl (.int x2), .inr (20, 4, 0, rx3)]) (st' := [.inl (.int (P.1 rx3 1)), .inl (.int (39 : Int32)), .inr (12, 0, 0, 72), .inl (.int s0), .inr (20, 4, 0, rs1)]) (P1 := P) rfl ⟨trivial, trivial, trivial, trivial, (ab_vi (by decide)), trivial⟩ ?_
    refine tr_cWI (z := km_208) (av := [.inr (12, 0, 0, 72), .inl (.int (39 : Int32)), .inl (.int (P.1 rx3 1))]) (st' := [.inl (.int s0), .inr (20, 4, 0, rs1)]) rfl rfl rfl (Nat.le_of_ble_eq_true rfl) ⟨rfl, Or.inl (by decide)⟩ rfl (Nat.le_of_ble_eq_true rfl) (t_208 N (39 : Int32) (P.1 rx3 1) P) (fun v35 P34 => ?_)
    refine tr_goto ?_
    exact t_122_191 N rs1 v35 s0 (d1) (x2) (rx3) P34
  · refine tr_icT (cd := .ne) h36 ?_
    refine tr_nil (rows2 := kb_122_190) rfl (List.cons_ne_nil _ _) ?_
    refine tr_blk 1 (pc' := 191) (rows' := kb_122_190.drop 1) (loc' := [.inr (12, 0, 0, 72), .inl (.int d1), .inl (.int x2), .inr (20, 4, 0, rx3)]) (st' := [.inl (.int (0 : Int32)), .inl (.int s0), .inr (20, 4, 0, rs1)]) (P1 := P) rfl ⟨trivial, trivial⟩ ?_
    exact t_122_191 N rs1 (0 : Int32) s0 (d1) (x2) (rx3) P
def f_122_157 (N : Nat) (rx3 : Nat) (rs1 : Nat) (x2 : Int32) (s0 : Int32) (P : ab_P) : Option ab_P :=
    if x2 = (3 : Int32) then
      ab_b2 (f_128 N (1 : Int32) (999 : Int32) P) fun v33 P32 =>
      f_122_191 N rs1 v33 s0 P32
    else
    f_122_173 N rx3 rs1 x2 s0 P
theorem t_122_157 {xs : Nat × (Nat → Int32)} {d : Nat} (N : Nat) : ∀ (rx3 : Nat) (rs1 : Nat) (x2 : Int32) (s0 : Int32) (d1 : Int32) (P : ab_P), ab_tr xs wV (d + 5) 122 157 [] [.inr (12, 0, 0, 72), .inl (.int d1), .inl (.int x2), .inr (20, 4, 0, rx3)] [.inl (.int s0), .inr (20, 4, 0, rs1)] P (f_122_157 N rx3 rs1 x2 s0 P) := by
  intro rx3 rs1 x2 s0 d1 P
  unfold f_122_157
  refine tr_nil (rows2 := kb_122_157) rfl (List.cons_ne_nil _ _) ?_
  refine tr_blk 2 (pc' := 159) (rows' := kb_122_157.drop 2) (loc' := [.inr (12, 0, 0, 72), .inl (.int d1), .inl (.int x2), .inr (20, 4, 0, rx3)]) (st' := [.inl (.int (3 : Int32)), .inl (.int x2), .inl (.int s0), .inr (20, 4, 0, rs1)]) (P1 := P) rfl ⟨trivial, trivial, trivial⟩ ?_
  refine tr_if (fun h37 => ?_) (fun h37 => ?_)
  · refine tr_icF (cd := .ne) (fun q => q h37) ?_
    refine tr_blk 3 (pc' := 167) (rows' := kb_122_157.drop 6) (loc' := [.inr (12, 0, 0, 72), .inl (.int d1), .inl (.int x2), .inr (20, 4, 0, rx3)]) (st' := [.inl (.int (999 : Int32)), .inl (.int (1 : Int32)), .inr (12, 0, 0, 72), .inl (.int s0), .inr (20, 4, 0, rs1)]) (P1 := P) rfl ⟨trivial, trivial, trivial, trivial⟩ ?_
    refine tr_cWI (z := km_128) (av := [.inr (12, 0, 0, 72), .inl (.int (1 : Int32)), .inl (.int (999 : Int32))]) (st' := [.inl (.int s0), .inr (20, 4, 0, rs1)]) rfl rfl rfl (Nat.le_of_ble_eq_true rfl) ⟨rfl, Or.inl (by decide)⟩ rfl (Nat.le_of_ble_eq_true rfl) (t_128 N (1 : Int32) (999 : Int32) P) (fun v33 P32 => ?_)
    refine tr_goto ?_
    exact t_122_191 N rs1 v33 s0 (d1) (x2) (rx3) P32
  · refine tr_icT (cd := .ne) h37 ?_
    exact t_122_173 N rx3 rs1 x2 s0 (d1) P
def f_122_127 (N : Nat) (rx3 : Nat) (x2 : Int32) (P : ab_P) : Option ab_P :=
    ab_b2 (f_128 N (0 : Int32) (39 : Int32) P) fun v23 P22 =>
    ab_lt (ab_pI P22 rx3 1 v23) fun P24 =>
    if x2 = (2 : Int32) then
      ab_b2 (f_126 N P24) fun v26 P25 =>
      f_122_191 N rx3 v26 (2 : Int32) P25
    else
    if x2 = (7 : Int32) then
      ab_b2 (f_126 N P24) fun v28 P27 =>
      f_122_191 N rx3 v28 (2 : Int32) P27
    else
    f_122_157 N rx3 rx3 x2 (2 : Int32) P24
theorem t_122_127 {xs : Nat × (Nat → Int32)} {d : Nat} (N : Nat) : ∀ (rx3 : Nat) (x2 : Int32) (d1 : Int32) (P : ab_P), ab_tr xs wV (d + 5) 122 127 [] [.inr (12, 0, 0, 72), .inl (.int d1), .inl (.int x2), .inr (20, 4, 0, rx3)] [] P (f_122_127 N rx3 x2 P) := by
  intro rx3 x2 d1 P
  unfold f_122_127
  refine tr_nil (rows2 := kb_122_127) rfl (List.cons_ne_nil _ _) ?_
  refine tr_blk 5 (pc' := 133) (rows' := kb_122_127.drop 5) (loc' := [.inr (12, 0, 0, 72), .inl (.int d1), .inl (.int x2), .inr (20, 4, 0, rx3)]) (st' := [.inl (.int (39 : Int32)), .inl (.int (0 : Int32)), .inr (12, 0, 0, 72), .inl (.int (1 : Int32)), .inr (20, 4, 0, rx3)]) (P1 := P) rfl ⟨trivial, trivial, trivial, trivial, trivial, trivial⟩ ?_
  refine tr_cWI (z := km_128) (av := [.inr (12, 0, 0, 72), .inl (.int (0 : Int32)), .inl (.int (39 : Int32))]) (st' := [.inl (.int (1 : Int32)), .inr (20, 4, 0, rx3)]) rfl rfl rfl (Nat.le_of_ble_eq_true rfl) ⟨rfl, Or.inl (by decide)⟩ rfl (Nat.le_of_ble_eq_true rfl) (t_128 N (0 : Int32) (39 : Int32) P) (fun v23 P22 => ?_)
  refine tr_blk 1 (pc' := 137) (rows' := kb_122_127.drop 7) (loc' := [.inr (12, 0, 0, 72), .inl (.int d1), .inl (.int x2), .inr (20, 4, 0, rx3)]) (st' := []) (P1 := (ab_pI P22 rx3 1 v23)) rfl ⟨(ab_vi (by decide)), trivial⟩ ?_
  refine tr_lt (fun P24 => ?_)
  refine tr_blk 4 (pc' := 141) (rows' := kb_122_127.drop 11) (loc' := [.inr (12, 0, 0, 72), .inl (.int d1), .inl (.int x2), .inr (20, 4, 0, rx3)]) (st' := [.inl (.int (2 : Int32)), .inl (.int x2), .inl (.int (2 : Int32)), .inr (20, 4, 0, rx3)]) (P1 := P24) rfl ⟨trivial, trivial, trivial, trivial, trivial⟩ ?_
  refine tr_if (fun h38 => ?_) (fun h38 => ?_)
  · refine tr_icT (cd := .eq) h38 ?_
    refine tr_nil (rows2 := kb_122_150) rfl (List.cons_ne_nil _ _) ?_
    refine tr_blk 1 (pc' := 151) (rows' := kb_122_150.drop 1) (loc' := [.inr (12, 0, 0, 72), .inl (.int d1), .inl (.int x2), .inr (20, 4, 0, rx3)]) (st' := [.inr (12, 0, 0, 72), .inl (.int (2 : Int32)), .inr (20, 4, 0, rx3)]) (P1 := P24) rfl ⟨trivial, trivial⟩ ?_
    refine tr_cWI (z := km_126) (av := [.inr (12, 0, 0, 72)]) (st' := [.inl (.int (2 : Int32)), .inr (20, 4, 0, rx3)]) rfl rfl rfl (Nat.le_of_ble_eq_true rfl) ⟨rfl, Or.inl (by decide)⟩ rfl (Nat.le_of_ble_eq_true rfl) (t_126 N P24) (fun v26 P25 => ?_)
    refine tr_goto ?_
    exact t_122_191 N rx3 v26 (2 : Int32) (d1) (x2) (rx3) P25
  · refine tr_icF (cd := .eq) h38 ?_
    refine tr_blk 2 (pc' := 147) (rows' := kb_122_127.drop 14) (loc' := [.inr (12, 0, 0, 72), .inl (.int d1), .inl (.int x2), .inr (20, 4, 0, rx3)]) (st' := [.inl (.int (7 : Int32)), .inl (.int x2), .inl (.int (2 : Int32)), .inr (20, 4, 0, rx3)]) (P1 := P24) rfl ⟨trivial, trivial, trivial⟩ ?_
    refine tr_if (fun h39 => ?_) (fun h39 => ?_)
    · refine tr_icF (cd := .ne) (fun q => q h39) ?_
      refine tr_nil (rows2 := kb_122_150) rfl (List.cons_ne_nil _ _) ?_
      refine tr_blk 1 (pc' := 151) (rows' := kb_122_150.drop 1) (loc' := [.inr (12, 0, 0, 72), .inl (.int d1), .inl (.int x2), .inr (20, 4, 0, rx3)]) (st' := [.inr (12, 0, 0, 72), .inl (.int (2 : Int32)), .inr (20, 4, 0, rx3)]) (P1 := P24) rfl ⟨trivial, trivial⟩ ?_
      refine tr_cWI (z := km_126) (av := [.inr (12, 0, 0, 72)]) (st' := [.inl (.int (2 : Int32)), .inr (20, 4, 0, rx3)]) rfl rfl rfl (Nat.le_of_ble_eq_true rfl) ⟨rfl, Or.inl (by decide)⟩ rfl (Nat.le_of_ble_eq_true rfl) (t_126 N P24) (fun v28 P27 => ?_)
      refine tr_goto ?_
      exact t_122_191 N rx3 v28 (2 : Int32) (d1) (x2) (rx3) P27
    · refine tr_icT (cd := .ne) h39 ?_
      exact t_122_157 N rx3 rx3 x2 (2 : Int32) (d1) P24
def f_122_45 (N : Nat) (x1 : Int32) (x2 : Int32) (P : ab_P) : Option ab_P :=
    Option.bind (f_207 N P) fun P5 =>
    if ab_gi x1 30 then
    ab_lt (ab_pI P5 (444 + 1 + x1.toNatClampNeg) 0 x2) fun P7 =>
    if x2 = (0 : Int32) then
      ab_b2 (f_128 N (1 : Int32) (30 : Int32) P7) fun v9 P8 =>
      ab_lt (ab_pI P8 (444 + 1 + x1.toNatClampNeg) 1 v9) fun P10 =>
      Option.bind (f_129 N (59 : Int32) P10) fun P11 =>
      some P11
    else
    if x2 = (1 : Int32) then
      f_122_88 N (444 + 1 + x1.toNatClampNeg) P7
    else
    if x2 = (9 : Int32) then
      f_122_88 N (444 + 1 + x1.toNatClampNeg) P7
    else
    f_122_127 N (444 + 1 + x1.toNatClampNeg) x2 P7
    else none
theorem t_122_45 {xs : Nat × (Nat → Int32)} {d : Nat} (N : Nat) : ∀ (x1 : Int32) (x2 : Int32) (P : ab_P), ab_tr xs wV (d + 5) 122 45 [] [.inr (12, 0, 0, 72), .inl (.int x1), .inl (.int x2), ab_top] [] P (f_122_45 N x1 x2 P) := by
  intro x1 x2 P
  unfold f_122_45
  refine tr_nil (rows2 := kb_122_45) rfl (List.cons_ne_nil _ _) ?_
  refine tr_blk 1 (pc' := 46) (rows' := kb_122_45.drop 1) (loc' := [.inr (12, 0, 0, 72), .inl (.int x1), .inl (.int x2), ab_top]) (st' := [.inr (12, 0, 0, 72)]) (P1 := P) rfl ⟨trivial, trivial⟩ ?_
  refine tr_cWV (z := km_207) (av := [.inr (12, 0, 0, 72)]) (st' := []) rfl rfl rfl (Nat.le_of_ble_eq_true rfl) ⟨rfl, Or.inl (by decide)⟩ rfl (Nat.le_of_ble_eq_true rfl) (t_207 N P) (fun P5 => ?_)
  refine tr_gd (fun h6 => ?_)
  refine tr_blk 9 (pc' := 60) (rows' := kb_122_45.drop 11) (loc' := [.inr (12, 0, 0, 72), .inl (.int x1), .inl (.int x2), .inr (20, 4, 0, (444 + 1 + x1.toNatClampNeg))]) (st' := []) (P1 := (ab_pI P5 (444 + 1 + x1.toNatClampNeg) 0 x2)) rfl ⟨trivial, trivial, trivial, ⟨h6, ab_grl h6⟩, trivial, trivial, trivial, trivial, (ab_vi (by decide)), trivial⟩ ?_
  refine tr_lt (fun P7 => ?_)
  refine tr_blk 1 (pc' := 61) (rows' := kb_122_45.drop 12) (loc' := [.inr (12, 0, 0, 72), .inl (.int x1), .inl (.int x2), .inr (20, 4, 0, (444 + 1 + x1.toNatClampNeg))]) (st' := [.inl (.int x2)]) (P1 := P7) rfl ⟨trivial, trivial⟩ ?_
  refine tr_if (fun h40 => ?_) (fun h40 => ?_)
  · refine tr_ifF (cd := .ne) (fun q => q h40) ?_
    refine tr_blk 5 (pc' := 70) (rows' := kb_122_45.drop 18) (loc' := [.inr (12, 0, 0, 72), .inl (.int x1), .inl (.int x2), .inr (20, 4, 0, (444 + 1 + x1.toNatClampNeg))]) (st' := [.inl (.int (30 : Int32)), .inl (.int (1 : Int32)), .inr (12, 0, 0, 72), .inl (.int (1 : Int32)), .inr (20, 4, 0, (444 + 1 + x1.toNatClampNeg))]) (P1 := P7) rfl ⟨trivial, trivial, trivial, trivial, trivial, trivial⟩ ?_
    refine tr_cWI (z := km_128) (av := [.inr (12, 0, 0, 72), .inl (.int (1 : Int32)), .inl (.int (30 : Int32))]) (st' := [.inl (.int (1 : Int32)), .inr (20, 4, 0, (444 + 1 + x1.toNatClampNeg))]) rfl rfl rfl (Nat.le_of_ble_eq_true rfl) ⟨rfl, Or.inl (by decide)⟩ rfl (Nat.le_of_ble_eq_true rfl) (t_128 N (1 : Int32) (30 : Int32) P7) (fun v9 P8 => ?_)
    refine tr_blk 1 (pc' := 74) (rows' := kb_122_45.drop 20) (loc' := [.inr (12, 0, 0, 72), .inl (.int x1), .inl (.int x2), .inr (20, 4, 0, (444 + 1 + x1.toNatClampNeg))]) (st' := []) (P1 := (ab_pI P8 (444 + 1 + x1.toNatClampNeg) 1 v9)) rfl ⟨(ab_vi (by decide)), trivial⟩ ?_
    refine tr_lt (fun P10 => ?_)
    refine tr_goto ?_
    refine tr_nil (rows2 := kb_122_192) rfl (List.cons_ne_nil _ _) ?_
    refine tr_blk 2 (pc' := 195) (rows' := kb_122_192.drop 2) (loc' := [.inr (12, 0, 0, 72), .inl (.int x1), .inl (.int x2), .inr (20, 4, 0, (444 + 1 + x1.toNatClampNeg))]) (st' := [.inl (.int (59 : Int32)), .inr (12, 0, 0, 72)]) (P1 := P10) rfl ⟨trivial, trivial, trivial⟩ ?_
    refine tr_cWV (z := km_129) (av := [.inr (12, 0, 0, 72), .inl (.int (59 : Int32))]) (st' := []) rfl rfl rfl (Nat.le_of_ble_eq_true rfl) ⟨rfl, Or.inl (by decide)⟩ rfl (Nat.le_of_ble_eq_true rfl) (t_129 N (59 : Int32) P10) (fun P11 => ?_)
    exact tr_reV (z := km_122) rfl rfl rfl
  · refine tr_ifT (cd := .ne) h40 ?_
    refine tr_nil (rows2 := kb_122_77) rfl (List.cons_ne_nil _ _) ?_
    refine tr_blk 2 (pc' := 79) (rows' := kb_122_77.drop 2) (loc' := [.inr (12, 0, 0, 72), .inl (.int x1), .inl (.int x2), .inr (20, 4, 0, (444 + 1 + x1.toNatClampNeg))]) (st' := [.inl (.int (1 : Int32)), .inl (.int x2)]) (P1 := P7) rfl ⟨trivial, trivial, trivial⟩ ?_
    refine tr_if (fun h41 => ?_) (fun h41 => ?_)
    · refine tr_icT (cd := .eq) h41 ?_
      exact t_122_88 N (444 + 1 + x1.toNatClampNeg) (x1) (x2) P7
    · refine tr_icF (cd := .eq) h41 ?_
      refine tr_blk 2 (pc' := 85) (rows' := kb_122_77.drop 5) (loc' := [.inr (12, 0, 0, 72), .inl (.int x1), .inl (.int x2), .inr (20, 4, 0, (444 + 1 + x1.toNatClampNeg))]) (st' := [.inl (.int (9 : Int32)), .inl (.int x2)]) (P1 := P7) rfl ⟨trivial, trivial, trivial⟩ ?_
      refine tr_if (fun h42 => ?_) (fun h42 => ?_)
      · refine tr_icF (cd := .ne) (fun q => q h42) ?_
        exact t_122_88 N (444 + 1 + x1.toNatClampNeg) (x1) (x2) P7
      · refine tr_icT (cd := .ne) h42 ?_
        exact t_122_127 N (444 + 1 + x1.toNatClampNeg) x2 (x1) P7
def f_122 (N : Nat) (a1 : Int32) (P : ab_P) : Option ab_P :=
    ab_b2 (f_217 N P) fun v2 P1 =>
    if v2 = (-1 : Int32) then
      Option.bind (f_120 (1 : Int32) (P1.1 72 4) P1) fun P4 =>
      if (P4.1 72 5) = (0 : Int32) then
        f_122_45 N a1 v2 P4
      else
      some P4
    else
    if a1 = (30 : Int32) then
      Option.bind (f_120 (3 : Int32) (P1.1 72 4) P1) fun P3 =>
      if (P3.1 72 5) = (0 : Int32) then
        f_122_45 N a1 v2 P3
      else
      some P3
    else
    if (P1.1 72 5) = (0 : Int32) then
      f_122_45 N a1 v2 P1
    else
    some P1
theorem t_122 {xs : Nat × (Nat → Int32)} {d : Nat} (N : Nat) : ∀ (a1 : Int32) (P : ab_P), ab_tr xs wV (d + 5) 122 0 [] [.inr (12, 0, 0, 72), .inl (.int a1), ab_top, ab_top] [] P (f_122 N a1 P) := by
  intro a1 P
  unfold f_122
  refine tr_nil (rows2 := kb_122_0) rfl (List.cons_ne_nil _ _) ?_
  refine tr_blk 1 (pc' := 1) (rows' := kb_122_0.drop 1) (loc' := [.inr (12, 0, 0, 72), .inl (.int a1), ab_top, ab_top]) (st' := [.inr (12, 0, 0, 72)]) (P1 := P) rfl ⟨trivial, trivial⟩ ?_
  refine tr_cWI (z := km_217) (av := [.inr (12, 0, 0, 72)]) (st' := []) rfl rfl rfl (Nat.le_of_ble_eq_true rfl) ⟨rfl, Or.inl (by decide)⟩ rfl (Nat.le_of_ble_eq_true rfl) (t_217 N P) (fun v2 P1 => ?_)
  refine tr_blk 3 (pc' := 7) (rows' := kb_122_0.drop 5) (loc' := [.inr (12, 0, 0, 72), .inl (.int a1), .inl (.int v2), ab_top]) (st' := [.inl (.int (-1 : Int32)), .inl (.int v2)]) (P1 := P1) rfl ⟨trivial, trivial, trivial, trivial⟩ ?_
  refine tr_if (fun h43 => ?_) (fun h43 => ?_)
  · refine tr_icF (cd := .ne) (fun q => q h43) ?_
    refine tr_blk 4 (pc' := 16) (rows' := kb_122_0.drop 10) (loc' := [.inr (12, 0, 0, 72), .inl (.int a1), .inl (.int v2), ab_top]) (st' := [.inl (.int (P1.1 72 4)), .inl (.int (1 : Int32)), .inr (12, 0, 0, 72)]) (P1 := P1) rfl ⟨trivial, trivial, trivial, trivial, trivial⟩ ?_
    refine tr_cWV (z := km_120) (av := [.inr (12, 0, 0, 72), .inl (.int (1 : Int32)), .inl (.int (P1.1 72 4))]) (st' := []) rfl rfl rfl (Nat.le_of_ble_eq_true rfl) ⟨rfl, Or.inl (by decide)⟩ rfl (Nat.le_of_ble_eq_true rfl) (t_120 (1 : Int32) (P1.1 72 4) P1) (fun P4 => ?_)
    refine tr_goto ?_
    refine tr_nil (rows2 := kb_122_37) rfl (List.cons_ne_nil _ _) ?_
    refine tr_blk 2 (pc' := 41) (rows' := kb_122_37.drop 2) (loc' := [.inr (12, 0, 0, 72), .inl (.int a1), .inl (.int v2), ab_top]) (st' := [.inl (.int (P4.1 72 5))]) (P1 := P4) rfl ⟨trivial, trivial, trivial⟩ ?_
    refine tr_if (fun h47 => ?_) (fun h47 => ?_)
    · refine tr_ifT (cd := .eq) h47 ?_
      exact t_122_45 N a1 v2 P4
    · refine tr_ifF (cd := .eq) h47 ?_
      exact tr_reV (z := km_122) rfl rfl rfl
  · refine tr_icT (cd := .ne) h43 ?_
    refine tr_nil (rows2 := kb_122_22) rfl (List.cons_ne_nil _ _) ?_
    refine tr_blk 2 (pc' := 25) (rows' := kb_122_22.drop 2) (loc' := [.inr (12, 0, 0, 72), .inl (.int a1), .inl (.int v2), ab_top]) (st' := [.inl (.int (30 : Int32)), .inl (.int a1)]) (P1 := P1) rfl ⟨trivial, trivial, trivial⟩ ?_
    refine tr_if (fun h44 => ?_) (fun h44 => ?_)
    · refine tr_icF (cd := .ne) (fun q => q h44) ?_
      refine tr_blk 4 (pc' := 34) (rows' := kb_122_22.drop 7) (loc' := [.inr (12, 0, 0, 72), .inl (.int a1), .inl (.int v2), ab_top]) (st' := [.inl (.int (P1.1 72 4)), .inl (.int (3 : Int32)), .inr (12, 0, 0, 72)]) (P1 := P1) rfl ⟨trivial, trivial, trivial, trivial, trivial⟩ ?_
      refine tr_cWV (z := km_120) (av := [.inr (12, 0, 0, 72), .inl (.int (3 : Int32)), .inl (.int (P1.1 72 4))]) (st' := []) rfl rfl rfl (Nat.le_of_ble_eq_true rfl) ⟨rfl, Or.inl (by decide)⟩ rfl (Nat.le_of_ble_eq_true rfl) (t_120 (3 : Int32) (P1.1 72 4) P1) (fun P3 => ?_)
      refine tr_nil (rows2 := kb_122_37) rfl (List.cons_ne_nil _ _) ?_
      refine tr_blk 2 (pc' := 41) (rows' := kb_122_37.drop 2) (loc' := [.inr (12, 0, 0, 72), .inl (.int a1), .inl (.int v2), ab_top]) (st' := [.inl (.int (P3.1 72 5))]) (P1 := P3) rfl ⟨trivial, trivial, trivial⟩ ?_
      refine tr_if (fun h46 => ?_) (fun h46 => ?_)
      · refine tr_ifT (cd := .eq) h46 ?_
        exact t_122_45 N a1 v2 P3
      · refine tr_ifF (cd := .eq) h46 ?_
        exact tr_reV (z := km_122) rfl rfl rfl
    · refine tr_icT (cd := .ne) h44 ?_
      refine tr_nil (rows2 := kb_122_37) rfl (List.cons_ne_nil _ _) ?_
      refine tr_blk 2 (pc' := 41) (rows' := kb_122_37.drop 2) (loc' := [.inr (12, 0, 0, 72), .inl (.int a1), .inl (.int v2), ab_top]) (st' := [.inl (.int (P1.1 72 5))]) (P1 := P1) rfl ⟨trivial, trivial, trivial⟩ ?_
      refine tr_if (fun h45 => ?_) (fun h45 => ?_)
      · refine tr_ifT (cd := .eq) h45 ?_
        exact t_122_45 N a1 v2 P1
      · refine tr_ifF (cd := .eq) h45 ?_
        exact tr_reV (z := km_122) rfl rfl rfl
def f_135_366 (i0 : Nat) (P : ab_P) (a1 : Int32) (a2 : Int32) : Option Int32 :=
    if ab_gi (((9 : Int32) * a1) + a2) 366 then
    some (P.1 i0 ((((9 : Int32) * a1) + a2)).toNatClampNeg)
    else none
theorem t_135_366 {xs : Nat × (Nat → Int32)} {d : Nat} (i0 : Nat) (P : ab_P) : ∀ (a1 : Int32) (a2 : Int32), ab_tr xs (rI P) (d + 0) 135 0 [] [.inr (20, 366, 0, i0), .inl (.int a1), .inl (.int a2)] [] P (f_135_366 i0 P a1 a2) := by
  intro a1 a2
  unfold f_135_366
  refine tr_nil (rows2 := kb_135_0) rfl (List.cons_ne_nil _ _) ?_
  refine tr_gd (fun h1 => ?_)
  refine tr_blk 7 (pc' := 8) (rows' := kb_135_0.drop 7) (loc' := [.inr (20, 366, 0, i0), .inl (.int a1), .inl (.int a2)]) (st' := [.inl (.int (P.1 i0 ((((9 : Int32) * a1) + a2)).toNatClampNeg))]) (P1 := P) rfl ⟨trivial, trivial, trivial, trivial, trivial, trivial, h1, trivial⟩ ?_
  exact tr_reI (z := km_135) rfl ⟨_, rfl, rfl⟩ rfl
def f_144_366 (i0 : Nat) (P : ab_P) (a1 : Int32) : Option Int32 :=
    if a1 < (P.1 i0 360) then
      Option.bind (f_135_366 i0 P a1 (7 : Int32)) fun v1 =>
      if v1 = (0 : Int32) then
        some (1 : Int32)
      else
      some (0 : Int32)
    else
    some (0 : Int32)
theorem t_144_366 {xs : Nat × (Nat → Int32)} {d : Nat} (i0 : Nat) (P : ab_P) : ∀ (a1 : Int32), ab_tr xs (rI P) (d + 1) 144 0 [] [.inr (20, 366, 0, i0), .inl (.int a1)] [] P (f_144_366 i0 P a1) := by
  intro a1
  unfold f_144_366
  refine tr_nil (rows2 := kb_144_0) rfl (List.cons_ne_nil _ _) ?_
  refine tr_blk 4 (pc' := 6) (rows' := kb_144_0.drop 4) (loc' := [.inr (20, 366, 0, i0), .inl (.int a1)]) (st' := [.inl (.int (P.1 i0 360)), .inl (.int a1)]) (P1 := P) rfl ⟨trivial, trivial, trivial, (ab_vi (by decide)), trivial⟩ ?_
  refine tr_if (fun h2 => ?_) (fun h2 => ?_)
  · refine tr_icF (cd := .ge) (Int32.not_le.mpr h2) ?_
    refine tr_blk 3 (pc' := 13) (rows' := kb_144_0.drop 8) (loc' := [.inr (20, 366, 0, i0), .inl (.int a1)]) (st' := [.inl (.int (7 : Int32)), .inl (.int a1), .inr (20, 366, 0, i0)]) (P1 := P) rfl ⟨trivial, trivial, trivial, trivial⟩ ?_
    refine tr_cRI (z := km_135) (av := [.inr (20, 366, 0, i0), .inl (.int a1), .inl (.int (7 : Int32))]) (st' := []) rfl rfl rfl (Nat.le_of_ble_eq_true rfl) trivial rfl (Nat.le_of_ble_eq_true rfl) (t_135_366 i0 P a1 (7 : Int32)) (fun v1 => ?_)
    refine tr_if (fun h3 => ?_) (fun h3 => ?_)
    · refine tr_ifF (cd := .ne) (fun q => q h3) ?_
      refine tr_blk 1 (pc' := 20) (rows' := kb_144_0.drop 11) (loc' := [.inr (20, 366, 0, i0), .inl (.int a1)]) (st' := [.inl (.int (1 : Int32))]) (P1 := P) rfl ⟨trivial, trivial⟩ ?_
      refine tr_goto ?_
      refine tr_nil (rows2 := kb_144_24) rfl (List.cons_ne_nil _ _) ?_
      exact tr_reI (z := km_144) rfl ⟨_, rfl, rfl⟩ rfl
    · refine tr_ifT (cd := .ne) h3 ?_
      refine tr_nil (rows2 := kb_144_23) rfl (List.cons_ne_nil _ _) ?_
      refine tr_blk 1 (pc' := 24) (rows' := kb_144_23.drop 1) (loc' := [.inr (20, 366, 0, i0), .inl (.int a1)]) (st' := [.inl (.int (0 : Int32))]) (P1 := P) rfl ⟨trivial, trivial⟩ ?_
      refine tr_nil (rows2 := kb_144_24) rfl (List.cons_ne_nil _ _) ?_
      exact tr_reI (z := km_144) rfl ⟨_, rfl, rfl⟩ rfl
  · refine tr_icT (cd := .ge) (Int32.not_lt.mp h2) ?_
    refine tr_nil (rows2 := kb_144_23) rfl (List.cons_ne_nil _ _) ?_
    refine tr_blk 1 (pc' := 24) (rows' := kb_144_23.drop 1) (loc' := [.inr (20, 366, 0, i0), .inl (.int a1)]) (st' := [.inl (.int (0 : Int32))]) (P1 := P) rfl ⟨trivial, trivial⟩ ?_
    refine tr_nil (rows2 := kb_144_24) rfl (List.cons_ne_nil _ _) ?_
    exact tr_reI (z := km_144) rfl ⟨_, rfl, rfl⟩ rfl
def f_223_366 (i0 : Nat) (a1 : Int32) (a2 : Int32) (P : ab_P) : Option ab_P :=
    Option.bind (f_281_366 i0 a1 (7 : Int32) a2 P) fun P1 =>
    if a2 < (4 : Int32) then
      if ab_gi ((362 : Int32) + a2) 366 then
      Option.bind (f_135_366 i0 P1 a1 (2 : Int32)) fun v3 =>
      if ab_gi ((362 : Int32) + a2) 366 then
      ab_lt (ab_pI P1 i0 (((362 : Int32) + a2)).toNatClampNeg ((P1.1 i0 (((362 : Int32) + a2)).toNatClampNeg) + v3)) fun P5 =>
      some P5
      else none
      else none
    else
    some P1
theorem t_223_366 {xs : Nat × (Nat → Int32)} {d : Nat} (i0 : Nat) : ∀ (a1 : Int32) (a2 : Int32) (P : ab_P), ab_tr xs wV (d + 1) 223 0 [] [.inr (20, 366, 0, i0), .inl (.int a1), .inl (.int a2)] [] P (f_223_366 i0 a1 a2 P) := by
  intro a1 a2 P
  unfold f_223_366
  refine tr_nil (rows2 := kb_223_0) rfl (List.cons_ne_nil _ _) ?_
  refine tr_blk 4 (pc' := 5) (rows' := kb_223_0.drop 4) (loc' := [.inr (20, 366, 0, i0), .inl (.int a1), .inl (.int a2)]) (st' := [.inl (.int a2), .inl (.int (7 : Int32)), .inl (.int a1), .inr (20, 366, 0, i0)]) (P1 := P) rfl ⟨trivial, trivial, trivial, trivial, trivial⟩ ?_
  refine tr_cWV (z := km_281) (av := [.inr (20, 366, 0, i0), .inl (.int a1), .inl (.int (7 : Int32)), .inl (.int a2)]) (st' := []) rfl rfl rfl (Nat.le_of_ble_eq_true rfl) trivial rfl (Nat.le_of_ble_eq_true rfl) (t_281_366 i0 a1 (7 : Int32) a2 P) (fun P1 => ?_)
  refine tr_blk 2 (pc' := 10) (rows' := kb_223_0.drop 7) (loc' := [.inr (20, 366, 0, i0), .inl (.int a1), .inl (.int a2)]) (st' := [.inl (.int (4 : Int32)), .inl (.int a2)]) (P1 := P1) rfl ⟨trivial, trivial, trivial⟩ ?_
  refine tr_if (fun h6 => ?_) (fun h6 => ?_)
  · refine tr_icF (cd := .ge) (Int32.not_le.mpr h6) ?_
    refine tr_gd (fun h2 => ?_)
    refine tr_blk 9 (pc' := 24) (rows' := kb_223_0.drop 17) (loc' := [.inr (20, 366, 0, i0), .inl (.int a1), .inl (.int a2)]) (st' := [.inl (.int (2 : Int32)), .inl (.int a1), .inr (20, 366, 0, i0), .inl (.int (P1.1 i0 (((362 : Int32) + a2)).toNatClampNeg)), .inl (.int ((362 : Int32) + a2)), .inr (20, 366, 0, i0)]) (P1 := P1) rfl ⟨trivial, trivial, trivial, trivial, trivial, h2, trivial, trivial, trivial, trivial⟩ ?_
    refine tr_cRI (z := km_135) (av := [.inr (20, 366, 0, i0), .inl (.int a1), .inl (.int (2 : Int32))]) (st' := [.inl (.int (P1.1 i0 (((362 : Int32) + a2)).toNatClampNeg)), .inl (.int ((362 : Int32) + a2)), .inr (20, 366, 0, i0)]) rfl rfl rfl (Nat.le_of_ble_eq_true rfl) trivial rfl (Nat.le_of_ble_eq_true rfl) (t_135_366 i0 P1 a1 (2 : Int32)) (fun v3 => ?_)
    refine tr_gd (fun h4 => ?_)
    refine tr_blk 2 (pc' := 29) (rows' := kb_223_0.drop 20) (loc' := [.inr (20, 366, 0, i0), .inl (.int a1), .inl (.int a2)]) (st' := []) (P1 := (ab_pI P1 i0 (((362 : Int32) + a2)).toNatClampNeg ((P1.1 i0 (((362 : Int32) + a2)).toNatClampNeg) + v3))) rfl ⟨trivial, h4, trivial⟩ ?_
    refine tr_lt (fun P5 => ?_)
    refine tr_nil (rows2 := kb_223_29) rfl (List.cons_ne_nil _ _) ?_
    exact tr_reV (z := km_223) rfl rfl rfl
  · refine tr_icT (cd := .ge) (Int32.not_lt.mp h6) ?_
    refine tr_nil (rows2 := kb_223_29) rfl (List.cons_ne_nil _ _) ?_
    exact tr_reV (z := km_223) rfl rfl rfl
def f_219_366 (i0 : Nat) (a1 : Int32) (a2 : Int32) (P : ab_P) : Option ab_P :=
    Option.bind (f_281_366 i0 a1 (1 : Int32) a2 P) fun P1 =>
    Option.bind (f_135_366 i0 P1 a1 (4 : Int32)) fun v2 =>
    Option.bind (f_281_366 i0 a1 (4 : Int32) (v2 + (1 : Int32)) P1) fun P3 =>
    Option.bind (f_135_366 i0 P3 a1 (0 : Int32)) fun v4 =>
    if v4 = a2 then
      Option.bind (f_223_366 i0 a1 (3 : Int32) P3) fun P5 =>
      some P5
    else
    some P3
theorem t_219_366 {xs : Nat × (Nat → Int32)} {d : Nat} (i0 : Nat) : ∀ (a1 : Int32) (a2 : Int32) (P : ab_P), ab_tr xs wV (d + 2) 219 0 [] [.inr (20, 366, 0, i0), .inl (.int a1), .inl (.int a2)] [] P (f_219_366 i0 a1 a2 P) := by
  intro a1 a2 P
  unfold f_219_366
  refine tr_nil (rows2 := kb_219_0) rfl (List.cons_ne_nil _ _) ?_
  refine tr_blk 4 (pc' := 4) (rows' := kb_219_0.drop 4) (loc' := [.inr (20, 366, 0, i0), .inl (.int a1), .inl (.int a2)]) (st' := [.inl (.int a2), .inl (.int (1 : Int32)), .inl (.int a1), .inr (20, 366, 0, i0)]) (P1 := P) rfl ⟨trivial, trivial, trivial, trivial, trivial⟩ ?_
  refine tr_cWV (z := km_281) (av := [.inr (20, 366, 0, i0), .inl (.int a1), .inl (.int (1 : Int32)), .inl (.int a2)]) (st' := []) rfl rfl rfl (Nat.le_of_ble_eq_true rfl) trivial rfl (Nat.le_of_ble_eq_true rfl) (t_281_366 i0 a1 (1 : Int32) a2 P) (fun P1 => ?_)
  refine tr_blk 6 (pc' := 13) (rows' := kb_219_0.drop 11) (loc' := [.inr (20, 366, 0, i0), .inl (.int a1), .inl (.int a2)]) (st' := [.inl (.int (4 : Int32)), .inl (.int a1), .inr (20, 366, 0, i0), .inl (.int (4 : Int32)), .inl (.int a1), .inr (20, 366, 0, i0)]) (P1 := P1) rfl ⟨trivial, trivial, trivial, trivial, trivial, trivial, trivial⟩ ?_
  refine tr_cRI (z := km_135) (av := [.inr (20, 366, 0, i0), .inl (.int a1), .inl (.int (4 : Int32))]) (st' := [.inl (.int (4 : Int32)), .inl (.int a1), .inr (20, 366, 0, i0)]) rfl rfl rfl (Nat.le_of_ble_eq_true rfl) trivial rfl (Nat.le_of_ble_eq_true rfl) (t_135_366 i0 P1 a1 (4 : Int32)) (fun v2 => ?_)
  refine tr_blk 2 (pc' := 18) (rows' := kb_219_0.drop 14) (loc' := [.inr (20, 366, 0, i0), .inl (.int a1), .inl (.int a2)]) (st' := [.inl (.int (v2 + (1 : Int32))), .inl (.int (4 : Int32)), .inl (.int a1), .inr (20, 366, 0, i0)]) (P1 := P1) rfl ⟨trivial, trivial, trivial⟩ ?_
  refine tr_cWV (z := km_281) (av := [.inr (20, 366, 0, i0), .inl (.int a1), .inl (.int (4 : Int32)), .inl (.int (v2 + (1 : Int32)))]) (st' := []) rfl rfl rfl (Nat.le_of_ble_eq_true rfl) trivial rfl (Nat.le_of_ble_eq_true rfl) (t_281_366 i0 a1 (4 : Int32) (v2 + (1 : Int32)) P1) (fun P3 => ?_)
  refine tr_blk 3 (pc' := 24) (rows' := kb_219_0.drop 18) (loc' := [.inr (20, 366, 0, i0), .inl (.int a1), .inl (.int a2)]) (st' := [.inl (.int (0 : Int32)), .inl (.int a1), .inr (20, 366, 0, i0)]) (P1 := P3) rfl ⟨trivial, trivial, trivial, trivial⟩ ?_
  refine tr_cRI (z := km_135) (av := [.inr (20, 366, 0, i0), .inl (.int a1), .inl (.int (0 : Int32))]) (st' := []) rfl rfl rfl (Nat.le_of_ble_eq_true rfl) trivial rfl (Nat.le_of_ble_eq_true rfl) (t_135_366 i0 P3 a1 (0 : Int32)) (fun v4 => ?_)
  refine tr_blk 1 (pc' := 28) (rows' := kb_219_0.drop 20) (loc' := [.inr (20, 366, 0, i0), .inl (.int a1), .inl (.int a2)]) (st' := [.inl (.int a2), .inl (.int v4)]) (P1 := P3) rfl ⟨trivial, trivial⟩ ?_
  refine tr_if (fun h6 => ?_) (fun h6 => ?_)
  · refine tr_icF (cd := .ne) (fun q => q h6) ?_
    refine tr_blk 3 (pc' := 34) (rows' := kb_219_0.drop 24) (loc' := [.inr (20, 366, 0, i0), .inl (.int a1), .inl (.int a2)]) (st' := [.inl (.int (3 : Int32)), .inl (.int a1), .inr (20, 366, 0, i0)]) (P1 := P3) rfl ⟨trivial, trivial, trivial, trivial⟩ ?_
    refine tr_cWV (z := km_223) (av := [.inr (20, 366, 0, i0), .inl (.int a1), .inl (.int (3 : Int32))]) (st' := []) rfl rfl rfl (Nat.le_of_ble_eq_true rfl) trivial rfl (Nat.le_of_ble_eq_true rfl) (t_223_366 i0 a1 (3 : Int32) P3) (fun P5 => ?_)
    refine tr_nil (rows2 := kb_219_37) rfl (List.cons_ne_nil _ _) ?_
    exact tr_reV (z := km_219) rfl rfl rfl
  · refine tr_icT (cd := .ne) h6 ?_
    refine tr_nil (rows2 := kb_219_37) rfl (List.cons_ne_nil _ _) ?_
    exact tr_reV (z := km_219) rfl rfl rfl
def f_220_366_40 (i0 : Nat) : Nat → Int32 → Int32 → Int32 → Int32 → ab_P → Option (Int32 × ab_P)
  | 0, _, _, _, _, _ => none
  | n + 1, x1, x2, x3, x4, P =>
    if x4 < (9 : Int32) then
      Option.bind (f_135_366 i0 P x1 x4) fun v6 =>
      Option.bind (f_281_366 i0 x3 x4 v6 P) fun P7 =>
      f_220_366_40 i0 n x1 x2 x3 (x4 + 1) P7
    else
    Option.bind (f_135_366 i0 P x1 (2 : Int32)) fun v3 =>
    Option.bind (f_281_366 i0 x3 (2 : Int32) (v3 - x2) P) fun P4 =>
    Option.bind (f_281_366 i0 x1 (2 : Int32) x2 P4) fun P5 =>
    some ((1 : Int32), P5)
theorem t_220_366_40 {xs : Nat × (Nat → Int32)} {d : Nat} (i0 : Nat) : ∀ n : Nat, ∀ (x1 : Int32) (x2 : Int32) (x3 : Int32) (x4 : Int32) (P : ab_P), ab_tr xs wI (d + 1) 220 40 [] [.inr (20, 366, 0, i0), .inl (.int x1), .inl (.int x2), .inl (.int x3), .inl (.int x4)] [] P (f_220_366_40 i0 n x1 x2 x3 x4 P) := by
  intro n
  induction n with
  | zero => intro x1 x2 x3 x4 P; exact tr_no
  | succ n ih =>
    intro x1 x2 x3 x4 P
    refine tr_nil (rows2 := kb_220_40) rfl (List.cons_ne_nil _ _) ?_
    refine tr_blk 2 (pc' := 44) (rows' := kb_220_40.drop 2) (loc' := [.inr (20, 366, 0, i0), .inl (.int x1), .inl (.int x2), .inl (.int x3), .inl (.int x4)]) (st' := [.inl (.int (9 : Int32)), .inl (.int x4)]) (P1 := P) rfl ⟨trivial, trivial, trivial⟩ ?_
    refine tr_if (fun h8 => ?_) (fun h8 => ?_)
    · refine tr_icF (cd := .ge) (Int32.not_le.mpr h8) ?_
      refine tr_blk 6 (pc' := 55) (rows' := kb_220_40.drop 9) (loc' := [.inr (20, 366, 0, i0), .inl (.int x1), .inl (.int x2), .inl (.int x3), .inl (.int x4)]) (st' := [.inl (.int x4), .inl (.int x1), .inr (20, 366, 0, i0), .inl (.int x4), .inl (.int x3), .inr (20, 366, 0, i0)]) (P1 := P) rfl ⟨trivial, trivial, trivial, trivial, trivial, trivial, trivial⟩ ?_
      refine tr_cRI (z := km_135) (av := [.inr (20, 366, 0, i0), .inl (.int x1), .inl (.int x4)]) (st' := [.inl (.int x4), .inl (.int x3), .inr (20, 366, 0, i0)]) rfl rfl rfl (Nat.le_of_ble_eq_true rfl) trivial rfl (Nat.le_of_ble_eq_true rfl) (t_135_366 i0 P x1 x4) (fun v6 => ?_)
      refine tr_cWV (z := km_281) (av := [.inr (20, 366, 0, i0), .inl (.int x3), .inl (.int x4), .inl (.int v6)]) (st' := []) rfl rfl rfl (Nat.le_of_ble_eq_true rfl) trivial rfl (Nat.le_of_ble_eq_true rfl) (t_281_366 i0 x3 x4 v6 P) (fun P7 => ?_)
      refine tr_blk 1 (pc' := 64) (rows' := kb_220_40.drop 12) (loc' := [.inr (20, 366, 0, i0), .inl (.int x1), .inl (.int x2), .inl (.int x3), .inl (.int (x4 + 1))]) (st' := []) (P1 := P7) rfl ⟨trivial, trivial⟩ ?_
      refine tr_goto ?_
      exact ih x1 x2 x3 (x4 + 1) P7
    · refine tr_icT (cd := .ge) (Int32.not_lt.mp h8) ?_
      refine tr_nil (rows2 := kb_220_67) rfl (List.cons_ne_nil _ _) ?_
      refine tr_blk 6 (pc' := 73) (rows' := kb_220_67.drop 6) (loc' := [.inr (20, 366, 0, i0), .inl (.int x1), .inl (.int x2), .inl (.int x3), .inl (.int x4)]) (st' := [.inl (.int (2 : Int32)), .inl (.int x1), .inr (20, 366, 0, i0), .inl (.int (2 : Int32)), .inl (.int x3), .inr (20, 366, 0, i0)]) (P1 := P) rfl ⟨trivial, trivial, trivial, trivial, trivial, trivial, trivial⟩ ?_
      refine tr_cRI (z := km_135) (av := [.inr (20, 366, 0, i0), .inl (.int x1), .inl (.int (2 : Int32))]) (st' := [.inl (.int (2 : Int32)), .inl (.int x3), .inr (20, 366, 0, i0)]) rfl rfl rfl (Nat.le_of_ble_eq_true rfl) trivial rfl (Nat.le_of_ble_eq_true rfl) (t_135_366 i0 P x1 (2 : Int32)) (fun v3 => ?_)
      refine tr_blk 2 (pc' := 78) (rows' := kb_220_67.drop 9) (loc' := [.inr (20, 366, 0, i0), .inl (.int x1), .inl (.int x2), .inl (.int x3), .inl (.int x4)]) (st' := [.inl (.int (v3 - x2)), .inl (.int (2 : Int32)), .inl (.int x3), .inr (20, 366, 0, i0)]) (P1 := P) rfl ⟨trivial, trivial, trivial⟩ ?_
      refine tr_cWV (z := km_281) (av := [.inr (20, 366, 0, i0), .inl (.int x3), .inl (.int (2 : Int32)), .inl (.int (v3 - x2))]) (st' := []) rfl rfl rfl (Nat.le_of_ble_eq_true rfl) trivial rfl (Nat.le_of_ble_eq_true rfl) (t_281_366 i0 x3 (2 : Int32) (v3 - x2) P) (fun P4 => ?_)
      refine tr_blk 4 (pc' := 85) (rows' := kb_220_67.drop 14) (loc' := [.inr (20, 366, 0, i0), .inl (.int x1), .inl (.int x2), .inl (.int x3), .inl (.int x4)]) (st' := [.inl (.int x2), .inl (.int (2 : Int32)), .inl (.int x1), .inr (20, 366, 0, i0)]) (P1 := P4) rfl ⟨trivial, trivial, trivial, trivial, trivial⟩ ?_
      refine tr_cWV (z := km_281) (av := [.inr (20, 366, 0, i0), .inl (.int x1), .inl (.int (2 : Int32)), .inl (.int x2)]) (st' := []) rfl rfl rfl (Nat.le_of_ble_eq_true rfl) trivial rfl (Nat.le_of_ble_eq_true rfl) (t_281_366 i0 x1 (2 : Int32) x2 P4) (fun P5 => ?_)
      refine tr_blk 1 (pc' := 89) (rows' := kb_220_67.drop 16) (loc' := [.inr (20, 366, 0, i0), .inl (.int x1), .inl (.int x2), .inl (.int x3), .inl (.int x4)]) (st' := [.inl (.int (1 : Int32))]) (P1 := P5) rfl ⟨trivial, trivial⟩ ?_
      exact tr_reI (z := km_220) rfl ⟨_, rfl, rfl⟩ rfl
def f_220_366 (i0 : Nat) (N : Nat) (a1 : Int32) (a2 : Int32) (P : ab_P) : Option (Int32 × ab_P) :=
    Option.bind (f_135_366 i0 P a1 (2 : Int32)) fun v1 =>
    if a2 < v1 then
      if (P.1 i0 360) = (40 : Int32) then
        some ((0 : Int32), P)
      else
      ab_lt (ab_pI P i0 360 ((P.1 i0 360) + (1 : Int32))) fun P2 =>
      f_220_366_40 i0 N a1 a2 (P.1 i0 360) (0 : Int32) P2
    else
    some ((0 : Int32), P)
theorem t_220_366 {xs : Nat × (Nat → Int32)} {d : Nat} (i0 : Nat) (N : Nat) : ∀ (a1 : Int32) (a2 : Int32) (P : ab_P), ab_tr xs wI (d + 1) 220 0 [] [.inr (20, 366, 0, i0), .inl (.int a1), .inl (.int a2), ab_top, ab_top] [] P (f_220_366 i0 N a1 a2 P) := by
  intro a1 a2 P
  unfold f_220_366
  refine tr_nil (rows2 := kb_220_0) rfl (List.cons_ne_nil _ _) ?_
  refine tr_blk 3 (pc' := 3) (rows' := kb_220_0.drop 3) (loc' := [.inr (20, 366, 0, i0), .inl (.int a1), .inl (.int a2), ab_top, ab_top]) (st' := [.inl (.int (2 : Int32)), .inl (.int a1), .inr (20, 366, 0, i0)]) (P1 := P) rfl ⟨trivial, trivial, trivial, trivial⟩ ?_
  refine tr_cRI (z := km_135) (av := [.inr (20, 366, 0, i0), .inl (.int a1), .inl (.int (2 : Int32))]) (st' := []) rfl rfl rfl (Nat.le_of_ble_eq_true rfl) trivial rfl (Nat.le_of_ble_eq_true rfl) (t_135_366 i0 P a1 (2 : Int32)) (fun v1 => ?_)
  refine tr_blk 1 (pc' := 7) (rows' := kb_220_0.drop 5) (loc' := [.inr (20, 366, 0, i0), .inl (.int a1), .inl (.int a2), ab_top, ab_top]) (st' := [.inl (.int a2), .inl (.int v1)]) (P1 := P) rfl ⟨trivial, trivial⟩ ?_
  refine tr_if (fun h9 => ?_) (fun h9 => ?_)
  · refine tr_icF (cd := .le) (Int32.not_le.mpr h9) ?_
    refine tr_blk 4 (pc' := 17) (rows' := kb_220_0.drop 10) (loc' := [.inr (20, 366, 0, i0), .inl (.int a1), .inl (.int a2), ab_top, ab_top]) (st' := [.inl (.int (40 : Int32)), .inl (.int (P.1 i0 360))]) (P1 := P) rfl ⟨trivial, trivial, (ab_vi (by decide)), trivial, trivial⟩ ?_
    refine tr_if (fun h10 => ?_) (fun h10 => ?_)
    · refine tr_icF (cd := .ne) (fun q => q h10) ?_
      refine tr_nil (rows2 := kb_220_20) rfl (List.cons_ne_nil _ _) ?_
      refine tr_blk 1 (pc' := 21) (rows' := kb_220_20.drop 1) (loc' := [.inr (20, 366, 0, i0), .inl (.int a1), .inl (.int a2), ab_top, ab_top]) (st' := [.inl (.int (0 : Int32))]) (P1 := P) rfl ⟨trivial, trivial⟩ ?_
      exact tr_reI (z := km_220) rfl ⟨_, rfl, rfl⟩ rfl
    · refine tr_icT (cd := .ne) h10 ?_
      refine tr_nil (rows2 := kb_220_22) rfl (List.cons_ne_nil _ _) ?_
      refine tr_blk 11 (pc' := 37) (rows' := kb_220_22.drop 11) (loc' := [.inr (20, 366, 0, i0), .inl (.int a1), .inl (.int a2), .inl (.int (P.1 i0 360)), ab_top]) (st' := []) (P1 := (ab_pI P i0 360 ((P.1 i0 360) + (1 : Int32)))) rfl ⟨trivial, trivial, (ab_vi (by decide)), trivial, trivial, trivial, trivial, (ab_vi (by decide)), trivial, trivial, (ab_vi (by decide)), trivial⟩ ?_
      refine tr_lt (fun P2 => ?_)
      refine tr_blk 2 (pc' := 40) (rows' := kb_220_22.drop 13) (loc' := [.inr (20, 366, 0, i0), .inl (.int a1), .inl (.int a2), .inl (.int (P.1 i0 360)), .inl (.int (0 : Int32))]) (st' := []) (P1 := P2) rfl ⟨trivial, trivial, trivial⟩ ?_
      exact t_220_366_40 i0 N a1 a2 (P.1 i0 360) (0 : Int32) P2
  · refine tr_icT (cd := .le) (Int32.not_lt.mp h9) ?_
    refine tr_nil (rows2 := kb_220_20) rfl (List.cons_ne_nil _ _) ?_
    refine tr_blk 1 (pc' := 21) (rows' := kb_220_20.drop 1) (loc' := [.inr (20, 366, 0, i0), .inl (.int a1), .inl (.int a2), ab_top, ab_top]) (st' := [.inl (.int (0 : Int32))]) (P1 := P) rfl ⟨trivial, trivial⟩ ?_
    exact tr_reI (z := km_220) rfl ⟨_, rfl, rfl⟩ rfl
def f_221_366 (i0 : Nat) (a1 : Int32) (a2 : Int32) (P : ab_P) : Option (Int32 × ab_P) :=
    Option.bind (f_144_366 i0 P a2) fun v1 =>
    if v1 = (0 : Int32) then
      some ((0 : Int32), P)
    else
    Option.bind (f_135_366 i0 P a1 (0 : Int32)) fun v2 =>
    Option.bind (f_135_366 i0 P a2 (0 : Int32)) fun v3 =>
    if v2 = v3 then
      Option.bind (f_135_366 i0 P a1 (1 : Int32)) fun v4 =>
      Option.bind (f_135_366 i0 P a2 (1 : Int32)) fun v5 =>
      if v4 = v5 then
        Option.bind (f_135_366 i0 P a1 (6 : Int32)) fun v6 =>
        Option.bind (f_135_366 i0 P a2 (6 : Int32)) fun v7 =>
        if v6 = v7 then
          Option.bind (f_135_366 i0 P a1 (2 : Int32)) fun v8 =>
          Option.bind (f_135_366 i0 P a2 (2 : Int32)) fun v9 =>
          if (9999 : Int32) < (v8 + v9) then
            some ((0 : Int32), P)
          else
          Option.bind (f_135_366 i0 P a1 (2 : Int32)) fun v10 =>
          Option.bind (f_135_366 i0 P a2 (2 : Int32)) fun v11 =>
          Option.bind (f_281_366 i0 a1 (2 : Int32) (v10 + v11) P) fun P12 =>
          Option.bind (f_223_366 i0 a2 (4 : Int32) P12) fun P13 =>
          some ((1 : Int32), P13)
        else
        some ((0 : Int32), P)
      else
      some ((0 : Int32), P)
    else
    some ((0 : Int32), P)
theorem t_221_366 {xs : Nat × (Nat → Int32)} {d : Nat} (i0 : Nat) : ∀ (a1 : Int32) (a2 : Int32) (P : ab_P), ab_tr xs wI (d + 2) 221 0 [] [.inr (20, 366, 0, i0), .inl (.int a1), .inl (.int a2)] [] P (f_221_366 i0 a1 a2 P) := by
  intro a1 a2 P
  unfold f_221_366
  refine tr_nil (rows2 := kb_221_0) rfl (List.cons_ne_nil _ _) ?_
  refine tr_blk 2 (pc' := 2) (rows' := kb_221_0.drop 2) (loc' := [.inr (20, 366, 0, i0), .inl (.int a1), .inl (.int a2)]) (st' := [.inl (.int a2), .inr (20, 366, 0, i0)]) (P1 := P) rfl ⟨trivial, trivial, trivial⟩ ?_
  refine tr_cRI (z := km_144) (av := [.inr (20, 366, 0, i0), .inl (.int a2)]) (st' := []) rfl rfl rfl (Nat.le_of_ble_eq_true rfl) trivial rfl (Nat.le_of_ble_eq_true rfl) (t_144_366 i0 P a2) (fun v1 => ?_)
  refine tr_if (fun h14 => ?_) (fun h14 => ?_)
  · refine tr_ifT (cd := .eq) h14 ?_
    refine tr_nil (rows2 := kb_221_74) rfl (List.cons_ne_nil _ _) ?_
    refine tr_blk 1 (pc' := 75) (rows' := kb_221_74.drop 1) (loc' := [.inr (20, 366, 0, i0), .inl (.int a1), .inl (.int a2)]) (st' := [.inl (.int (0 : Int32))]) (P1 := P) rfl ⟨trivial, trivial⟩ ?_
    exact tr_reI (z := km_221) rfl ⟨_, rfl, rfl⟩ rfl
  · refine tr_ifF (cd := .eq) h14 ?_
    refine tr_blk 3 (pc' := 11) (rows' := kb_221_0.drop 7) (loc' := [.inr (20, 366, 0, i0), .inl (.int a1), .inl (.int a2)]) (st' := [.inl (.int (0 : Int32)), .inl (.int a1), .inr (20, 366, 0, i0)]) (P1 := P) rfl ⟨trivial, trivial, trivial, trivial⟩ ?_
    refine tr_cRI (z := km_135) (av := [.inr (20, 366, 0, i0), .inl (.int a1), .inl (.int (0 : Int32))]) (st' := []) rfl rfl rfl (Nat.le_of_ble_eq_true rfl) trivial rfl (Nat.le_of_ble_eq_true rfl) (t_135_366 i0 P a1 (0 : Int32)) (fun v2 => ?_)
    refine tr_blk 3 (pc' := 17) (rows' := kb_221_0.drop 11) (loc' := [.inr (20, 366, 0, i0), .inl (.int a1), .inl (.int a2)]) (st' := [.inl (.int (0 : Int32)), .inl (.int a2), .inr (20, 366, 0, i0), .inl (.int v2)]) (P1 := P) rfl ⟨trivial, trivial, trivial, trivial⟩ ?_
    refine tr_cRI (z := km_135) (av := [.inr (20, 366, 0, i0), .inl (.int a2), .inl (.int (0 : Int32))]) (st' := [.inl (.int v2)]) rfl rfl rfl (Nat.le_of_ble_eq_true rfl) trivial rfl (Nat.le_of_ble_eq_true rfl) (t_135_366 i0 P a2 (0 : Int32)) (fun v3 => ?_)
    refine tr_if (fun h15 => ?_) (fun h15 => ?_)
    · refine tr_icF (cd := .ne) (fun q => q h15) ?_
      refine tr_blk 3 (pc' := 26) (rows' := kb_221_0.drop 16) (loc' := [.inr (20, 366, 0, i0), .inl (.int a1), .inl (.int a2)]) (st' := [.inl (.int (1 : Int32)), .inl (.int a1), .inr (20, 366, 0, i0)]) (P1 := P) rfl ⟨trivial, trivial, trivial, trivial⟩ ?_
      refine tr_cRI (z := km_135) (av := [.inr (20, 366, 0, i0), .inl (.int a1), .inl (.int (1 : Int32))]) (st' := []) rfl rfl rfl (Nat.le_of_ble_eq_true rfl) trivial rfl (Nat.le_of_ble_eq_true rfl) (t_135_366 i0 P a1 (1 : Int32)) (fun v4 => ?_)
      refine tr_blk 3 (pc' := 32) (rows' := kb_221_0.drop 20) (loc' := [.inr (20, 366, 0, i0), .inl (.int a1), .inl (.int a2)]) (st' := [.inl (.int (1 : Int32)), .inl (.int a2), .inr (20, 366, 0, i0), .inl (.int v4)]) (P1 := P) rfl ⟨trivial, trivial, trivial, trivial⟩ ?_
      refine tr_cRI (z := km_135) (av := [.inr (20, 366, 0, i0), .inl (.int a2), .inl (.int (1 : Int32))]) (st' := [.inl (.int v4)]) rfl rfl rfl (Nat.le_of_ble_eq_true rfl) trivial rfl (Nat.le_of_ble_eq_true rfl) (t_135_366 i0 P a2 (1 : Int32)) (fun v5 => ?_)
      refine tr_if (fun h16 => ?_) (fun h16 => ?_)
      · refine tr_icF (cd := .ne) (fun q => q h16) ?_
        refine tr_blk 3 (pc' := 42) (rows' := kb_221_0.drop 25) (loc' := [.inr (20, 366, 0, i0), .inl (.int a1), .inl (.int a2)]) (st' := [.inl (.int (6 : Int32)), .inl (.int a1), .inr (20, 366, 0, i0)]) (P1 := P) rfl ⟨trivial, trivial, trivial, trivial⟩ ?_
        refine tr_cRI (z := km_135) (av := [.inr (20, 366, 0, i0), .inl (.int a1), .inl (.int (6 : Int32))]) (st' := []) rfl rfl rfl (Nat.le_of_ble_eq_true rfl) trivial rfl (Nat.le_of_ble_eq_true rfl) (t_135_366 i0 P a1 (6 : Int32)) (fun v6 => ?_)
        refine tr_blk 3 (pc' := 49) (rows' := kb_221_0.drop 29) (loc' := [.inr (20, 366, 0, i0), .inl (.int a1), .inl (.int a2)]) (st' := [.inl (.int (6 : Int32)), .inl (.int a2), .inr (20, 366, 0, i0), .inl (.int v6)]) (P1 := P) rfl ⟨trivial, trivial, trivial, trivial⟩ ?_
        refine tr_cRI (z := km_135) (av := [.inr (20, 366, 0, i0), .inl (.int a2), .inl (.int (6 : Int32))]) (st' := [.inl (.int v6)]) rfl rfl rfl (Nat.le_of_ble_eq_true rfl) trivial rfl (Nat.le_of_ble_eq_true rfl) (t_135_366 i0 P a2 (6 : Int32)) (fun v7 => ?_)
        refine tr_if (fun h17 => ?_) (fun h17 => ?_)
        · refine tr_icF (cd := .ne) (fun q => q h17) ?_
          refine tr_blk 3 (pc' := 58) (rows' := kb_221_0.drop 34) (loc' := [.inr (20, 366, 0, i0), .inl (.int a1), .inl (.int a2)]) (st' := [.inl (.int (2 : Int32)), .inl (.int a1), .inr (20, 366, 0, i0)]) (P1 := P) rfl ⟨trivial, trivial, trivial, trivial⟩ ?_
          refine tr_cRI (z := km_135) (av := [.inr (20, 366, 0, i0), .inl (.int a1), .inl (.int (2 : Int32))]) (st' := []) rfl rfl rfl (Nat.le_of_ble_eq_true rfl) trivial rfl (Nat.le_of_ble_eq_true rfl) (t_135_366 i0 P a1 (2 : Int32)) (fun v8 => ?_)
          refine tr_blk 3 (pc' := 64) (rows' := kb_221_0.drop 38) (loc' := [.inr (20, 366, 0, i0), .inl (.int a1), .inl (.int a2)]) (st' := [.inl (.int (2 : Int32)), .inl (.int a2), .inr (20, 366, 0, i0), .inl (.int v8)]) (P1 := P) rfl ⟨trivial, trivial, trivial, trivial⟩ ?_
          refine tr_cRI (z := km_135) (av := [.inr (20, 366, 0, i0), .inl (.int a2), .inl (.int (2 : Int32))]) (st' := [.inl (.int v8)]) rfl rfl rfl (Nat.le_of_ble_eq_true rfl) trivial rfl (Nat.le_of_ble_eq_true rfl) (t_135_366 i0 P a2 (2 : Int32)) (fun v9 => ?_)
          refine tr_blk 2 (pc' := 71) (rows' := kb_221_0.drop 41) (loc' := [.inr (20, 366, 0, i0), .inl (.int a1), .inl (.int a2)]) (st' := [.inl (.int (9999 : Int32)), .inl (.int (v8 + v9))]) (P1 := P) rfl ⟨trivial, trivial, trivial⟩ ?_
          refine tr_if (fun h18 => ?_) (fun h18 => ?_)
          · refine tr_icF (cd := .le) (Int32.not_le.mpr h18) ?_
            refine tr_nil (rows2 := kb_221_74) rfl (List.cons_ne_nil _ _) ?_
            refine tr_blk 1 (pc' := 75) (rows' := kb_221_74.drop 1) (loc' := [.inr (20, 366, 0, i0), .inl (.int a1), .inl (.int a2)]) (st' := [.inl (.int (0 : Int32))]) (P1 := P) rfl ⟨trivial, trivial⟩ ?_
            exact tr_reI (z := km_221) rfl ⟨_, rfl, rfl⟩ rfl
          · refine tr_icT (cd := .le) (Int32.not_lt.mp h18) ?_
            refine tr_nil (rows2 := kb_221_76) rfl (List.cons_ne_nil _ _) ?_
            refine tr_blk 6 (pc' := 82) (rows' := kb_221_76.drop 6) (loc' := [.inr (20, 366, 0, i0), .inl (.int a1), .inl (.int a2)]) (st' := [.inl (.int (2 : Int32)), .inl (.int a1), .inr (20, 366, 0, i0), .inl (.int (2 : Int32)), .inl (.int a1), .inr (20, 366, 0, i0)]) (P1 := P) rfl ⟨trivial, trivial, trivial, trivial, trivial, trivial, trivial⟩ ?_
            refine tr_cRI (z := km_135) (av := [.inr (20, 366, 0, i0), .inl (.int a1), .inl (.int (2 : Int32))]) (st' := [.inl (.int (2 : Int32)), .inl (.int a1), .inr (20, 366, 0, i0)]) rfl rfl rfl (Nat.le_of_ble_eq_true rfl) trivial rfl (Nat.le_of_ble_eq_true rfl) (t_135_366 i0 P a1 (2 : Int32)) (fun v10 => ?_)
            refine tr_blk 3 (pc' := 88) (rows' := kb_221_76.drop 10) (loc' := [.inr (20, 366, 0, i0), .inl (.int a1), .inl (.int a2)]) (st' := [.inl (.int (2 : Int32)), .inl (.int a2), .inr (20, 366, 0, i0), .inl (.int v10), .inl (.int (2 : Int32)), .inl (.int a1), .inr (20, 366, 0, i0)]) (P1 := P) rfl ⟨trivial, trivial, trivial, trivial⟩ ?_
            refine tr_cRI (z := km_135) (av := [.inr (20, 366, 0, i0), .inl (.int a2), .inl (.int (2 : Int32))]) (st' := [.inl (.int v10), .inl (.int (2 : Int32)), .inl (.int a1), .inr (20, 366, 0, i0)]) rfl rfl rfl (Nat.le_of_ble_eq_true rfl) trivial rfl (Nat.le_of_ble_eq_true rfl) (t_135_366 i0 P a2 (2 : Int32)) (fun v11 => ?_)
            refine tr_blk 1 (pc' := 92) (rows' := kb_221_76.drop 12) (loc' := [.inr (20, 366, 0, i0), .inl (.int a1), .inl (.int a2)]) (st' := [.inl (.int (v10 + v11)), .inl (.int (2 : Int32)), .inl (.int a1), .inr (20, 366, 0, i0)]) (P1 := P) rfl ⟨trivial, trivial⟩ ?_
            refine tr_cWV (z := km_281) (av := [.inr (20, 366, 0, i0), .inl (.int a1), .inl (.int (2 : Int32)), .inl (.int (v10 + v11))]) (st' := []) rfl rfl rfl (Nat.le_of_ble_eq_true rfl) trivial rfl (Nat.le_of_ble_eq_true rfl) (t_281_366 i0 a1 (2 : Int32) (v10 + v11) P) (fun P12 => ?_)
            refine tr_blk 3 (pc' := 98) (rows' := kb_221_76.drop 16) (loc' := [.inr (20, 366, 0, i0), .inl (.int a1), .inl (.int a2)]) (st' := [.inl (.int (4 : Int32)), .inl (.int a2), .inr (20, 366, 0, i0)]) (P1 := P12) rfl ⟨trivial, trivial, trivial, trivial⟩ ?_
            refine tr_cWV (z := km_223) (av := [.inr (20, 366, 0, i0), .inl (.int a2), .inl (.int (4 : Int32))]) (st' := []) rfl rfl rfl (Nat.le_of_ble_eq_true rfl) trivial rfl (Nat.le_of_ble_eq_true rfl) (t_223_366 i0 a2 (4 : Int32) P12) (fun P13 => ?_)
            refine tr_blk 1 (pc' := 102) (rows' := kb_221_76.drop 18) (loc' := [.inr (20, 366, 0, i0), .inl (.int a1), .inl (.int a2)]) (st' := [.inl (.int (1 : Int32))]) (P1 := P13) rfl ⟨trivial, trivial⟩ ?_
            exact tr_reI (z := km_221) rfl ⟨_, rfl, rfl⟩ rfl
        · refine tr_icT (cd := .ne) h17 ?_
          refine tr_nil (rows2 := kb_221_74) rfl (List.cons_ne_nil _ _) ?_
          refine tr_blk 1 (pc' := 75) (rows' := kb_221_74.drop 1) (loc' := [.inr (20, 366, 0, i0), .inl (.int a1), .inl (.int a2)]) (st' := [.inl (.int (0 : Int32))]) (P1 := P) rfl ⟨trivial, trivial⟩ ?_
          exact tr_reI (z := km_221) rfl ⟨_, rfl, rfl⟩ rfl
      · refine tr_icT (cd := .ne) h16 ?_
        refine tr_nil (rows2 := kb_221_74) rfl (List.cons_ne_nil _ _) ?_
        refine tr_blk 1 (pc' := 75) (rows' := kb_221_74.drop 1) (loc' := [.inr (20, 366, 0, i0), .inl (.int a1), .inl (.int a2)]) (st' := [.inl (.int (0 : Int32))]) (P1 := P) rfl ⟨trivial, trivial⟩ ?_
        exact tr_reI (z := km_221) rfl ⟨_, rfl, rfl⟩ rfl
    · refine tr_icT (cd := .ne) h15 ?_
      refine tr_nil (rows2 := kb_221_74) rfl (List.cons_ne_nil _ _) ?_
      refine tr_blk 1 (pc' := 75) (rows' := kb_221_74.drop 1) (loc' := [.inr (20, 366, 0, i0), .inl (.int a1), .inl (.int a2)]) (st' := [.inl (.int (0 : Int32))]) (P1 := P) rfl ⟨trivial, trivial⟩ ?_
      exact tr_reI (z := km_221) rfl ⟨_, rfl, rfl⟩ rfl
def f_193 (P : ab_P) (a0 : Int32) (a1 : Int32) : Option Int32 :=
    if a1 < a0 then
      some a0
    else
    some a1
theorem t_193 {xs : Nat × (Nat → Int32)} {d : Nat} (P : ab_P) : ∀ (a0 : Int32) (a1 : Int32), ab_tr xs (rI P) (d + 0) 193 0 [] [.inl (.int a0), .inl (.int a1)] [] P (f_193 P a0 a1) := by
  intro a0 a1
  unfold f_193
  refine tr_nil (rows2 := kb_193_0) rfl (List.cons_ne_nil _ _) ?_
  refine tr_blk 2 (pc' := 2) (rows' := kb_193_0.drop 2) (loc' := [.inl (.int a0), .inl (.int a1)]) (st' := [.inl (.int a1), .inl (.int a0)]) (P1 := P) rfl ⟨trivial, trivial, trivial⟩ ?_
  refine tr_if (fun h1 => ?_) (fun h1 => ?_)
  · refine tr_icF (cd := .le) (Int32.not_le.mpr h1) ?_
    refine tr_blk 1 (pc' := 6) (rows' := kb_193_0.drop 4) (loc' := [.inl (.int a0), .inl (.int a1)]) (st' := [.inl (.int a0)]) (P1 := P) rfl ⟨trivial, trivial⟩ ?_
    refine tr_goto ?_
    refine tr_nil (rows2 := kb_193_10) rfl (List.cons_ne_nil _ _) ?_
    exact tr_reI (z := km_193) rfl ⟨_, rfl, rfl⟩ rfl
  · refine tr_icT (cd := .le) (Int32.not_lt.mp h1) ?_
    refine tr_nil (rows2 := kb_193_9) rfl (List.cons_ne_nil _ _) ?_
    refine tr_blk 1 (pc' := 10) (rows' := kb_193_9.drop 1) (loc' := [.inl (.int a0), .inl (.int a1)]) (st' := [.inl (.int a1)]) (P1 := P) rfl ⟨trivial, trivial⟩ ?_
    refine tr_nil (rows2 := kb_193_10) rfl (List.cons_ne_nil _ _) ?_
    exact tr_reI (z := km_193) rfl ⟨_, rfl, rfl⟩ rfl
def f_192 (P : ab_P) (a0 : Int32) (a1 : Int32) : Option Int32 :=
    if a0 < a1 then
      some a0
    else
    some a1
theorem t_192 {xs : Nat × (Nat → Int32)} {d : Nat} (P : ab_P) : ∀ (a0 : Int32) (a1 : Int32), ab_tr xs (rI P) (d + 0) 192 0 [] [.inl (.int a0), .inl (.int a1)] [] P (f_192 P a0 a1) := by
  intro a0 a1
  unfold f_192
  refine tr_nil (rows2 := kb_192_0) rfl (List.cons_ne_nil _ _) ?_
  refine tr_blk 2 (pc' := 2) (rows' := kb_192_0.drop 2) (loc' := [.inl (.int a0), .inl (.int a1)]) (st' := [.inl (.int a1), .inl (.int a0)]) (P1 := P) rfl ⟨trivial, trivial, trivial⟩ ?_
  refine tr_if (fun h1 => ?_) (fun h1 => ?_)
  · refine tr_icF (cd := .ge) (Int32.not_le.mpr h1) ?_
    refine tr_blk 1 (pc' := 6) (rows' := kb_192_0.drop 4) (loc' := [.inl (.int a0), .inl (.int a1)]) (st' := [.inl (.int a0)]) (P1 := P) rfl ⟨trivial, trivial⟩ ?_
    refine tr_goto ?_
    refine tr_nil (rows2 := kb_192_10) rfl (List.cons_ne_nil _ _) ?_
    exact tr_reI (z := km_192) rfl ⟨_, rfl, rfl⟩ rfl
  · refine tr_icT (cd := .ge) (Int32.not_lt.mp h1) ?_
    refine tr_nil (rows2 := kb_192_9) rfl (List.cons_ne_nil _ _) ?_
    refine tr_blk 1 (pc' := 10) (rows' := kb_192_9.drop 1) (loc' := [.inl (.int a0), .inl (.int a1)]) (st' := [.inl (.int a1)]) (P1 := P) rfl ⟨trivial, trivial⟩ ?_
    refine tr_nil (rows2 := kb_192_10) rfl (List.cons_ne_nil _ _) ?_
    exact tr_reI (z := km_192) rfl ⟨_, rfl, rfl⟩ rfl
def f_270 (P : ab_P) (a1 : Int32) : Option Int32 :=
    Option.bind (f_193 P (1 : Int32) ((a1 * (P.1 76 2)) / (100 : Int32))) fun v1 =>
    Option.bind (f_192 P (9999 : Int32) (a1 + v1)) fun v2 =>
    some v2
theorem t_270 {xs : Nat × (Nat → Int32)} {d : Nat} (P : ab_P) : ∀ (a1 : Int32), ab_tr xs (rI P) (d + 1) 270 0 [] [.inr (12, 0, 0, 72), .inl (.int a1)] [] P (f_270 P a1) := by
  intro a1
  unfold f_270
  refine tr_nil (rows2 := kb_270_0) rfl (List.cons_ne_nil _ _) ?_
  refine tr_blk 11 (pc' := 16) (rows' := kb_270_0.drop 11) (loc' := [.inr (12, 0, 0, 72), .inl (.int a1)]) (st' := [.inl (.int ((a1 * (P.1 76 2)) / (100 : Int32))), .inl (.int (1 : Int32)), .inl (.int a1), .inl (.int (9999 : Int32))]) (P1 := P) rfl ⟨trivial, trivial, trivial, trivial, trivial, trivial, trivial, (ab_vi (by decide)), trivial, trivial, (by decide), trivial⟩ ?_
  refine tr_cRI (z := km_193) (av := [.inl (.int (1 : Int32)), .inl (.int ((a1 * (P.1 76 2)) / (100 : Int32)))]) (st' := [.inl (.int a1), .inl (.int (9999 : Int32))]) rfl rfl rfl (Nat.le_of_ble_eq_true rfl) trivial rfl (Nat.le_of_ble_eq_true rfl) (t_193 P (1 : Int32) ((a1 * (P.1 76 2)) / (100 : Int32))) (fun v1 => ?_)
  refine tr_blk 1 (pc' := 20) (rows' := kb_270_0.drop 13) (loc' := [.inr (12, 0, 0, 72), .inl (.int a1)]) (st' := [.inl (.int (a1 + v1)), .inl (.int (9999 : Int32))]) (P1 := P) rfl ⟨trivial, trivial⟩ ?_
  refine tr_cRI (z := km_192) (av := [.inl (.int (9999 : Int32)), .inl (.int (a1 + v1))]) (st' := []) rfl rfl rfl (Nat.le_of_ble_eq_true rfl) trivial rfl (Nat.le_of_ble_eq_true rfl) (t_192 P (9999 : Int32) (a1 + v1)) (fun v2 => ?_)
  exact tr_reI (z := km_270) rfl ⟨_, rfl, rfl⟩ rfl
def f_222_366 (i1 : Nat) (a2 : Int32) (P : ab_P) : Option (Int32 × ab_P) :=
    Option.bind (f_135_366 i1 P a2 (8 : Int32)) fun v1 =>
    if v1 = (P.1 i1 361) then
      some ((0 : Int32), P)
    else
    Option.bind (f_135_366 i1 P a2 (2 : Int32)) fun v2 =>
    Option.bind (f_270 P v2) fun v3 =>
    Option.bind (f_135_366 i1 P a2 (2 : Int32)) fun v4 =>
    ab_lt (ab_pI P i1 362 ((P.1 i1 362) + (v3 - v4))) fun P5 =>
    Option.bind (f_281_366 i1 a2 (2 : Int32) v3 P5) fun P6 =>
    Option.bind (f_135_366 i1 P6 a2 (5 : Int32)) fun v7 =>
    Option.bind (f_281_366 i1 a2 (5 : Int32) (v7 + (1 : Int32)) P6) fun P8 =>
    Option.bind (f_281_366 i1 a2 (8 : Int32) (P8.1 i1 361) P8) fun P9 =>
    some ((1 : Int32), P9)
theorem t_222_366 {xs : Nat × (Nat → Int32)} {d : Nat} (i1 : Nat) : ∀ (a2 : Int32) (P : ab_P), ab_tr xs wI (d + 2) 222 0 [] [.inr (12, 0, 0, 72), .inr (20, 366, 0, i1), .inl (.int a2), ab_top] [] P (f_222_366 i1 a2 P) := by
  intro a2 P
  unfold f_222_366
  refine tr_nil (rows2 := kb_222_0) rfl (List.cons_ne_nil _ _) ?_
  refine tr_blk 3 (pc' := 4) (rows' := kb_222_0.drop 3) (loc' := [.inr (12, 0, 0, 72), .inr (20, 366, 0, i1), .inl (.int a2), ab_top]) (st' := [.inl (.int (8 : Int32)), .inl (.int a2), .inr (20, 366, 0, i1)]) (P1 := P) rfl ⟨trivial, trivial, trivial, trivial⟩ ?_
  refine tr_cRI (z := km_135) (av := [.inr (20, 366, 0, i1), .inl (.int a2), .inl (.int (8 : Int32))]) (st' := []) rfl rfl rfl (Nat.le_of_ble_eq_true rfl) trivial rfl (Nat.le_of_ble_eq_true rfl) (t_135_366 i1 P a2 (8 : Int32)) (fun v1 => ?_)
  refine tr_blk 3 (pc' := 12) (rows' := kb_222_0.drop 7) (loc' := [.inr (12, 0, 0, 72), .inr (20, 366, 0, i1), .inl (.int a2), ab_top]) (st' := [.inl (.int (P.1 i1 361)), .inl (.int v1)]) (P1 := P) rfl ⟨trivial, trivial, (ab_vi (by decide)), trivial⟩ ?_
  refine tr_if (fun h10 => ?_) (fun h10 => ?_)
  · refine tr_icF (cd := .ne) (fun q => q h10) ?_
    refine tr_blk 1 (pc' := 16) (rows' := kb_222_0.drop 9) (loc' := [.inr (12, 0, 0, 72), .inr (20, 366, 0, i1), .inl (.int a2), ab_top]) (st' := [.inl (.int (0 : Int32))]) (P1 := P) rfl ⟨trivial, trivial⟩ ?_
    exact tr_reI (z := km_222) rfl ⟨_, rfl, rfl⟩ rfl
  · refine tr_icT (cd := .ne) h10 ?_
    refine tr_nil (rows2 := kb_222_17) rfl (List.cons_ne_nil _ _) ?_
    refine tr_blk 4 (pc' := 21) (rows' := kb_222_17.drop 4) (loc' := [.inr (12, 0, 0, 72), .inr (20, 366, 0, i1), .inl (.int a2), ab_top]) (st' := [.inl (.int (2 : Int32)), .inl (.int a2), .inr (20, 366, 0, i1), .inr (12, 0, 0, 72)]) (P1 := P) rfl ⟨trivial, trivial, trivial, trivial, trivial⟩ ?_
    refine tr_cRI (z := km_135) (av := [.inr (20, 366, 0, i1), .inl (.int a2), .inl (.int (2 : Int32))]) (st' := [.inr (12, 0, 0, 72)]) rfl rfl rfl (Nat.le_of_ble_eq_true rfl) trivial rfl (Nat.le_of_ble_eq_true rfl) (t_135_366 i1 P a2 (2 : Int32)) (fun v2 => ?_)
    refine tr_cRI (z := km_270) (av := [.inr (12, 0, 0, 72), .inl (.int v2)]) (st' := []) rfl rfl rfl (Nat.le_of_ble_eq_true rfl) ⟨rfl, Or.inl (by decide)⟩ rfl (Nat.le_of_ble_eq_true rfl) (t_270 P v2) (fun v3 => ?_)
    refine tr_blk 9 (pc' := 38) (rows' := kb_222_17.drop 15) (loc' := [.inr (12, 0, 0, 72), .inr (20, 366, 0, i1), .inl (.int a2), .inl (.int v3)]) (st' := [.inl (.int (2 : Int32)), .inl (.int a2), .inr (20, 366, 0, i1), .inl (.int v3), .inl (.int (P.1 i1 362)), .inl (.int (362 : Int32)), .inr (20, 366, 0, i1)]) (P1 := P) rfl ⟨trivial, trivial, trivial, trivial, (ab_vi (by decide)), trivial, trivial, trivial, trivial, trivial⟩ ?_
    refine tr_cRI (z := km_135) (av := [.inr (20, 366, 0, i1), .inl (.int a2), .inl (.int (2 : Int32))]) (st' := [.inl (.int v3), .inl (.int (P.1 i1 362)), .inl (.int (362 : Int32)), .inr (20, 366, 0, i1)]) rfl rfl rfl (Nat.le_of_ble_eq_true rfl) trivial rfl (Nat.le_of_ble_eq_true rfl) (t_135_366 i1 P a2 (2 : Int32)) (fun v4 => ?_)
    refine tr_blk 3 (pc' := 44) (rows' := kb_222_17.drop 19) (loc' := [.inr (12, 0, 0, 72), .inr (20, 366, 0, i1), .inl (.int a2), .inl (.int v3)]) (st' := []) (P1 := (ab_pI P i1 362 ((P.1 i1 362) + (v3 - v4)))) rfl ⟨trivial, trivial, (ab_vi (by decide)), trivial⟩ ?_
    refine tr_lt (fun P5 => ?_)
    refine tr_blk 4 (pc' := 48) (rows' := kb_222_17.drop 23) (loc' := [.inr (12, 0, 0, 72), .inr (20, 366, 0, i1), .inl (.int a2), .inl (.int v3)]) (st' := [.inl (.int v3), .inl (.int (2 : Int32)), .inl (.int a2), .inr (20, 366, 0, i1)]) (P1 := P5) rfl ⟨trivial, trivial, trivial, trivial, trivial⟩ ?_
    refine tr_cWV (z := km_281) (av := [.inr (20, 366, 0, i1), .inl (.int a2), .inl (.int (2 : Int32)), .inl (.int v3)]) (st' := []) rfl rfl rfl (Nat.le_of_ble_eq_true rfl) trivial rfl (Nat.le_of_ble_eq_true rfl) (t_281_366 i1 a2 (2 : Int32) v3 P5) (fun P6 => ?_)
    refine tr_blk 6 (pc' := 57) (rows' := kb_222_17.drop 30) (loc' := [.inr (12, 0, 0, 72), .inr (20, 366, 0, i1), .inl (.int a2), .inl (.int v3)]) (st' := [.inl (.int (5 : Int32)), .inl (.int a2), .inr (20, 366, 0, i1), .inl (.int (5 : Int32)), .inl (.int a2), .inr (20, 366, 0, i1)]) (P1 := P6) rfl ⟨trivial, trivial, trivial, trivial, trivial, trivial, trivial⟩ ?_
    refine tr_cRI (z := km_135) (av := [.inr (20, 366, 0, i1), .inl (.int a2), .inl (.int (5 : Int32))]) (st' := [.inl (.int (5 : Int32)), .inl (.int a2), .inr (20, 366, 0, i1)]) rfl rfl rfl (Nat.le_of_ble_eq_true rfl) trivial rfl (Nat.le_of_ble_eq_true rfl) (t_135_366 i1 P6 a2 (5 : Int32)) (fun v7 => ?_)
    refine tr_blk 2 (pc' := 62) (rows' := kb_222_17.drop 33) (loc' := [.inr (12, 0, 0, 72), .inr (20, 366, 0, i1), .inl (.int a2), .inl (.int v3)]) (st' := [.inl (.int (v7 + (1 : Int32))), .inl (.int (5 : Int32)), .inl (.int a2), .inr (20, 366, 0, i1)]) (P1 := P6) rfl ⟨trivial, trivial, trivial⟩ ?_
    refine tr_cWV (z := km_281) (av := [.inr (20, 366, 0, i1), .inl (.int a2), .inl (.int (5 : Int32)), .inl (.int (v7 + (1 : Int32)))]) (st' := []) rfl rfl rfl (Nat.le_of_ble_eq_true rfl) trivial rfl (Nat.le_of_ble_eq_true rfl) (t_281_366 i1 a2 (5 : Int32) (v7 + (1 : Int32)) P6) (fun P8 => ?_)
    refine tr_blk 6 (pc' := 74) (rows' := kb_222_17.drop 40) (loc' := [.inr (12, 0, 0, 72), .inr (20, 366, 0, i1), .inl (.int a2), .inl (.int v3)]) (st' := [.inl (.int (P8.1 i1 361)), .inl (.int (8 : Int32)), .inl (.int a2), .inr (20, 366, 0, i1)]) (P1 := P8) rfl ⟨trivial, trivial, trivial, trivial, trivial, (ab_vi (by decide)), trivial⟩ ?_
    refine tr_cWV (z := km_281) (av := [.inr (20, 366, 0, i1), .inl (.int a2), .inl (.int (8 : Int32)), .inl (.int (P8.1 i1 361))]) (st' := []) rfl rfl rfl (Nat.le_of_ble_eq_true rfl) trivial rfl (Nat.le_of_ble_eq_true rfl) (t_281_366 i1 a2 (8 : Int32) (P8.1 i1 361) P8) (fun P9 => ?_)
    refine tr_blk 1 (pc' := 78) (rows' := kb_222_17.drop 42) (loc' := [.inr (12, 0, 0, 72), .inr (20, 366, 0, i1), .inl (.int a2), .inl (.int v3)]) (st' := [.inl (.int (1 : Int32))]) (P1 := P9) rfl ⟨trivial, trivial⟩ ?_
    exact tr_reI (z := km_222) rfl ⟨_, rfl, rfl⟩ rfl
def f_180_366_4 (i0 : Nat) (P : ab_P) : Nat → Int32 → Int32 → Int32 → Option Int32
  | 0, _, _, _ => none
  | n + 1, x1, x2, x3 =>
    if x3 < (P.1 i0 360) then
      Option.bind (f_144_366 i0 P x3) fun v1 =>
      if v1 = (0 : Int32) then
        f_180_366_4 i0 P n x1 (x2 + (0 : Int32)) (x3 + 1)
      else
      Option.bind (f_135_366 i0 P x3 (1 : Int32)) fun v2 =>
      if v2 = x1 then
        f_180_366_4 i0 P n x1 (x2 + (1 : Int32)) (x3 + 1)
      else
      f_180_366_4 i0 P n x1 (x2 + (0 : Int32)) (x3 + 1)
    else
    some x2
theorem t_180_366_4 {xs : Nat × (Nat → Int32)} {d : Nat} (i0 : Nat) (P : ab_P) : ∀ n : Nat, ∀ (x1 : Int32) (x2 : Int32) (x3 : Int32), ab_tr xs (rI P) (d + 2) 180 4 [] [.inr (20, 366, 0, i0), .inl (.int x1), .inl (.int x2), .inl (.int x3)] [] P (f_180_366_4 i0 P n x1 x2 x3) := by
  intro n
  induction n with
  | zero => intro x1 x2 x3; exact tr_no
  | succ n ih =>
    intro x1 x2 x3
    refine tr_nil (rows2 := kb_180_4) rfl (List.cons_ne_nil _ _) ?_
    refine tr_blk 4 (pc' := 10) (rows' := kb_180_4.drop 4) (loc' := [.inr (20, 366, 0, i0), .inl (.int x1), .inl (.int x2), .inl (.int x3)]) (st' := [.inl (.int (P.1 i0 360)), .inl (.int x3)]) (P1 := P) rfl ⟨trivial, trivial, trivial, (ab_vi (by decide)), trivial⟩ ?_
    refine tr_if (fun h3 => ?_) (fun h3 => ?_)
    · refine tr_icF (cd := .ge) (Int32.not_le.mpr h3) ?_
      refine tr_blk 3 (pc' := 16) (rows' := kb_180_4.drop 8) (loc' := [.inr (20, 366, 0, i0), .inl (.int x1), .inl (.int x2), .inl (.int x3)]) (st' := [.inl (.int x3), .inr (20, 366, 0, i0), .inl (.int x2)]) (P1 := P) rfl ⟨trivial, trivial, trivial, trivial⟩ ?_
      refine tr_cRI (z := km_144) (av := [.inr (20, 366, 0, i0), .inl (.int x3)]) (st' := [.inl (.int x2)]) rfl rfl rfl (Nat.le_of_ble_eq_true rfl) trivial rfl (Nat.le_of_ble_eq_true rfl) (t_144_366 i0 P x3) (fun v1 => ?_)
      refine tr_if (fun h4 => ?_) (fun h4 => ?_)
      · refine tr_ifT (cd := .eq) h4 ?_
        refine tr_nil (rows2 := kb_180_36) rfl (List.cons_ne_nil _ _) ?_
        refine tr_blk 1 (pc' := 37) (rows' := kb_180_36.drop 1) (loc' := [.inr (20, 366, 0, i0), .inl (.int x1), .inl (.int x2), .inl (.int x3)]) (st' := [.inl (.int (0 : Int32)), .inl (.int x2)]) (P1 := P) rfl ⟨trivial, trivial⟩ ?_
        refine tr_nil (rows2 := kb_180_37) rfl (List.cons_ne_nil _ _) ?_
        refine tr_blk 3 (pc' := 42) (rows' := kb_180_37.drop 3) (loc' := [.inr (20, 366, 0, i0), .inl (.int x1), .inl (.int (x2 + (0 : Int32))), .inl (.int (x3 + 1))]) (st' := []) (P1 := P) rfl ⟨trivial, trivial, trivial, trivial⟩ ?_
        refine tr_goto ?_
        exact ih x1 (x2 + (0 : Int32)) (x3 + 1)
      · refine tr_ifF (cd := .eq) h4 ?_
        refine tr_blk 3 (pc' := 25) (rows' := kb_180_4.drop 13) (loc' := [.inr (20, 366, 0, i0), .inl (.int x1), .inl (.int x2), .inl (.int x3)]) (st' := [.inl (.int (1 : Int32)), .inl (.int x3), .inr (20, 366, 0, i0), .inl (.int x2)]) (P1 := P) rfl ⟨trivial, trivial, trivial, trivial⟩ ?_
        refine tr_cRI (z := km_135) (av := [.inr (20, 366, 0, i0), .inl (.int x3), .inl (.int (1 : Int32))]) (st' := [.inl (.int x2)]) rfl rfl rfl (Nat.le_of_ble_eq_true rfl) trivial rfl (Nat.le_of_ble_eq_true rfl) (t_135_366 i0 P x3 (1 : Int32)) (fun v2 => ?_)
        refine tr_blk 1 (pc' := 29) (rows' := kb_180_4.drop 15) (loc' := [.inr (20, 366, 0, i0), .inl (.int x1), .inl (.int x2), .inl (.int x3)]) (st' := [.inl (.int x1), .inl (.int v2), .inl (.int x2)]) (P1 := P) rfl ⟨trivial, trivial⟩ ?_
        refine tr_if (fun h5 => ?_) (fun h5 => ?_)
        · refine tr_icF (cd := .ne) (fun q => q h5) ?_
          refine tr_blk 1 (pc' := 33) (rows' := kb_180_4.drop 17) (loc' := [.inr (20, 366, 0, i0), .inl (.int x1), .inl (.int x2), .inl (.int x3)]) (st' := [.inl (.int (1 : Int32)), .inl (.int x2)]) (P1 := P) rfl ⟨trivial, trivial⟩ ?_
          refine tr_goto ?_
          refine tr_nil (rows2 := kb_180_37) rfl (List.cons_ne_nil _ _) ?_
          refine tr_blk 3 (pc' := 42) (rows' := kb_180_37.drop 3) (loc' := [.inr (20, 366, 0, i0), .inl (.int x1), .inl (.int (x2 + (1 : Int32))), .inl (.int (x3 + 1))]) (st' := []) (P1 := P) rfl ⟨trivial, trivial, trivial, trivial⟩ ?_
          refine tr_goto ?_
          exact ih x1 (x2 + (1 : Int32)) (x3 + 1)
        · refine tr_icT (cd := .ne) h5 ?_
          refine tr_nil (rows2 := kb_180_36) rfl (List.cons_ne_nil _ _) ?_
          refine tr_blk 1 (pc' := 37) (rows' := kb_180_36.drop 1) (loc' := [.inr (20, 366, 0, i0), .inl (.int x1), .inl (.int x2), .inl (.int x3)]) (st' := [.inl (.int (0 : Int32)), .inl (.int x2)]) (P1 := P) rfl ⟨trivial, trivial⟩ ?_
          refine tr_nil (rows2 := kb_180_37) rfl (List.cons_ne_nil _ _) ?_
          refine tr_blk 3 (pc' := 42) (rows' := kb_180_37.drop 3) (loc' := [.inr (20, 366, 0, i0), .inl (.int x1), .inl (.int (x2 + (0 : Int32))), .inl (.int (x3 + 1))]) (st' := []) (P1 := P) rfl ⟨trivial, trivial, trivial, trivial⟩ ?_
          refine tr_goto ?_
          exact ih x1 (x2 + (0 : Int32)) (x3 + 1)
    · refine tr_icT (cd := .ge) (Int32.not_lt.mp h3) ?_
      refine tr_nil (rows2 := kb_180_45) rfl (List.cons_ne_nil _ _) ?_
      refine tr_blk 1 (pc' := 46) (rows' := kb_180_45.drop 1) (loc' := [.inr (20, 366, 0, i0), .inl (.int x1), .inl (.int x2), .inl (.int x3)]) (st' := [.inl (.int x2)]) (P1 := P) rfl ⟨trivial, trivial⟩ ?_
      exact tr_reI (z := km_180) rfl ⟨_, rfl, rfl⟩ rfl
def f_180_366 (i0 : Nat) (N : Nat) (P : ab_P) (a1 : Int32) : Option Int32 :=
    f_180_366_4 i0 P N a1 (0 : Int32) (0 : Int32)
theorem t_180_366 {xs : Nat × (Nat → Int32)} {d : Nat} (i0 : Nat) (N : Nat) (P : ab_P) : ∀ (a1 : Int32), ab_tr xs (rI P) (d + 2) 180 0 [] [.inr (20, 366, 0, i0), .inl (.int a1), ab_top, ab_top] [] P (f_180_366 i0 N P a1) := by
  intro a1
  unfold f_180_366
  refine tr_nil (rows2 := kb_180_0) rfl (List.cons_ne_nil _ _) ?_
  refine tr_blk 4 (pc' := 4) (rows' := kb_180_0.drop 4) (loc' := [.inr (20, 366, 0, i0), .inl (.int a1), .inl (.int (0 : Int32)), .inl (.int (0 : Int32))]) (st' := []) (P1 := P) rfl ⟨trivial, trivial, trivial, trivial, trivial⟩ ?_
  exact t_180_366_4 i0 P N a1 (0 : Int32) (0 : Int32)
def f_298 (P : ab_P) (a0 : Int32) (a1 : Int32) (a2 : Int32) : Option Int32 :=
    if a0 = 2 then
      some (a1 + a2)
    else
    if a0 = 3 then
      some (a1 - a2)
    else
    if a0 = 4 then
      some (a1 * a2)
    else
    if a0 = 5 then
      if a2 = (0 : Int32) then
        some (0 : Int32)
      else
      if a2 = (-1 : Int32) then
        some (-a1)
      else
      if ¬ a2 = 0 then
      some (a1 / a2)
      else none
    else
    if a0 = 6 then
      Option.bind (f_192 P a1 a2) fun v2 =>
      some v2
    else
    Option.bind (f_193 P a1 a2) fun v3 =>
    some v3
theorem t_298 {xs : Nat × (Nat → Int32)} {d : Nat} (P : ab_P) : ∀ (a0 : Int32) (a1 : Int32) (a2 : Int32), ab_tr xs (rI P) (d + 1) 298 0 [] [.inl (.int a0), .inl (.int a1), .inl (.int a2)] [] P (f_298 P a0 a1 a2) := by
  intro a0 a1 a2
  unfold f_298
  refine tr_nil (rows2 := kb_298_0) rfl (List.cons_ne_nil _ _) ?_
  refine tr_blk 1 (pc' := 1) (rows' := kb_298_0.drop 1) (loc' := [.inl (.int a0), .inl (.int a1), .inl (.int a2)]) (st' := [.inl (.int a0)]) (P1 := P) rfl ⟨trivial, trivial⟩ ?_
  refine tr_if (fun h4 => ?_) (fun h4 => ?_)
  · refine tr_sw (t := 36) (by rw [h4]; rfl) ?_
    refine tr_nil (rows2 := kb_298_36) rfl (List.cons_ne_nil _ _) ?_
    refine tr_blk 3 (pc' := 39) (rows' := kb_298_36.drop 3) (loc' := [.inl (.int a0), .inl (.int a1), .inl (.int a2)]) (st' := [.inl (.int (a1 + a2))]) (P1 := P) rfl ⟨trivial, trivial, trivial, trivial⟩ ?_
    exact tr_reI (z := km_298) rfl ⟨_, rfl, rfl⟩ rfl
  refine tr_if (fun h5 => ?_) (fun h5 => ?_)
  · refine tr_sw (t := 40) (by rw [h5]; rfl) ?_
    refine tr_nil (rows2 := kb_298_40) rfl (List.cons_ne_nil _ _) ?_
    refine tr_blk 3 (pc' := 43) (rows' := kb_298_40.drop 3) (loc' := [.inl (.int a0), .inl (.int a1), .inl (.int a2)]) (st' := [.inl (.int (a1 - a2))]) (P1 := P) rfl ⟨trivial, trivial, trivial, trivial⟩ ?_
    exact tr_reI (z := km_298) rfl ⟨_, rfl, rfl⟩ rfl
  refine tr_if (fun h6 => ?_) (fun h6 => ?_)
  · refine tr_sw (t := 44) (by rw [h6]; rfl) ?_
    refine tr_nil (rows2 := kb_298_44) rfl (List.cons_ne_nil _ _) ?_
    refine tr_blk 3 (pc' := 47) (rows' := kb_298_44.drop 3) (loc' := [.inl (.int a0), .inl (.int a1), .inl (.int a2)]) (st' := [.inl (.int (a1 * a2))]) (P1 := P) rfl ⟨trivial, trivial, trivial, trivial⟩ ?_
    exact tr_reI (z := km_298) rfl ⟨_, rfl, rfl⟩ rfl
  refine tr_if (fun h7 => ?_) (fun h7 => ?_)
  · refine tr_sw (t := 48) (by rw [h7]; rfl) ?_
    refine tr_nil (rows2 := kb_298_48) rfl (List.cons_ne_nil _ _) ?_
    refine tr_blk 1 (pc' := 49) (rows' := kb_298_48.drop 1) (loc' := [.inl (.int a0), .inl (.int a1), .inl (.int a2)]) (st' := [.inl (.int a2)]) (P1 := P) rfl ⟨trivial, trivial⟩ ?_
    refine tr_if (fun h8 => ?_) (fun h8 => ?_)
    · refine tr_ifF (cd := .ne) (fun q => q h8) ?_
      refine tr_blk 1 (pc' := 53) (rows' := kb_298_48.drop 3) (loc' := [.inl (.int a0), .inl (.int a1), .inl (.int a2)]) (st' := [.inl (.int (0 : Int32))]) (P1 := P) rfl ⟨trivial, trivial⟩ ?_
      refine tr_goto ?_
      refine tr_nil (rows2 := kb_298_69) rfl (List.cons_ne_nil _ _) ?_
      exact tr_reI (z := km_298) rfl ⟨_, rfl, rfl⟩ rfl
    · refine tr_ifT (cd := .ne) h8 ?_
      refine tr_nil (rows2 := kb_298_56) rfl (List.cons_ne_nil _ _) ?_
      refine tr_blk 2 (pc' := 58) (rows' := kb_298_56.drop 2) (loc' := [.inl (.int a0), .inl (.int a1), .inl (.int a2)]) (st' := [.inl (.int (-1 : Int32)), .inl (.int a2)]) (P1 := P) rfl ⟨trivial, trivial, trivial⟩ ?_
      refine tr_if (fun h9 => ?_) (fun h9 => ?_)
      · refine tr_icF (cd := .ne) (fun q => q h9) ?_
        refine tr_blk 2 (pc' := 63) (rows' := kb_298_56.drop 5) (loc' := [.inl (.int a0), .inl (.int a1), .inl (.int a2)]) (st' := [.inl (.int (-a1))]) (P1 := P) rfl ⟨trivial, trivial, trivial⟩ ?_
        refine tr_goto ?_
        refine tr_nil (rows2 := kb_298_69) rfl (List.cons_ne_nil _ _) ?_
        exact tr_reI (z := km_298) rfl ⟨_, rfl, rfl⟩ rfl
      · refine tr_icT (cd := .ne) h9 ?_
        refine tr_nil (rows2 := kb_298_66) rfl (List.cons_ne_nil _ _) ?_
        refine tr_gd (fun h1 => ?_)
        refine tr_blk 3 (pc' := 69) (rows' := kb_298_66.drop 3) (loc' := [.inl (.int a0), .inl (.int a1), .inl (.int a2)]) (st' := [.inl (.int (a1 / a2))]) (P1 := P) rfl ⟨trivial, trivial, h1, trivial⟩ ?_
        refine tr_nil (rows2 := kb_298_69) rfl (List.cons_ne_nil _ _) ?_
        exact tr_reI (z := km_298) rfl ⟨_, rfl, rfl⟩ rfl
  refine tr_if (fun h10 => ?_) (fun h10 => ?_)
  · refine tr_sw (t := 70) (by rw [h10]; rfl) ?_
    refine tr_nil (rows2 := kb_298_70) rfl (List.cons_ne_nil _ _) ?_
    refine tr_blk 2 (pc' := 72) (rows' := kb_298_70.drop 2) (loc' := [.inl (.int a0), .inl (.int a1), .inl (.int a2)]) (st' := [.inl (.int a2), .inl (.int a1)]) (P1 := P) rfl ⟨trivial, trivial, trivial⟩ ?_
    refine tr_cRI (z := km_192) (av := [.inl (.int a1), .inl (.int a2)]) (st' := []) rfl rfl rfl (Nat.le_of_ble_eq_true rfl) trivial rfl (Nat.le_of_ble_eq_true rfl) (t_192 P a1 a2) (fun v2 => ?_)
    exact tr_reI (z := km_298) rfl ⟨_, rfl, rfl⟩ rfl
  refine tr_sw (t := 76) (ab_swd (k := 5) (by decide) rfl ⟨ab_nei h4 (by decide), ab_nei h5 (by decide), ab_nei h6 (by decide), ab_nei h7 (by decide), ab_nei h10 (by decide), trivial⟩) ?_
  refine tr_nil (rows2 := kb_298_76) rfl (List.cons_ne_nil _ _) ?_
  refine tr_blk 2 (pc' := 78) (rows' := kb_298_76.drop 2) (loc' := [.inl (.int a0), .inl (.int a1), .inl (.int a2)]) (st' := [.inl (.int a2), .inl (.int a1)]) (P1 := P) rfl ⟨trivial, trivial, trivial⟩ ?_
  refine tr_cRI (z := km_193) (av := [.inl (.int a1), .inl (.int a2)]) (st' := []) rfl rfl rfl (Nat.le_of_ble_eq_true rfl) trivial rfl (Nat.le_of_ble_eq_true rfl) (t_193 P a1 a2) (fun v3 => ?_)
  exact tr_reI (z := km_298) rfl ⟨_, rfl, rfl⟩ rfl
def f_242_30 : Nat → Int32 → Int32 → ab_P → Option (Int32 × ab_P)
  | 0, _, _, _ => none
  | n + 1, x1, x2, P =>
    if x2 < (P.1 72 16) then
      if ab_gi x2 160 then
      if (P.1 (104 + 1 + x2.toNatClampNeg) 0) < (2 : Int32) then
        if ab_gi x2 160 then
        if (P.1 (104 + 1 + x2.toNatClampNeg) 0) = (0 : Int32) then
          if ab_gi x2 160 then
          if ab_gi x1 160 then
          ab_lt (ab_pI P 475 x1.toNatClampNeg (P.1 (104 + 1 + x2.toNatClampNeg) 1)) fun P15 =>
          f_242_30 n (x1 + 1) (x2 + 1) P15
          else none
          else none
        else
        if ab_gi x2 160 then
        if ab_gi (P.1 (104 + 1 + x2.toNatClampNeg) 1) 8 then
        if ab_gi x1 160 then
        ab_lt (ab_pI P 475 x1.toNatClampNeg (P.1 476 ((P.1 (104 + 1 + x2.toNatClampNeg) 1)).toNatClampNeg)) fun P12 =>
        f_242_30 n (x1 + 1) (x2 + 1) P12
        else none
        else none
        else none
        else none
      else
      if ab_gi x2 160 then
      if ab_gi ((x1 + (-1)) - (1 : Int32)) 160 then
      if ab_gi (x1 + (-1)) 160 then
      Option.bind (f_298 P (P.1 (104 + 1 + x2.toNatClampNeg) 0) (P.1 475 (((x1 + (-1)) - (1 : Int32))).toNatClampNeg) (P.1 475 ((x1 + (-1))).toNatClampNeg)) fun v5 =>
      if ab_gi ((x1 + (-1)) - (1 : Int32)) 160 then
      ab_lt (ab_pI P 475 (((x1 + (-1)) - (1 : Int32))).toNatClampNeg v5) fun P7 =>
      f_242_30 n (x1 + (-1)) (x2 + 1) P7
      else none
      else none
      else none
      else none
      else none
    else
    some ((P.1 475 0), P)
theorem t_242_30 {xs : Nat × (Nat → Int32)} {d : Nat} : ∀ n : Nat, ∀ (x1 : Int32) (x2 : Int32) (P : ab_P), ab_tr xs wI (d + 2) 242 30 [] [.inr (12, 0, 0, 72), .inl (.int x1), .inl (.int x2)] [] P (f_242_30 n x1 x2 P) := by
  intro n
  induction n with
  | zero => intro x1 x2 P; exact tr_no
  | succ n ih =>
    intro x1 x2 P
    refine tr_nil (rows2 := kb_242_30) rfl (List.cons_ne_nil _ _) ?_
    refine tr_blk 3 (pc' := 35) (rows' := kb_242_30.drop 3) (loc' := [.inr (12, 0, 0, 72), .inl (.int x1), .inl (.int x2)]) (st' := [.inl (.int (P.1 72 16)), .inl (.int x2)]) (P1 := P) rfl ⟨trivial, trivial, trivial, trivial⟩ ?_
    refine tr_if (fun h16 => ?_) (fun h16 => ?_)
    · refine tr_icF (cd := .ge) (Int32.not_le.mpr h16) ?_
      refine tr_gd (fun h1 => ?_)
      refine tr_blk 7 (pc' := 47) (rows' := kb_242_30.drop 11) (loc' := [.inr (12, 0, 0, 72), .inl (.int x1), .inl (.int x2)]) (st' := [.inl (.int (2 : Int32)), .inl (.int (P.1 (104 + 1 + x2.toNatClampNeg) 0))]) (P1 := P) rfl ⟨trivial, trivial, trivial, ⟨h1, ab_grl h1⟩, trivial, (ab_vi (by decide)), trivial, trivial⟩ ?_
      refine tr_if (fun h17 => ?_) (fun h17 => ?_)
      · refine tr_icF (cd := .ge) (Int32.not_le.mpr h17) ?_
        refine tr_gd (fun h8 => ?_)
        refine tr_blk 9 (pc' := 63) (rows' := kb_242_30.drop 21) (loc' := [.inr (12, 0, 0, 72), .inl (.int x1), .inl (.int x2)]) (st' := [.inl (.int (P.1 (104 + 1 + x2.toNatClampNeg) 0)), .inl (.int x1), .inr (20, 160, 0, 475)]) (P1 := P) rfl ⟨trivial, trivial, trivial, trivial, trivial, trivial, ⟨h8, ab_grl h8⟩, trivial, (ab_vi (by decide)), trivial⟩ ?_
        refine tr_if (fun h18 => ?_) (fun h18 => ?_)
        · refine tr_ifF (cd := .ne) (fun q => q h18) ?_
          refine tr_gd (fun h13 => ?_)
          refine tr_blk 6 (pc' := 74) (rows' := kb_242_30.drop 28) (loc' := [.inr (12, 0, 0, 72), .inl (.int x1), .inl (.int x2)]) (st' := [.inl (.int (P.1 (104 + 1 + x2.toNatClampNeg) 1)), .inl (.int x1), .inr (20, 160, 0, 475)]) (P1 := P) rfl ⟨trivial, trivial, trivial, ⟨h13, ab_grl h13⟩, trivial, (ab_vi (by decide)), trivial⟩ ?_
          refine tr_goto ?_
          refine tr_nil (rows2 := kb_242_90) rfl (List.cons_ne_nil _ _) ?_
          refine tr_gd (fun h14 => ?_)
          refine tr_blk 1 (pc' := 91) (rows' := kb_242_90.drop 1) (loc' := [.inr (12, 0, 0, 72), .inl (.int x1), .inl (.int x2)]) (st' := []) (P1 := (ab_pI P 475 x1.toNatClampNeg (P.1 (104 + 1 + x2.toNatClampNeg) 1))) rfl ⟨h14, trivial⟩ ?_
          refine tr_lt (fun P15 => ?_)
          refine tr_blk 1 (pc' := 94) (rows' := kb_242_90.drop 2) (loc' := [.inr (12, 0, 0, 72), .inl (.int (x1 + 1)), .inl (.int x2)]) (st' := []) (P1 := P15) rfl ⟨trivial, trivial⟩ ?_
          refine tr_goto ?_
          refine tr_nil (rows2 := kb_242_133) rfl (List.cons_ne_nil _ _) ?_
          refine tr_blk 1 (pc' := 136) (rows' := kb_242_133.drop 1) (loc' := [.inr (12, 0, 0, 72), .inl (.int (x1 + 1)), .inl (.int (x2 + 1))]) (st' := []) (P1 := P15) rfl ⟨trivial, trivial⟩ ?_
          refine tr_goto ?_
          exact ih (x1 + 1) (x2 + 1) P15
        · refine tr_ifT (cd := .ne) h18 ?_
          refine tr_nil (rows2 := kb_242_77) rfl (List.cons_ne_nil _ _) ?_
          refine tr_gd (fun h9 => ?_)
          refine tr_gd (fun h10 => ?_)
          refine tr_blk 9 (pc' := 90) (rows' := kb_242_77.drop 9) (loc' := [.inr (12, 0, 0, 72), .inl (.int x1), .inl (.int x2)]) (st' := [.inl (.int (P.1 476 ((P.1 (104 + 1 + x2.toNatClampNeg) 1)).toNatClampNeg)), .inl (.int x1), .inr (20, 160, 0, 475)]) (P1 := P) rfl ⟨trivial, trivial, trivial, trivial, trivial, ⟨h9, ab_grl h9⟩, trivial, (ab_vi (by decide)), h10, trivial⟩ ?_
          refine tr_nil (rows2 := kb_242_90) rfl (List.cons_ne_nil _ _) ?_
          refine tr_gd (fun h11 => ?_)
          refine tr_blk 1 (pc' := 91) (rows' := kb_242_90.drop 1) (loc' := [.inr (12, 0, 0, 72), .inl (.int x1), .inl (.int x2)]) (st' := []) (P1 := (ab_pI P 475 x1.toNatClampNeg (P.1 476 ((P.1 (104 + 1 + x2.toNatClampNeg) 1)).toNatClampNeg))) rfl ⟨h11, trivial⟩ ?_
          refine tr_lt (fun P12 => ?_)
          refine tr_blk 1 (pc' := 94) (rows' := kb_242_90.drop 2) (loc' := [.inr (12, 0, 0, 72), .inl (.int (x1 + 1)), .inl (.int x2)]) (st' := []) (P1 := P12) rfl ⟨trivial, trivial⟩ ?_
          refine tr_goto ?_
          refine tr_nil (rows2 := kb_242_133) rfl (List.cons_ne_nil _ _) ?_
          refine tr_blk 1 (pc' := 136) (rows' := kb_242_133.drop 1) (loc' := [.inr (12, 0, 0, 72), .inl (.int (x1 + 1)), .inl (.int (x2 + 1))]) (st' := []) (P1 := P12) rfl ⟨trivial, trivial⟩ ?_
          refine tr_goto ?_
          exact ih (x1 + 1) (x2 + 1) P12
      · refine tr_icT (cd := .ge) (Int32.not_lt.mp h17) ?_
        refine tr_nil (rows2 := kb_242_97) rfl (List.cons_ne_nil _ _) ?_
        refine tr_gd (fun h2 => ?_)
        refine tr_gd (fun h3 => ?_)
        refine tr_gd (fun h4 => ?_)
        refine tr_blk 22 (pc' := 129) (rows' := kb_242_97.drop 22) (loc' := [.inr (12, 0, 0, 72), .inl (.int (x1 + (-1))), .inl (.int x2)]) (st' := [.inl (.int (P.1 475 ((x1 + (-1))).toNatClampNeg)), .inl (.int (P.1 475 (((x1 + (-1)) - (1 : Int32))).toNatClampNeg)), .inl (.int (P.1 (104 + 1 + x2.toNatClampNeg) 0)), .inl (.int ((x1 + (-1)) - (1 : Int32))), .inr (20, 160, 0, 475)]) (P1 := P) rfl ⟨trivial, trivial, trivial, trivial, trivial, trivial, trivial, trivial, trivial, ⟨h2, ab_grl h2⟩, trivial, (ab_vi (by decide)), trivial, trivial, trivial, trivial, trivial, h3, trivial, trivial, trivial, h4, trivial⟩ ?_
        refine tr_cRI (z := km_298) (av := [.inl (.int (P.1 (104 + 1 + x2.toNatClampNeg) 0)), .inl (.int (P.1 475 (((x1 + (-1)) - (1 : Int32))).toNatClampNeg)), .inl (.int (P.1 475 ((x1 + (-1))).toNatClampNeg))]) (st' := [.inl (.int ((x1 + (-1)) - (1 : Int32))), .inr (20, 160, 0, 475)]) rfl rfl rfl (Nat.le_of_ble_eq_true rfl) trivial rfl (Nat.le_of_ble_eq_true rfl) (t_298 P (P.1 (104 + 1 + x2.toNatClampNeg) 0) (P.1 475 (((x1 + (-1)) - (1 : Int32))).toNatClampNeg) (P.1 475 ((x1 + (-1))).toNatClampNeg)) (fun v5 => ?_)
        refine tr_gd (fun h6 => ?_)
        refine tr_blk 1 (pc' := 133) (rows' := kb_242_97.drop 24) (loc' := [.inr (12, 0, 0, 72), .inl (.int (x1 + (-1))), .inl (.int x2)]) (st' := []) (P1 := (ab_pI P 475 (((x1 + (-1)) - (1 : Int32))).toNatClampNeg v5)) rfl ⟨h6, trivial⟩ ?_
        refine tr_lt (fun P7 => ?_)
        refine tr_nil (rows2 := kb_242_133) rfl (List.cons_ne_nil _ _) ?_
        refine tr_blk 1 (pc' := 136) (rows' := kb_242_133.drop 1) (loc' := [.inr (12, 0, 0, 72), .inl (.int (x1 + (-1))), .inl (.int (x2 + 1))]) (st' := []) (P1 := P7) rfl ⟨trivial, trivial⟩ ?_
        refine tr_goto ?_
        exact ih (x1 + (-1)) (x2 + 1) P7
    · refine tr_icT (cd := .ge) (Int32.not_lt.mp h16) ?_
      refine tr_nil (rows2 := kb_242_139) rfl (List.cons_ne_nil _ _) ?_
      refine tr_blk 4 (pc' := 145) (rows' := kb_242_139.drop 4) (loc' := [.inr (12, 0, 0, 72), .inl (.int x1), .inl (.int x2)]) (st' := [.inl (.int (P.1 475 0))]) (P1 := P) rfl ⟨trivial, trivial, trivial, (ab_vi (by decide)), trivial⟩ ?_
      exact tr_reI (z := km_242) rfl ⟨_, rfl, rfl⟩ rfl
def f_242 (N : Nat) (P : ab_P) : Option (Int32 × ab_P) :=
    if (P.1 72 16) = (0 : Int32) then
      some ((((50 : Int32) + ((5 : Int32) * (P.1 476 2))) - (P.1 476 5)), P)
    else
    f_242_30 N (0 : Int32) (0 : Int32) P
theorem t_242 {xs : Nat × (Nat → Int32)} {d : Nat} (N : Nat) : ∀ (P : ab_P), ab_tr xs wI (d + 2) 242 0 [] [.inr (12, 0, 0, 72), ab_top, ab_top] [] P (f_242 N P) := by
  intro P
  unfold f_242
  refine tr_nil (rows2 := kb_242_0) rfl (List.cons_ne_nil _ _) ?_
  refine tr_blk 2 (pc' := 4) (rows' := kb_242_0.drop 2) (loc' := [.inr (12, 0, 0, 72), ab_top, ab_top]) (st' := [.inl (.int (P.1 72 16))]) (P1 := P) rfl ⟨trivial, trivial, trivial⟩ ?_
  refine tr_if (fun h19 => ?_) (fun h19 => ?_)
  · refine tr_ifF (cd := .ne) (fun q => q h19) ?_
    refine tr_blk 13 (pc' := 25) (rows' := kb_242_0.drop 16) (loc' := [.inr (12, 0, 0, 72), ab_top, ab_top]) (st' := [.inl (.int (((50 : Int32) + ((5 : Int32) * (P.1 476 2))) - (P.1 476 5)))]) (P1 := P) rfl ⟨trivial, trivial, trivial, trivial, trivial, (ab_vi (by decide)), trivial, trivial, trivial, trivial, trivial, (ab_vi (by decide)), trivial, trivial⟩ ?_
    exact tr_reI (z := km_242) rfl ⟨_, rfl, rfl⟩ rfl
  · refine tr_ifT (cd := .ne) h19 ?_
    refine tr_nil (rows2 := kb_242_26) rfl (List.cons_ne_nil _ _) ?_
    refine tr_blk 4 (pc' := 30) (rows' := kb_242_26.drop 4) (loc' := [.inr (12, 0, 0, 72), .inl (.int (0 : Int32)), .inl (.int (0 : Int32))]) (st' := []) (P1 := P) rfl ⟨trivial, trivial, trivial, trivial, trivial⟩ ?_
    exact t_242_30 N (0 : Int32) (0 : Int32) P
def f_148 (N : Nat) (P : ab_P) : Option (Int32 × ab_P) :=
    ab_b2 (f_242 N P) fun v2 P1 =>
    Option.bind (f_192 P1 (99 : Int32) v2) fun v3 =>
    Option.bind (f_193 P1 (0 : Int32) v3) fun v4 =>
    some (v4, P1)
theorem t_148 {xs : Nat × (Nat → Int32)} {d : Nat} (N : Nat) : ∀ (P : ab_P), ab_tr xs wI (d + 3) 148 0 [] [.inr (12, 0, 0, 72)] [] P (f_148 N P) := by
  intro P
  unfold f_148
  refine tr_nil (rows2 := kb_148_0) rfl (List.cons_ne_nil _ _) ?_
  refine tr_blk 3 (pc' := 4) (rows' := kb_148_0.drop 3) (loc' := [.inr (12, 0, 0, 72)]) (st' := [.inr (12, 0, 0, 72), .inl (.int (99 : Int32)), .inl (.int (0 : Int32))]) (P1 := P) rfl ⟨trivial, trivial, trivial, trivial⟩ ?_
  refine tr_cWI (z := km_242) (av := [.inr (12, 0, 0, 72)]) (st' := [.inl (.int (99 : Int32)), .inl (.int (0 : Int32))]) rfl rfl rfl (Nat.le_of_ble_eq_true rfl) ⟨rfl, Or.inl (by decide)⟩ rfl (Nat.le_of_ble_eq_true rfl) (t_242 N P) (fun v2 P1 => ?_)
  refine tr_cRI (z := km_192) (av := [.inl (.int (99 : Int32)), .inl (.int v2)]) (st' := [.inl (.int (0 : Int32))]) rfl rfl rfl (Nat.le_of_ble_eq_true rfl) trivial rfl (Nat.le_of_ble_eq_true rfl) (t_192 P1 (99 : Int32) v2) (fun v3 => ?_)
  refine tr_cRI (z := km_193) (av := [.inl (.int (0 : Int32)), .inl (.int v3)]) (st' := []) rfl rfl rfl (Nat.le_of_ble_eq_true rfl) trivial rfl (Nat.le_of_ble_eq_true rfl) (t_193 P1 (0 : Int32) v3) (fun v4 => ?_)
  exact tr_reI (z := km_148) rfl ⟨_, rfl, rfl⟩ rfl
def f_181_366 (i1 : Nat) (N : Nat) (a2 : Int32) (a3 : Int32) (P : ab_P) : Option (Int32 × ab_P) :=
    Option.bind (f_135_366 i1 P a2 (2 : Int32)) fun v1 =>
    ab_lt (ab_pI P 476 0 v1) fun P2 =>
    Option.bind (f_135_366 i1 P2 a2 (3 : Int32)) fun v3 =>
    ab_lt (ab_pI P2 476 1 ((P2.1 i1 361) - v3)) fun P4 =>
    Option.bind (f_135_366 i1 P4 a2 (0 : Int32)) fun v5 =>
    if ab_gi v5 8 then
    ab_lt (ab_pI P4 476 2 (P4.1 78 v5.toNatClampNeg)) fun P7 =>
    Option.bind (f_135_366 i1 P7 a2 (1 : Int32)) fun v8 =>
    if ab_gi v8 8 then
    ab_lt (ab_pI P7 476 3 (P7.1 78 v8.toNatClampNeg)) fun P10 =>
    Option.bind (f_135_366 i1 P10 a2 (4 : Int32)) fun v11 =>
    ab_lt (ab_pI P10 476 4 v11) fun P12 =>
    Option.bind (f_135_366 i1 P12 a2 (5 : Int32)) fun v13 =>
    ab_lt (ab_pI P12 476 5 v13) fun P14 =>
    ab_lt (ab_pI P14 476 6 (P14.1 i1 361)) fun P15 =>
    ab_lt (ab_pI P15 476 7 a3) fun P16 =>
    ab_b2 (f_148 N P16) fun v18 P17 =>
    some (v18, P17)
    else none
    else none
theorem t_181_366 {xs : Nat × (Nat → Int32)} {d : Nat} (i1 : Nat) (N : Nat) : ∀ (a2 : Int32) (a3 : Int32) (P : ab_P), ab_tr xs wI (d + 4) 181 0 [] [.inr (12, 0, 0, 72), .inr (20, 366, 0, i1), .inl (.int a2), .inl (.int a3)] [] P (f_181_366 i1 N a2 a3 P) := by
  intro a2 a3 P
  unfold f_181_366
  refine tr_nil (rows2 := kb_181_0) rfl (List.cons_ne_nil _ _) ?_
  refine tr_blk 6 (pc' := 8) (rows' := kb_181_0.drop 6) (loc' := [.inr (12, 0, 0, 72), .inr (20, 366, 0, i1), .inl (.int a2), .inl (.int a3)]) (st' := [.inl (.int (2 : Int32)), .inl (.int a2), .inr (20, 366, 0, i1), .inl (.int (0 : Int32)), .inr (20, 8, 0, 476)]) (P1 := P) rfl ⟨trivial, trivial, trivial, trivial, trivial, trivial, trivial⟩ ?_
  refine tr_cRI (z := km_135) (av := [.inr (20, 366, 0, i1), .inl (.int a2), .inl (.int (2 : Int32))]) (st' := [.inl (.int (0 : Int32)), .inr (20, 8, 0, 476)]) rfl rfl rfl (Nat.le_of_ble_eq_true rfl) trivial rfl (Nat.le_of_ble_eq_true rfl) (t_135_366 i1 P a2 (2 : Int32)) (fun v1 => ?_)
  refine tr_blk 1 (pc' := 12) (rows' := kb_181_0.drop 8) (loc' := [.inr (12, 0, 0, 72), .inr (20, 366, 0, i1), .inl (.int a2), .inl (.int a3)]) (st' := []) (P1 := (ab_pI P 476 0 v1)) rfl ⟨(ab_vi (by decide)), trivial⟩ ?_
  refine tr_lt (fun P2 => ?_)
  refine tr_blk 9 (pc' := 25) (rows' := kb_181_0.drop 17) (loc' := [.inr (12, 0, 0, 72), .inr (20, 366, 0, i1), .inl (.int a2), .inl (.int a3)]) (st' := [.inl (.int (3 : Int32)), .inl (.int a2), .inr (20, 366, 0, i1), .inl (.int (P2.1 i1 361)), .inl (.int (1 : Int32)), .inr (20, 8, 0, 476)]) (P1 := P2) rfl ⟨trivial, trivial, trivial, trivial, trivial, (ab_vi (by decide)), trivial, trivial, trivial, trivial⟩ ?_
  refine tr_cRI (z := km_135) (av := [.inr (20, 366, 0, i1), .inl (.int a2), .inl (.int (3 : Int32))]) (st' := [.inl (.int (P2.1 i1 361)), .inl (.int (1 : Int32)), .inr (20, 8, 0, 476)]) rfl rfl rfl (Nat.le_of_ble_eq_true rfl) trivial rfl (Nat.le_of_ble_eq_true rfl) (t_135_366 i1 P2 a2 (3 : Int32)) (fun v3 => ?_)
  refine tr_blk 2 (pc' := 30) (rows' := kb_181_0.drop 20) (loc' := [.inr (12, 0, 0, 72), .inr (20, 366, 0, i1), .inl (.int a2), .inl (.int a3)]) (st' := []) (P1 := (ab_pI P2 476 1 ((P2.1 i1 361) - v3))) rfl ⟨trivial, (ab_vi (by decide)), trivial⟩ ?_
  refine tr_lt (fun P4 => ?_)
  refine tr_blk 8 (pc' := 42) (rows' := kb_181_0.drop 28) (loc' := [.inr (12, 0, 0, 72), .inr (20, 366, 0, i1), .inl (.int a2), .inl (.int a3)]) (st' := [.inl (.int (0 : Int32)), .inl (.int a2), .inr (20, 366, 0, i1), .inr (20, 8, 0, 78), .inl (.int (2 : Int32)), .inr (20, 8, 0, 476)]) (P1 := P4) rfl ⟨trivial, trivial, trivial, trivial, trivial, trivial, trivial, trivial, trivial⟩ ?_
  refine tr_cRI (z := km_135) (av := [.inr (20, 366, 0, i1), .inl (.int a2), .inl (.int (0 : Int32))]) (st' := [.inr (20, 8, 0, 78), .inl (.int (2 : Int32)), .inr (20, 8, 0, 476)]) rfl rfl rfl (Nat.le_of_ble_eq_true rfl) trivial rfl (Nat.le_of_ble_eq_true rfl) (t_135_366 i1 P4 a2 (0 : Int32)) (fun v5 => ?_)
  refine tr_gd (fun h6 => ?_)
  refine tr_blk 2 (pc' := 47) (rows' := kb_181_0.drop 31) (loc' := [.inr (12, 0, 0, 72), .inr (20, 366, 0, i1), .inl (.int a2), .inl (.int a3)]) (st' := []) (P1 := (ab_pI P4 476 2 (P4.1 78 v5.toNatClampNeg))) rfl ⟨h6, (ab_vi (by decide)), trivial⟩ ?_
  refine tr_lt (fun P7 => ?_)
  refine tr_blk 8 (pc' := 59) (rows' := kb_181_0.drop 39) (loc' := [.inr (12, 0, 0, 72), .inr (20, 366, 0, i1), .inl (.int a2), .inl (.int a3)]) (st' := [.inl (.int (1 : Int32)), .inl (.int a2), .inr (20, 366, 0, i1), .inr (20, 8, 0, 78), .inl (.int (3 : Int32)), .inr (20, 8, 0, 476)]) (P1 := P7) rfl ⟨trivial, trivial, trivial, trivial, trivial, trivial, trivial, trivial, trivial⟩ ?_
  refine tr_cRI (z := km_135) (av := [.inr (20, 366, 0, i1), .inl (.int a2), .inl (.int (1 : Int32))]) (st' := [.inr (20, 8, 0, 78), .inl (.int (3 : Int32)), .inr (20, 8, 0, 476)]) rfl rfl rfl (Nat.le_of_ble_eq_true rfl) trivial rfl (Nat.le_of_ble_eq_true rfl) (t_135_366 i1 P7 a2 (1 : Int32)) (fun v8 => ?_)
  refine tr_gd (fun h9 => ?_)
  refine tr_blk 2 (pc' := 64) (rows' := kb_181_0.drop 42) (loc' := [.inr (12, 0, 0, 72), .inr (20, 366, 0, i1), .inl (.int a2), .inl (.int a3)]) (st' := []) (P1 := (ab_pI P7 476 3 (P7.1 78 v8.toNatClampNeg))) rfl ⟨h9, (ab_vi (by decide)), trivial⟩ ?_
  refine tr_lt (fun P10 => ?_)
  refine tr_blk 6 (pc' := 72) (rows' := kb_181_0.drop 48) (loc' := [.inr (12, 0, 0, 72), .inr (20, 366, 0, i1), .inl (.int a2), .inl (.int a3)]) (st' := [.inl (.int (4 : Int32)), .inl (.int a2), .inr (20, 366, 0, i1), .inl (.int (4 : Int32)), .inr (20, 8, 0, 476)]) (P1 := P10) rfl ⟨trivial, trivial, trivial, trivial, trivial, trivial, trivial⟩ ?_
  refine tr_cRI (z := km_135) (av := [.inr (20, 366, 0, i1), .inl (.int a2), .inl (.int (4 : Int32))]) (st' := [.inl (.int (4 : Int32)), .inr (20, 8, 0, 476)]) rfl rfl rfl (Nat.le_of_ble_eq_true rfl) trivial rfl (Nat.le_of_ble_eq_true rfl) (t_135_366 i1 P10 a2 (4 : Int32)) (fun v11 => ?_)
  refine tr_blk 1 (pc' := 76) (rows' := kb_181_0.drop 50) (loc' := [.inr (12, 0, 0, 72), .inr (20, 366, 0, i1), .inl (.int a2), .inl (.int a3)]) (st' := []) (P1 := (ab_pI P10 476 4 v11)) rfl ⟨(ab_vi (by decide)), trivial⟩ ?_
  refine tr_lt (fun P12 => ?_)
  refine tr_blk 6 (pc' := 84) (rows' := kb_181_0.drop 56) (loc' := [.inr (12, 0, 0, 72), .inr (20, 366, 0, i1), .inl (.int a2), .inl (.int a3)]) (st' := [.inl (.int (5 : Int32)), .inl (.int a2), .inr (20, 366, 0, i1), .inl (.int (5 : Int32)), .inr (20, 8, 0, 476)]) (P1 := P12) rfl ⟨trivial, trivial, trivial, trivial, trivial, trivial, trivial⟩ ?_
  refine tr_cRI (z := km_135) (av := [.inr (20, 366, 0, i1), .inl (.int a2), .inl (.int (5 : Int32))]) (st' := [.inl (.int (5 : Int32)), .inr (20, 8, 0, 476)]) rfl rfl rfl (Nat.le_of_ble_eq_true rfl) trivial rfl (Nat.le_of_ble_eq_true rfl) (t_135_366 i1 P12 a2 (5 : Int32)) (fun v13 => ?_)
  refine tr_blk 1 (pc' := 88) (rows' := kb_181_0.drop 58) (loc' := [.inr (12, 0, 0, 72), .inr (20, 366, 0, i1), .inl (.int a2), .inl (.int a3)]) (st' := []) (P1 := (ab_pI P12 476 5 v13)) rfl ⟨(ab_vi (by decide)), trivial⟩ ?_
  refine tr_lt (fun P14 => ?_)
  refine tr_blk 7 (pc' := 100) (rows' := kb_181_0.drop 65) (loc' := [.inr (12, 0, 0, 72), .inr (20, 366, 0, i1), .inl (.int a2), .inl (.int a3)]) (st' := []) (P1 := (ab_pI P14 476 6 (P14.1 i1 361))) rfl ⟨trivial, trivial, trivial, trivial, trivial, (ab_vi (by decide)), (ab_vi (by decide)), trivial⟩ ?_
  refine tr_lt (fun P15 => ?_)
  refine tr_blk 5 (pc' := 108) (rows' := kb_181_0.drop 70) (loc' := [.inr (12, 0, 0, 72), .inr (20, 366, 0, i1), .inl (.int a2), .inl (.int a3)]) (st' := []) (P1 := (ab_pI P15 476 7 a3)) rfl ⟨trivial, trivial, trivial, trivial, (ab_vi (by decide)), trivial⟩ ?_
  refine tr_lt (fun P16 => ?_)
  refine tr_blk 1 (pc' := 109) (rows' := kb_181_0.drop 71) (loc' := [.inr (12, 0, 0, 72), .inr (20, 366, 0, i1), .inl (.int a2), .inl (.int a3)]) (st' := [.inr (12, 0, 0, 72)]) (P1 := P16) rfl ⟨trivial, trivial⟩ ?_
  refine tr_cWI (z := km_148) (av := [.inr (12, 0, 0, 72)]) (st' := []) rfl rfl rfl (Nat.le_of_ble_eq_true rfl) ⟨rfl, Or.inl (by decide)⟩ rfl (Nat.le_of_ble_eq_true rfl) (t_148 N P16) (fun v18 P17 => ?_)
  exact tr_reI (z := km_181) rfl ⟨_, rfl, rfl⟩ rfl
def f_146_366 (i1 : Nat) (N : Nat) (a2 : Int32) (P : ab_P) : Option (Int32 × ab_P) :=
    Option.bind (f_135_366 i1 P a2 (1 : Int32)) fun v1 =>
    Option.bind (f_180_366 i1 N P v1) fun v2 =>
    ab_b2 (f_181_366 i1 N a2 v2 P) fun v4 P3 =>
    some (v4, P3)
theorem t_146_366 {xs : Nat × (Nat → Int32)} {d : Nat} (i1 : Nat) (N : Nat) : ∀ (a2 : Int32) (P : ab_P), ab_tr xs wI (d + 5) 146 0 [] [.inr (12, 0, 0, 72), .inr (20, 366, 0, i1), .inl (.int a2)] [] P (f_146_366 i1 N a2 P) := by
  intro a2 P
  unfold f_146_366
  refine tr_nil (rows2 := kb_146_0) rfl (List.cons_ne_nil _ _) ?_
  refine tr_blk 7 (pc' := 7) (rows' := kb_146_0.drop 7) (loc' := [.inr (12, 0, 0, 72), .inr (20, 366, 0, i1), .inl (.int a2)]) (st' := [.inl (.int (1 : Int32)), .inl (.int a2), .inr (20, 366, 0, i1), .inr (20, 366, 0, i1), .inl (.int a2), .inr (20, 366, 0, i1), .inr (12, 0, 0, 72)]) (P1 := P) rfl ⟨trivial, trivial, trivial, trivial, trivial, trivial, trivial, trivial⟩ ?_
  refine tr_cRI (z := km_135) (av := [.inr (20, 366, 0, i1), .inl (.int a2), .inl (.int (1 : Int32))]) (st' := [.inr (20, 366, 0, i1), .inl (.int a2), .inr (20, 366, 0, i1), .inr (12, 0, 0, 72)]) rfl rfl rfl (Nat.le_of_ble_eq_true rfl) trivial rfl (Nat.le_of_ble_eq_true rfl) (t_135_366 i1 P a2 (1 : Int32)) (fun v1 => ?_)
  refine tr_cRI (z := km_180) (av := [.inr (20, 366, 0, i1), .inl (.int v1)]) (st' := [.inl (.int a2), .inr (20, 366, 0, i1), .inr (12, 0, 0, 72)]) rfl rfl rfl (Nat.le_of_ble_eq_true rfl) trivial rfl (Nat.le_of_ble_eq_true rfl) (t_180_366 i1 N P v1) (fun v2 => ?_)
  refine tr_cWI (z := km_181) (av := [.inr (12, 0, 0, 72), .inr (20, 366, 0, i1), .inl (.int a2), .inl (.int v2)]) (st' := []) rfl rfl rfl (Nat.le_of_ble_eq_true rfl) ⟨rfl, Or.inl (by decide)⟩ rfl (Nat.le_of_ble_eq_true rfl) (t_181_366 i1 N a2 v2 P) (fun v4 P3 => ?_)
  exact tr_reI (z := km_146) rfl ⟨_, rfl, rfl⟩ rfl
def f_245_366 (i0 : Nat) (P : ab_P) (a1 : Int32) (a2 : Int32) (a3 : Int32) : Option Int32 :=
    Option.bind (f_144_366 i0 P a1) fun v1 =>
    if v1 = (0 : Int32) then
      some (0 : Int32)
    else
    Option.bind (f_135_366 i0 P a1 (1 : Int32)) fun v2 =>
    if v2 = a2 then
      Option.bind (f_135_366 i0 P a1 (0 : Int32)) fun v3 =>
      if v3 = a3 then
        some (0 : Int32)
      else
      some (1 : Int32)
    else
    some (0 : Int32)
theorem t_245_366 {xs : Nat × (Nat → Int32)} {d : Nat} (i0 : Nat) (P : ab_P) : ∀ (a1 : Int32) (a2 : Int32) (a3 : Int32), ab_tr xs (rI P) (d + 2) 245 0 [] [.inr (20, 366, 0, i0), .inl (.int a1), .inl (.int a2), .inl (.int a3)] [] P (f_245_366 i0 P a1 a2 a3) := by
  intro a1 a2 a3
  unfold f_245_366
  refine tr_nil (rows2 := kb_245_0) rfl (List.cons_ne_nil _ _) ?_
  refine tr_blk 2 (pc' := 2) (rows' := kb_245_0.drop 2) (loc' := [.inr (20, 366, 0, i0), .inl (.int a1), .inl (.int a2), .inl (.int a3)]) (st' := [.inl (.int a1), .inr (20, 366, 0, i0)]) (P1 := P) rfl ⟨trivial, trivial, trivial⟩ ?_
  refine tr_cRI (z := km_144) (av := [.inr (20, 366, 0, i0), .inl (.int a1)]) (st' := []) rfl rfl rfl (Nat.le_of_ble_eq_true rfl) trivial rfl (Nat.le_of_ble_eq_true rfl) (t_144_366 i0 P a1) (fun v1 => ?_)
  refine tr_if (fun h4 => ?_) (fun h4 => ?_)
  · refine tr_ifT (cd := .eq) h4 ?_
    refine tr_nil (rows2 := kb_245_32) rfl (List.cons_ne_nil _ _) ?_
    refine tr_blk 1 (pc' := 33) (rows' := kb_245_32.drop 1) (loc' := [.inr (20, 366, 0, i0), .inl (.int a1), .inl (.int a2), .inl (.int a3)]) (st' := [.inl (.int (0 : Int32))]) (P1 := P) rfl ⟨trivial, trivial⟩ ?_
    refine tr_nil (rows2 := kb_245_33) rfl (List.cons_ne_nil _ _) ?_
    exact tr_reI (z := km_245) rfl ⟨_, rfl, rfl⟩ rfl
  · refine tr_ifF (cd := .eq) h4 ?_
    refine tr_blk 3 (pc' := 11) (rows' := kb_245_0.drop 7) (loc' := [.inr (20, 366, 0, i0), .inl (.int a1), .inl (.int a2), .inl (.int a3)]) (st' := [.inl (.int (1 : Int32)), .inl (.int a1), .inr (20, 366, 0, i0)]) (P1 := P) rfl ⟨trivial, trivial, trivial, trivial⟩ ?_
    refine tr_cRI (z := km_135) (av := [.inr (20, 366, 0, i0), .inl (.int a1), .inl (.int (1 : Int32))]) (st' := []) rfl rfl rfl (Nat.le_of_ble_eq_true rfl) trivial rfl (Nat.le_of_ble_eq_true rfl) (t_135_366 i0 P a1 (1 : Int32)) (fun v2 => ?_)
    refine tr_blk 1 (pc' := 15) (rows' := kb_245_0.drop 9) (loc' := [.inr (20, 366, 0, i0), .inl (.int a1), .inl (.int a2), .inl (.int a3)]) (st' := [.inl (.int a2), .inl (.int v2)]) (P1 := P) rfl ⟨trivial, trivial⟩ ?_
    refine tr_if (fun h5 => ?_) (fun h5 => ?_)
    · refine tr_icF (cd := .ne) (fun q => q h5) ?_
      refine tr_blk 3 (pc' := 21) (rows' := kb_245_0.drop 13) (loc' := [.inr (20, 366, 0, i0), .inl (.int a1), .inl (.int a2), .inl (.int a3)]) (st' := [.inl (.int (0 : Int32)), .inl (.int a1), .inr (20, 366, 0, i0)]) (P1 := P) rfl ⟨trivial, trivial, trivial, trivial⟩ ?_
      refine tr_cRI (z := km_135) (av := [.inr (20, 366, 0, i0), .inl (.int a1), .inl (.int (0 : Int32))]) (st' := []) rfl rfl rfl (Nat.le_of_ble_eq_true rfl) trivial rfl (Nat.le_of_ble_eq_true rfl) (t_135_366 i0 P a1 (0 : Int32)) (fun v3 => ?_)
      refine tr_blk 1 (pc' := 25) (rows' := kb_245_0.drop 15) (loc' := [.inr (20, 366, 0, i0), .inl (.int a1), .inl (.int a2), .inl (.int a3)]) (st' := [.inl (.int a3), .inl (.int v3)]) (P1 := P) rfl ⟨trivial, trivial⟩ ?_
      refine tr_if (fun h6 => ?_) (fun h6 => ?_)
      · refine tr_icT (cd := .eq) h6 ?_
        refine tr_nil (rows2 := kb_245_32) rfl (List.cons_ne_nil _ _) ?_
        refine tr_blk 1 (pc' := 33) (rows' := kb_245_32.drop 1) (loc' := [.inr (20, 366, 0, i0), .inl (.int a1), .inl (.int a2), .inl (.int a3)]) (st' := [.inl (.int (0 : Int32))]) (P1 := P) rfl ⟨trivial, trivial⟩ ?_
        refine tr_nil (rows2 := kb_245_33) rfl (List.cons_ne_nil _ _) ?_
        exact tr_reI (z := km_245) rfl ⟨_, rfl, rfl⟩ rfl
      · refine tr_icF (cd := .eq) h6 ?_
        refine tr_blk 1 (pc' := 29) (rows' := kb_245_0.drop 17) (loc' := [.inr (20, 366, 0, i0), .inl (.int a1), .inl (.int a2), .inl (.int a3)]) (st' := [.inl (.int (1 : Int32))]) (P1 := P) rfl ⟨trivial, trivial⟩ ?_
        refine tr_goto ?_
        refine tr_nil (rows2 := kb_245_33) rfl (List.cons_ne_nil _ _) ?_
        exact tr_reI (z := km_245) rfl ⟨_, rfl, rfl⟩ rfl
    · refine tr_icT (cd := .ne) h5 ?_
      refine tr_nil (rows2 := kb_245_32) rfl (List.cons_ne_nil _ _) ?_
      refine tr_blk 1 (pc' := 33) (rows' := kb_245_32.drop 1) (loc' := [.inr (20, 366, 0, i0), .inl (.int a1), .inl (.int a2), .inl (.int a3)]) (st' := [.inl (.int (0 : Int32))]) (P1 := P) rfl ⟨trivial, trivial⟩ ?_
      refine tr_nil (rows2 := kb_245_33) rfl (List.cons_ne_nil _ _) ?_
      exact tr_reI (z := km_245) rfl ⟨_, rfl, rfl⟩ rfl
def f_152_366_125 (i1 : Nat) (H57 : Int32 → Int32 → Int32 → Int32 → Int32 → Int32 → ab_P → Option (Int64 × ab_P)) (x2 : Int32) (x3 : Int32) (x4 : Int32) (x5 : Int32) (x6 : Int32) (x7 : Int32) (x8 : Int32) (s0 : Int32) (P : ab_P) : Option (Int64 × ab_P) :=
    if ab_gi x6 41 then
    if s0 = (-1 : Int32) then
      if ab_gi x7 1000 then
      ab_lt (ab_pI P (504 + 1 + x6.toNatClampNeg) x7.toNatClampNeg x8) fun P30 =>
      H57 x2 x3 x4 x5 x6 (x7 + 1) P30
      else none
    else
    if x8 = (-1 : Int32) then
      if ab_gi x7 1000 then
      ab_lt (ab_pI P (504 + 1 + x6.toNatClampNeg) x7.toNatClampNeg (s0 + (1 : Int32))) fun P24 =>
      H57 x2 x3 x4 x5 x6 (x7 + 1) P24
      else none
    else
    if (s0 + (1 : Int32)) < x8 then
      if ab_gi x7 1000 then
      ab_lt (ab_pI P (504 + 1 + x6.toNatClampNeg) x7.toNatClampNeg (s0 + (1 : Int32))) fun P28 =>
      H57 x2 x3 x4 x5 x6 (x7 + 1) P28
      else none
    else
    if ab_gi x7 1000 then
    ab_lt (ab_pI P (504 + 1 + x6.toNatClampNeg) x7.toNatClampNeg x8) fun P26 =>
    H57 x2 x3 x4 x5 x6 (x7 + 1) P26
    else none
    else none
theorem t_152_366_125 {xs : Nat × (Nat → Int32)} {d : Nat} (i1 : Nat) (H57 : Int32 → Int32 → Int32 → Int32 → Int32 → Int32 → ab_P → Option (Int64 × ab_P)) (hH57 : ∀ (x2 : Int32) (x3 : Int32) (x4 : Int32) (x5 : Int32) (x6 : Int32) (x7 : Int32) (d8 : ab_V) (d9 : ab_V) (P : ab_P), ab_tr xs wL (d + 3) 152 57 [] [.inr (12, 0, 0, 72), .inr (20, 366, 0, i1), .inl (.int x2), .inl (.int x3), .inl (.int x4), .inl (.int x5), .inl (.int x6), .inl (.int x7), d8, d9, ab_top] [] P (H57 x2 x3 x4 x5 x6 x7 P)) : ∀ (x2 : Int32) (x3 : Int32) (x4 : Int32) (x5 : Int32) (x6 : Int32) (x7 : Int32) (x8 : Int32) (s0 : Int32) (d9 : ab_V) (P : ab_P), ab_tr xs wL (d + 3) 152 125 [] [.inr (12, 0, 0, 72), .inr (20, 366, 0, i1), .inl (.int x2), .inl (.int x3), .inl (.int x4), .inl (.int x5), .inl (.int x6), .inl (.int x7), .inl (.int x8), d9, ab_top] [.inl (.int s0)] P (f_152_366_125 i1 H57 x2 x3 x4 x5 x6 x7 x8 s0 P) := by
  intro x2 x3 x4 x5 x6 x7 x8 s0 d9 P
  unfold f_152_366_125
  refine tr_nil (rows2 := kb_152_125) rfl (List.cons_ne_nil _ _) ?_
  refine tr_gd (fun h22 => ?_)
  refine tr_blk 8 (pc' := 139) (rows' := kb_152_125.drop 8) (loc' := [.inr (12, 0, 0, 72), .inr (20, 366, 0, i1), .inl (.int x2), .inl (.int x3), .inl (.int x4), .inl (.int x5), .inl (.int x6), .inl (.int x7), .inl (.int x8), .inl (.int s0), ab_top]) (st' := [.inl (.int (-1 : Int32)), .inl (.int s0), .inl (.int x7), .inr (20, 1000, 0, (504 + 1 + x6.toNatClampNeg))]) (P1 := P) rfl ⟨trivial, trivial, trivial, trivial, ⟨h22, ab_grl h22⟩, trivial, trivial, trivial, trivial⟩ ?_
  refine tr_if (fun h31 => ?_) (fun h31 => ?_)
  · refine tr_icF (cd := .ne) (fun q => q h31) ?_
    refine tr_blk 1 (pc' := 144) (rows' := kb_152_125.drop 10) (loc' := [.inr (12, 0, 0, 72), .inr (20, 366, 0, i1), .inl (.int x2), .inl (.int x3), .inl (.int x4), .inl (.int x5), .inl (.int x6), .inl (.int x7), .inl (.int x8), .inl (.int s0), ab_top]) (st' := [.inl (.int x8), .inl (.int x7), .inr (20, 1000, 0, (504 + 1 + x6.toNatClampNeg))]) (P1 := P) rfl ⟨trivial, trivial⟩ ?_
    refine tr_goto ?_
    refine tr_nil (rows2 := kb_152_171) rfl (List.cons_ne_nil _ _) ?_
    refine tr_gd (fun h29 => ?_)
    refine tr_blk 1 (pc' := 172) (rows' := kb_152_171.drop 1) (loc' := [.inr (12, 0, 0, 72), .inr (20, 366, 0, i1), .inl (.int x2), .inl (.int x3), .inl (.int x4), .inl (.int x5), .inl (.int x6), .inl (.int x7), .inl (.int x8), .inl (.int s0), ab_top]) (st' := []) (P1 := (ab_pI P (504 + 1 + x6.toNatClampNeg) x7.toNatClampNeg x8)) rfl ⟨h29, trivial⟩ ?_
    refine tr_lt (fun P30 => ?_)
    refine tr_blk 1 (pc' := 175) (rows' := kb_152_171.drop 2) (loc' := [.inr (12, 0, 0, 72), .inr (20, 366, 0, i1), .inl (.int x2), .inl (.int x3), .inl (.int x4), .inl (.int x5), .inl (.int x6), .inl (.int (x7 + 1)), .inl (.int x8), .inl (.int s0), ab_top]) (st' := []) (P1 := P30) rfl ⟨trivial, trivial⟩ ?_
    refine tr_goto ?_
    exact hH57 x2 x3 x4 x5 x6 (x7 + 1) (.inl (.int x8)) (.inl (.int s0)) P30
  · refine tr_icT (cd := .ne) h31 ?_
    refine tr_nil (rows2 := kb_152_147) rfl (List.cons_ne_nil _ _) ?_
    refine tr_blk 2 (pc' := 150) (rows' := kb_152_147.drop 2) (loc' := [.inr (12, 0, 0, 72), .inr (20, 366, 0, i1), .inl (.int x2), .inl (.int x3), .inl (.int x4), .inl (.int x5), .inl (.int x6), .inl (.int x7), .inl (.int x8), .inl (.int s0), ab_top]) (st' := [.inl (.int (-1 : Int32)), .inl (.int x8), .inl (.int x7), .inr (20, 1000, 0, (504 + 1 + x6.toNatClampNeg))]) (P1 := P) rfl ⟨trivial, trivial, trivial⟩ ?_
    refine tr_if (fun h32 => ?_) (fun h32 => ?_)
    · refine tr_icT (cd := .eq) h32 ?_
      refine tr_nil (rows2 := kb_152_162) rfl (List.cons_ne_nil _ _) ?_
      refine tr_blk 3 (pc' := 166) (rows' := kb_152_162.drop 3) (loc' := [.inr (12, 0, 0, 72), .inr (20, 366, 0, i1), .inl (.int x2), .inl (.int x3), .inl (.int x4), .inl (.int x5), .inl (.int x6), .inl (.int x7), .inl (.int x8), .inl (.int s0), ab_top]) (st' := [.inl (.int (s0 + (1 : Int32))), .inl (.int x7), .inr (20, 1000, 0, (504 + 1 + x6.toNatClampNeg))]) (P1 := P) rfl ⟨trivial, trivial, trivial, trivial⟩ ?_
      refine tr_goto ?_
      refine tr_nil (rows2 := kb_152_171) rfl (List.cons_ne_nil _ _) ?_
      refine tr_gd (fun h23 => ?_)
      refine tr_blk 1 (pc' := 172) (rows' := kb_152_171.drop 1) (loc' := [.inr (12, 0, 0, 72), .inr (20, 366, 0, i1), .inl (.int x2), .inl (.int x3), .inl (.int x4), .inl (.int x5), .inl (.int x6), .inl (.int x7), .inl (.int x8), .inl (.int s0), ab_top]) (st' := []) (P1 := (ab_pI P (504 + 1 + x6.toNatClampNeg) x7.toNatClampNeg (s0 + (1 : Int32)))) rfl ⟨h23, trivial⟩ ?_
      refine tr_lt (fun P24 => ?_)
      refine tr_blk 1 (pc' := 175) (rows' := kb_152_171.drop 2) (loc' := [.inr (12, 0, 0, 72), .inr (20, 366, 0, i1), .inl (.int x2), .inl (.int x3), .inl (.int x4), .inl (.int x5), .inl (.int x6), .inl (.int (x7 + 1)), .inl (.int x8), .inl (.int s0), ab_top]) (st' := []) (P1 := P24) rfl ⟨trivial, trivial⟩ ?_
      refine tr_goto ?_
      exact hH57 x2 x3 x4 x5 x6 (x7 + 1) (.inl (.int x8)) (.inl (.int s0)) P24
    · refine tr_icF (cd := .eq) h32 ?_
      refine tr_blk 4 (pc' := 159) (rows' := kb_152_147.drop 7) (loc' := [.inr (12, 0, 0, 72), .inr (20, 366, 0, i1), .inl (.int x2), .inl (.int x3), .inl (.int x4), .inl (.int x5), .inl (.int x6), .inl (.int x7), .inl (.int x8), .inl (.int s0), ab_top]) (st' := [.inl (.int x8), .inl (.int (s0 + (1 : Int32))), .inl (.int x7), .inr (20, 1000, 0, (504 + 1 + x6.toNatClampNeg))]) (P1 := P) rfl ⟨trivial, trivial, trivial, trivial, trivial⟩ ?_
      refine tr_if (fun h33 => ?_) (fun h33 => ?_)
      · refine tr_icF (cd := .ge) (Int32.not_le.mpr h33) ?_
        refine tr_nil (rows2 := kb_152_162) rfl (List.cons_ne_nil _ _) ?_
        refine tr_blk 3 (pc' := 166) (rows' := kb_152_162.drop 3) (loc' := [.inr (12, 0, 0, 72), .inr (20, 366, 0, i1), .inl (.int x2), .inl (.int x3), .inl (.int x4), .inl (.int x5), .inl (.int x6), .inl (.int x7), .inl (.int x8), .inl (.int s0), ab_top]) (st' := [.inl (.int (s0 + (1 : Int32))), .inl (.int x7), .inr (20, 1000, 0, (504 + 1 + x6.toNatClampNeg))]) (P1 := P) rfl ⟨trivial, trivial, trivial, trivial⟩ ?_
        refine tr_goto ?_
        refine tr_nil (rows2 := kb_152_171) rfl (List.cons_ne_nil _ _) ?_
        refine tr_gd (fun h27 => ?_)
        refine tr_blk 1 (pc' := 172) (rows' := kb_152_171.drop 1) (loc' := [.inr (12, 0, 0, 72), .inr (20, 366, 0, i1), .inl (.int x2), .inl (.int x3), .inl (.int x4), .inl (.int x5), .inl (.int x6), .inl (.int x7), .inl (.int x8), .inl (.int s0), ab_top]) (st' := []) (P1 := (ab_pI P (504 + 1 + x6.toNatClampNeg) x7.toNatClampNeg (s0 + (1 : Int32)))) rfl ⟨h27, trivial⟩ ?_
        refine tr_lt (fun P28 => ?_)
        refine tr_blk 1 (pc' := 175) (rows' := kb_152_171.drop 2) (loc' := [.inr (12, 0, 0, 72), .inr (20, 366, 0, i1), .inl (.int x2), .inl (.int x3), .inl (.int x4), .inl (.int x5), .inl (.int x6), .inl (.int (x7 + 1)), .inl (.int x8), .inl (.int s0), ab_top]) (st' := []) (P1 := P28) rfl ⟨trivial, trivial⟩ ?_
        refine tr_goto ?_
        exact hH57 x2 x3 x4 x5 x6 (x7 + 1) (.inl (.int x8)) (.inl (.int s0)) P28
      · refine tr_icT (cd := .ge) (Int32.not_lt.mp h33) ?_
        refine tr_nil (rows2 := kb_152_169) rfl (List.cons_ne_nil _ _) ?_
        refine tr_blk 1 (pc' := 171) (rows' := kb_152_169.drop 1) (loc' := [.inr (12, 0, 0, 72), .inr (20, 366, 0, i1), .inl (.int x2), .inl (.int x3), .inl (.int x4), .inl (.int x5), .inl (.int x6), .inl (.int x7), .inl (.int x8), .inl (.int s0), ab_top]) (st' := [.inl (.int x8), .inl (.int x7), .inr (20, 1000, 0, (504 + 1 + x6.toNatClampNeg))]) (P1 := P) rfl ⟨trivial, trivial⟩ ?_
        refine tr_nil (rows2 := kb_152_171) rfl (List.cons_ne_nil _ _) ?_
        refine tr_gd (fun h25 => ?_)
        refine tr_blk 1 (pc' := 172) (rows' := kb_152_171.drop 1) (loc' := [.inr (12, 0, 0, 72), .inr (20, 366, 0, i1), .inl (.int x2), .inl (.int x3), .inl (.int x4), .inl (.int x5), .inl (.int x6), .inl (.int x7), .inl (.int x8), .inl (.int s0), ab_top]) (st' := []) (P1 := (ab_pI P (504 + 1 + x6.toNatClampNeg) x7.toNatClampNeg x8)) rfl ⟨h25, trivial⟩ ?_
        refine tr_lt (fun P26 => ?_)
        refine tr_blk 1 (pc' := 175) (rows' := kb_152_171.drop 2) (loc' := [.inr (12, 0, 0, 72), .inr (20, 366, 0, i1), .inl (.int x2), .inl (.int x3), .inl (.int x4), .inl (.int x5), .inl (.int x6), .inl (.int (x7 + 1)), .inl (.int x8), .inl (.int s0), ab_top]) (st' := []) (P1 := P26) rfl ⟨trivial, trivial⟩ ?_
        refine tr_goto ?_
        exact hH57 x2 x3 x4 x5 x6 (x7 + 1) (.inl (.int x8)) (.inl (.int s0)) P26
def f_152_366_57 (i1 : Nat) (H49 : Int32 → Int32 → Int32 → Int32 → Int32 → ab_P → Option (Int64 × ab_P)) : Nat → Int32 → Int32 → Int32 → Int32 → Int32 → Int32 → ab_P → Option (Int64 × ab_P)
  | 0, _, _, _, _, _, _, _ => none
  | n + 1, x2, x3, x4, x5, x6, x7, P =>
    if x4 < x7 then
      H49 x2 x3 x4 x5 (x6 + (-1)) P
    else
    if ab_gi (x6 + (1 : Int32)) 41 then
    if ab_gi x7 1000 then
    Option.bind (f_245_366 i1 P x6 x2 x3) fun v17 =>
    if v17 = (0 : Int32) then
      f_152_366_125 i1 (fun y0 y1 y2 y3 y4 y5 y6 => f_152_366_57 i1 H49 n y0 y1 y2 y3 y4 y5 y6) x2 x3 x4 x5 x6 x7 (P.1 (504 + 1 + ((x6 + (1 : Int32))).toNatClampNeg) x7.toNatClampNeg) (-1 : Int32) P
    else
    Option.bind (f_135_366 i1 P x6 (2 : Int32)) fun v18 =>
    if x7 < v18 then
      f_152_366_125 i1 (fun y0 y1 y2 y3 y4 y5 y6 => f_152_366_57 i1 H49 n y0 y1 y2 y3 y4 y5 y6) x2 x3 x4 x5 x6 x7 (P.1 (504 + 1 + ((x6 + (1 : Int32))).toNatClampNeg) x7.toNatClampNeg) (-1 : Int32) P
    else
    if ab_gi (x6 + (1 : Int32)) 41 then
    Option.bind (f_135_366 i1 P x6 (2 : Int32)) fun v20 =>
    if ab_gi (x7 - v20) 1000 then
    f_152_366_125 i1 (fun y0 y1 y2 y3 y4 y5 y6 => f_152_366_57 i1 H49 n y0 y1 y2 y3 y4 y5 y6) x2 x3 x4 x5 x6 x7 (P.1 (504 + 1 + ((x6 + (1 : Int32))).toNatClampNeg) x7.toNatClampNeg) (P.1 (504 + 1 + ((x6 + (1 : Int32))).toNatClampNeg) ((x7 - v20)).toNatClampNeg) P
    else none
    else none
    else none
    else none
theorem t_152_366_57 {xs : Nat × (Nat → Int32)} {d : Nat} (i1 : Nat) (H49 : Int32 → Int32 → Int32 → Int32 → Int32 → ab_P → Option (Int64 × ab_P)) (hH49 : ∀ (x2 : Int32) (x3 : Int32) (x4 : Int32) (x5 : Int32) (x6 : Int32) (d7 : ab_V) (d8 : ab_V) (d9 : ab_V) (P : ab_P), ab_tr xs wL (d + 3) 152 49 [] [.inr (12, 0, 0, 72), .inr (20, 366, 0, i1), .inl (.int x2), .inl (.int x3), .inl (.int x4), .inl (.int x5), .inl (.int x6), d7, d8, d9, ab_top] [] P (H49 x2 x3 x4 x5 x6 P)) : ∀ n : Nat, ∀ (x2 : Int32) (x3 : Int32) (x4 : Int32) (x5 : Int32) (x6 : Int32) (x7 : Int32) (d8 : ab_V) (d9 : ab_V) (P : ab_P), ab_tr xs wL (d + 3) 152 57 [] [.inr (12, 0, 0, 72), .inr (20, 366, 0, i1), .inl (.int x2), .inl (.int x3), .inl (.int x4), .inl (.int x5), .inl (.int x6), .inl (.int x7), d8, d9, ab_top] [] P (f_152_366_57 i1 H49 n x2 x3 x4 x5 x6 x7 P) := by
  intro n
  induction n with
  | zero => intro x2 x3 x4 x5 x6 x7 d8 d9 P; exact tr_no
  | succ n ih =>
    intro x2 x3 x4 x5 x6 x7 d8 d9 P
    refine tr_nil (rows2 := kb_152_57) rfl (List.cons_ne_nil _ _) ?_
    refine tr_blk 2 (pc' := 61) (rows' := kb_152_57.drop 2) (loc' := [.inr (12, 0, 0, 72), .inr (20, 366, 0, i1), .inl (.int x2), .inl (.int x3), .inl (.int x4), .inl (.int x5), .inl (.int x6), .inl (.int x7), d8, d9, ab_top]) (st' := [.inl (.int x4), .inl (.int x7)]) (P1 := P) rfl ⟨trivial, trivial, trivial⟩ ?_
    refine tr_if (fun h34 => ?_) (fun h34 => ?_)
    · refine tr_icT (cd := .gt) h34 ?_
      refine tr_nil (rows2 := kb_152_178) rfl (List.cons_ne_nil _ _) ?_
      refine tr_blk 1 (pc' := 181) (rows' := kb_152_178.drop 1) (loc' := [.inr (12, 0, 0, 72), .inr (20, 366, 0, i1), .inl (.int x2), .inl (.int x3), .inl (.int x4), .inl (.int x5), .inl (.int (x6 + (-1))), .inl (.int x7), d8, d9, ab_top]) (st' := []) (P1 := P) rfl ⟨trivial, trivial⟩ ?_
      refine tr_goto ?_
      exact hH49 x2 x3 x4 x5 (x6 + (-1)) (.inl (.int x7)) (d8) (d9) P
    · refine tr_icF (cd := .gt) h34 ?_
      refine tr_gd (fun h15 => ?_)
      refine tr_gd (fun h16 => ?_)
      refine tr_blk 13 (pc' := 83) (rows' := kb_152_57.drop 16) (loc' := [.inr (12, 0, 0, 72), .inr (20, 366, 0, i1), .inl (.int x2), .inl (.int x3), .inl (.int x4), .inl (.int x5), .inl (.int x6), .inl (.int x7), .inl (.int (P.1 (504 + 1 + ((x6 + (1 : Int32))).toNatClampNeg) x7.toNatClampNeg)), d9, ab_top]) (st' := [.inl (.int x3), .inl (.int x2), .inl (.int x6), .inr (20, 366, 0, i1)]) (P1 := P) rfl ⟨trivial, trivial, trivial, trivial, trivial, ⟨h15, ab_grl h15⟩, trivial, h16, trivial, trivial, trivial, trivial, trivial, trivial⟩ ?_
      refine tr_cRI (z := km_245) (av := [.inr (20, 366, 0, i1), .inl (.int x6), .inl (.int x2), .inl (.int x3)]) (st' := []) rfl rfl rfl (Nat.le_of_ble_eq_true rfl) trivial rfl (Nat.le_of_ble_eq_true rfl) (t_245_366 i1 P x6 x2 x3) (fun v17 => ?_)
      refine tr_if (fun h35 => ?_) (fun h35 => ?_)
      · refine tr_ifT (cd := .eq) h35 ?_
        refine tr_nil (rows2 := kb_152_124) rfl (List.cons_ne_nil _ _) ?_
        refine tr_blk 1 (pc' := 125) (rows' := kb_152_124.drop 1) (loc' := [.inr (12, 0, 0, 72), .inr (20, 366, 0, i1), .inl (.int x2), .inl (.int x3), .inl (.int x4), .inl (.int x5), .inl (.int x6), .inl (.int x7), .inl (.int (P.1 (504 + 1 + ((x6 + (1 : Int32))).toNatClampNeg) x7.toNatClampNeg)), d9, ab_top]) (st' := [.inl (.int (-1 : Int32))]) (P1 := P) rfl ⟨trivial, trivial⟩ ?_
        exact t_152_366_125 i1 _ ih x2 x3 x4 x5 x6 x7 (P.1 (504 + 1 + ((x6 + (1 : Int32))).toNatClampNeg) x7.toNatClampNeg) (-1 : Int32) (d9) P
      · refine tr_ifF (cd := .eq) h35 ?_
        refine tr_blk 3 (pc' := 93) (rows' := kb_152_57.drop 21) (loc' := [.inr (12, 0, 0, 72), .inr (20, 366, 0, i1), .inl (.int x2), .inl (.int x3), .inl (.int x4), .inl (.int x5), .inl (.int x6), .inl (.int x7), .inl (.int (P.1 (504 + 1 + ((x6 + (1 : Int32))).toNatClampNeg) x7.toNatClampNeg)), d9, ab_top]) (st' := [.inl (.int (2 : Int32)), .inl (.int x6), .inr (20, 366, 0, i1)]) (P1 := P) rfl ⟨trivial, trivial, trivial, trivial⟩ ?_
        refine tr_cRI (z := km_135) (av := [.inr (20, 366, 0, i1), .inl (.int x6), .inl (.int (2 : Int32))]) (st' := []) rfl rfl rfl (Nat.le_of_ble_eq_true rfl) trivial rfl (Nat.le_of_ble_eq_true rfl) (t_135_366 i1 P x6 (2 : Int32)) (fun v18 => ?_)
        refine tr_blk 1 (pc' := 98) (rows' := kb_152_57.drop 23) (loc' := [.inr (12, 0, 0, 72), .inr (20, 366, 0, i1), .inl (.int x2), .inl (.int x3), .inl (.int x4), .inl (.int x5), .inl (.int x6), .inl (.int x7), .inl (.int (P.1 (504 + 1 + ((x6 + (1 : Int32))).toNatClampNeg) x7.toNatClampNeg)), d9, ab_top]) (st' := [.inl (.int x7), .inl (.int v18)]) (P1 := P) rfl ⟨trivial, trivial⟩ ?_
        refine tr_if (fun h36 => ?_) (fun h36 => ?_)
        · refine tr_icT (cd := .gt) h36 ?_
          refine tr_nil (rows2 := kb_152_124) rfl (List.cons_ne_nil _ _) ?_
          refine tr_blk 1 (pc' := 125) (rows' := kb_152_124.drop 1) (loc' := [.inr (12, 0, 0, 72), .inr (20, 366, 0, i1), .inl (.int x2), .inl (.int x3), .inl (.int x4), .inl (.int x5), .inl (.int x6), .inl (.int x7), .inl (.int (P.1 (504 + 1 + ((x6 + (1 : Int32))).toNatClampNeg) x7.toNatClampNeg)), d9, ab_top]) (st' := [.inl (.int (-1 : Int32))]) (P1 := P) rfl ⟨trivial, trivial⟩ ?_
          exact t_152_366_125 i1 _ ih x2 x3 x4 x5 x6 x7 (P.1 (504 + 1 + ((x6 + (1 : Int32))).toNatClampNeg) x7.toNatClampNeg) (-1 : Int32) (d9) P
        · refine tr_icF (cd := .gt) h36 ?_
          refine tr_gd (fun h19 => ?_)
          refine tr_blk 10 (pc' := 116) (rows' := kb_152_57.drop 34) (loc' := [.inr (12, 0, 0, 72), .inr (20, 366, 0, i1), .inl (.int x2), .inl (.int x3), .inl (.int x4), .inl (.int x5), .inl (.int x6), .inl (.int x7), .inl (.int (P.1 (504 + 1 + ((x6 + (1 : Int32))).toNatClampNeg) x7.toNatClampNeg)), d9, ab_top]) (st' := [.inl (.int (2 : Int32)), .inl (.int x6), .inr (20, 366, 0, i1), .inl (.int x7), .inr (20, 1000, 0, (504 + 1 + ((x6 + (1 : Int32))).toNatClampNeg))]) (P1 := P) rfl ⟨trivial, trivial, trivial, trivial, trivial, ⟨h19, ab_grl h19⟩, trivial, trivial, trivial, trivial, trivial⟩ ?_
          refine tr_cRI (z := km_135) (av := [.inr (20, 366, 0, i1), .inl (.int x6), .inl (.int (2 : Int32))]) (st' := [.inl (.int x7), .inr (20, 1000, 0, (504 + 1 + ((x6 + (1 : Int32))).toNatClampNeg))]) rfl rfl rfl (Nat.le_of_ble_eq_true rfl) trivial rfl (Nat.le_of_ble_eq_true rfl) (t_135_366 i1 P x6 (2 : Int32)) (fun v20 => ?_)
          refine tr_gd (fun h21 => ?_)
          refine tr_blk 2 (pc' := 121) (rows' := kb_152_57.drop 37) (loc' := [.inr (12, 0, 0, 72), .inr (20, 366, 0, i1), .inl (.int x2), .inl (.int x3), .inl (.int x4), .inl (.int x5), .inl (.int x6), .inl (.int x7), .inl (.int (P.1 (504 + 1 + ((x6 + (1 : Int32))).toNatClampNeg) x7.toNatClampNeg)), d9, ab_top]) (st' := [.inl (.int (P.1 (504 + 1 + ((x6 + (1 : Int32))).toNatClampNeg) ((x7 - v20)).toNatClampNeg))]) (P1 := P) rfl ⟨trivial, h21, trivial⟩ ?_
          refine tr_goto ?_
          exact t_152_366_125 i1 _ ih x2 x3 x4 x5 x6 x7 (P.1 (504 + 1 + ((x6 + (1 : Int32))).toNatClampNeg) x7.toNatClampNeg) (P.1 (504 + 1 + ((x6 + (1 : Int32))).toNatClampNeg) ((x7 - v20)).toNatClampNeg) (d9) P
def f_152_366_194 (i1 : Nat) : Nat → Int32 → Int32 → Int32 → Int32 → Int64 → Int32 → Int32 → ab_P → Option (Int64 × ab_P)
  | 0, _, _, _, _, _, _, _, _ => none
  | n + 1, x2, x3, x4, x5, x6, x8, x9, P =>
    if x9 < x5 then
      if ab_gi x4 1000 then
      if (P.1 505 x4.toNatClampNeg) = (-1 : Int32) then
        some (x6, P)
      else
      Option.bind (f_245_366 i1 P x9 x2 x3) fun v7 =>
      if v7 = (0 : Int32) then
        f_152_366_194 i1 n x2 x3 x4 x5 x6 x8 (x9 + 1) P
      else
      Option.bind (f_135_366 i1 P x9 (2 : Int32)) fun v8 =>
      if x8 < v8 then
        f_152_366_194 i1 n x2 x3 x4 x5 x6 x8 (x9 + 1) P
      else
      if ab_gi (x9 + (1 : Int32)) 41 then
      Option.bind (f_135_366 i1 P x9 (2 : Int32)) fun v10 =>
      if ab_gi (x8 - v10) 1000 then
      if (P.1 (504 + 1 + ((x9 + (1 : Int32))).toNatClampNeg) ((x8 - v10)).toNatClampNeg) = (-1 : Int32) then
        f_152_366_194 i1 n x2 x3 x4 x5 x6 x8 (x9 + 1) P
      else
      if ab_gi x9 41 then
      if ab_gi x8 1000 then
      if ((P.1 (504 + 1 + ((x9 + (1 : Int32))).toNatClampNeg) ((x8 - v10)).toNatClampNeg) + (1 : Int32)) = (P.1 (504 + 1 + x9.toNatClampNeg) x8.toNatClampNeg) then
        Option.bind (f_135_366 i1 P x9 (2 : Int32)) fun v14 =>
        f_152_366_194 i1 n x2 x3 x4 x5 (x6 ||| ((1 : Int64) <<< ((x9).toInt64 &&& 63))) (x8 - v14) (x9 + 1) P
      else
      f_152_366_194 i1 n x2 x3 x4 x5 x6 x8 (x9 + 1) P
      else none
      else none
      else none
      else none
      else none
    else
    some (x6, P)
theorem t_152_366_194 {xs : Nat × (Nat → Int32)} {d : Nat} (i1 : Nat) : ∀ n : Nat, ∀ (x2 : Int32) (x3 : Int32) (x4 : Int32) (x5 : Int32) (x6 : Int64) (x8 : Int32) (x9 : Int32) (d10 : ab_V) (P : ab_P), ab_tr xs wL (d + 3) 152 194 [] [.inr (12, 0, 0, 72), .inr (20, 366, 0, i1), .inl (.int x2), .inl (.int x3), .inl (.int x4), .inl (.int x5), .inl (.long x6), ab_top, .inl (.int x8), .inl (.int x9), d10] [] P (f_152_366_194 i1 n x2 x3 x4 x5 x6 x8 x9 P) := by
  intro n
  induction n with
  | zero => intro x2 x3 x4 x5 x6 x8 x9 d10 P; exact tr_no
  | succ n ih =>
    intro x2 x3 x4 x5 x6 x8 x9 d10 P
    refine tr_nil (rows2 := kb_152_194) rfl (List.cons_ne_nil _ _) ?_
    refine tr_blk 2 (pc' := 198) (rows' := kb_152_194.drop 2) (loc' := [.inr (12, 0, 0, 72), .inr (20, 366, 0, i1), .inl (.int x2), .inl (.int x3), .inl (.int x4), .inl (.int x5), .inl (.long x6), ab_top, .inl (.int x8), .inl (.int x9), d10]) (st' := [.inl (.int x5), .inl (.int x9)]) (P1 := P) rfl ⟨trivial, trivial, trivial⟩ ?_
    refine tr_if (fun h37 => ?_) (fun h37 => ?_)
    · refine tr_icF (cd := .ge) (Int32.not_le.mpr h37) ?_
      refine tr_gd (fun h6 => ?_)
      refine tr_blk 7 (pc' := 211) (rows' := kb_152_194.drop 10) (loc' := [.inr (12, 0, 0, 72), .inr (20, 366, 0, i1), .inl (.int x2), .inl (.int x3), .inl (.int x4), .inl (.int x5), .inl (.long x6), ab_top, .inl (.int x8), .inl (.int x9), d10]) (st' := [.inl (.int (-1 : Int32)), .inl (.int (P.1 505 x4.toNatClampNeg))]) (P1 := P) rfl ⟨trivial, trivial, trivial, ⟨(ab_vi (by decide)), rfl⟩, trivial, h6, trivial, trivial⟩ ?_
      refine tr_if (fun h38 => ?_) (fun h38 => ?_)
      · refine tr_icT (cd := .eq) h38 ?_
        refine tr_nil (rows2 := kb_152_315) rfl (List.cons_ne_nil _ _) ?_
        refine tr_blk 1 (pc' := 317) (rows' := kb_152_315.drop 1) (loc' := [.inr (12, 0, 0, 72), .inr (20, 366, 0, i1), .inl (.int x2), .inl (.int x3), .inl (.int x4), .inl (.int x5), .inl (.long x6), ab_top, .inl (.int x8), .inl (.int x9), d10]) (st' := [.inl (.long x6)]) (P1 := P) rfl ⟨trivial, trivial⟩ ?_
        exact tr_reL (z := km_152) rfl rfl rfl
      · refine tr_icF (cd := .eq) h38 ?_
        refine tr_blk 4 (pc' := 219) (rows' := kb_152_194.drop 15) (loc' := [.inr (12, 0, 0, 72), .inr (20, 366, 0, i1), .inl (.int x2), .inl (.int x3), .inl (.int x4), .inl (.int x5), .inl (.long x6), ab_top, .inl (.int x8), .inl (.int x9), d10]) (st' := [.inl (.int x3), .inl (.int x2), .inl (.int x9), .inr (20, 366, 0, i1)]) (P1 := P) rfl ⟨trivial, trivial, trivial, trivial, trivial⟩ ?_
        refine tr_cRI (z := km_245) (av := [.inr (20, 366, 0, i1), .inl (.int x9), .inl (.int x2), .inl (.int x3)]) (st' := []) rfl rfl rfl (Nat.le_of_ble_eq_true rfl) trivial rfl (Nat.le_of_ble_eq_true rfl) (t_245_366 i1 P x9 x2 x3) (fun v7 => ?_)
        refine tr_if (fun h39 => ?_) (fun h39 => ?_)
        · refine tr_ifT (cd := .eq) h39 ?_
          refine tr_nil (rows2 := kb_152_309) rfl (List.cons_ne_nil _ _) ?_
          refine tr_blk 1 (pc' := 312) (rows' := kb_152_309.drop 1) (loc' := [.inr (12, 0, 0, 72), .inr (20, 366, 0, i1), .inl (.int x2), .inl (.int x3), .inl (.int x4), .inl (.int x5), .inl (.long x6), ab_top, .inl (.int x8), .inl (.int (x9 + 1)), d10]) (st' := []) (P1 := P) rfl ⟨trivial, trivial⟩ ?_
          refine tr_goto ?_
          exact ih x2 x3 x4 x5 x6 x8 (x9 + 1) (d10) P
        · refine tr_ifF (cd := .eq) h39 ?_
          refine tr_blk 3 (pc' := 229) (rows' := kb_152_194.drop 20) (loc' := [.inr (12, 0, 0, 72), .inr (20, 366, 0, i1), .inl (.int x2), .inl (.int x3), .inl (.int x4), .inl (.int x5), .inl (.long x6), ab_top, .inl (.int x8), .inl (.int x9), d10]) (st' := [.inl (.int (2 : Int32)), .inl (.int x9), .inr (20, 366, 0, i1)]) (P1 := P) rfl ⟨trivial, trivial, trivial, trivial⟩ ?_
          refine tr_cRI (z := km_135) (av := [.inr (20, 366, 0, i1), .inl (.int x9), .inl (.int (2 : Int32))]) (st' := []) rfl rfl rfl (Nat.le_of_ble_eq_true rfl) trivial rfl (Nat.le_of_ble_eq_true rfl) (t_135_366 i1 P x9 (2 : Int32)) (fun v8 => ?_)
          refine tr_blk 1 (pc' := 234) (rows' := kb_152_194.drop 22) (loc' := [.inr (12, 0, 0, 72), .inr (20, 366, 0, i1), .inl (.int x2), .inl (.int x3), .inl (.int x4), .inl (.int x5), .inl (.long x6), ab_top, .inl (.int x8), .inl (.int x9), d10]) (st' := [.inl (.int x8), .inl (.int v8)]) (P1 := P) rfl ⟨trivial, trivial⟩ ?_
          refine tr_if (fun h40 => ?_) (fun h40 => ?_)
          · refine tr_icF (cd := .le) (Int32.not_le.mpr h40) ?_
            refine tr_goto ?_
            refine tr_nil (rows2 := kb_152_309) rfl (List.cons_ne_nil _ _) ?_
            refine tr_blk 1 (pc' := 312) (rows' := kb_152_309.drop 1) (loc' := [.inr (12, 0, 0, 72), .inr (20, 366, 0, i1), .inl (.int x2), .inl (.int x3), .inl (.int x4), .inl (.int x5), .inl (.long x6), ab_top, .inl (.int x8), .inl (.int (x9 + 1)), d10]) (st' := []) (P1 := P) rfl ⟨trivial, trivial⟩ ?_
            refine tr_goto ?_
            exact ih x2 x3 x4 x5 x6 x8 (x9 + 1) (d10) P
          · refine tr_icT (cd := .le) (Int32.not_lt.mp h40) ?_
            refine tr_nil (rows2 := kb_152_240) rfl (List.cons_ne_nil _ _) ?_
            refine tr_gd (fun h9 => ?_)
            refine tr_blk 10 (pc' := 255) (rows' := kb_152_240.drop 10) (loc' := [.inr (12, 0, 0, 72), .inr (20, 366, 0, i1), .inl (.int x2), .inl (.int x3), .inl (.int x4), .inl (.int x5), .inl (.long x6), ab_top, .inl (.int x8), .inl (.int x9), d10]) (st' := [.inl (.int (2 : Int32)), .inl (.int x9), .inr (20, 366, 0, i1), .inl (.int x8), .inr (20, 1000, 0, (504 + 1 + ((x9 + (1 : Int32))).toNatClampNeg))]) (P1 := P) rfl ⟨trivial, trivial, trivial, trivial, trivial, ⟨h9, ab_grl h9⟩, trivial, trivial, trivial, trivial, trivial⟩ ?_
            refine tr_cRI (z := km_135) (av := [.inr (20, 366, 0, i1), .inl (.int x9), .inl (.int (2 : Int32))]) (st' := [.inl (.int x8), .inr (20, 1000, 0, (504 + 1 + ((x9 + (1 : Int32))).toNatClampNeg))]) rfl rfl rfl (Nat.le_of_ble_eq_true rfl) trivial rfl (Nat.le_of_ble_eq_true rfl) (t_135_366 i1 P x9 (2 : Int32)) (fun v10 => ?_)
            refine tr_gd (fun h11 => ?_)
            refine tr_blk 5 (pc' := 265) (rows' := kb_152_240.drop 16) (loc' := [.inr (12, 0, 0, 72), .inr (20, 366, 0, i1), .inl (.int x2), .inl (.int x3), .inl (.int x4), .inl (.int x5), .inl (.long x6), ab_top, .inl (.int x8), .inl (.int x9), .inl (.int (P.1 (504 + 1 + ((x9 + (1 : Int32))).toNatClampNeg) ((x8 - v10)).toNatClampNeg))]) (st' := [.inl (.int (-1 : Int32)), .inl (.int (P.1 (504 + 1 + ((x9 + (1 : Int32))).toNatClampNeg) ((x8 - v10)).toNatClampNeg))]) (P1 := P) rfl ⟨trivial, h11, trivial, trivial, trivial, trivial⟩ ?_
            refine tr_if (fun h41 => ?_) (fun h41 => ?_)
            · refine tr_icT (cd := .eq) h41 ?_
              refine tr_nil (rows2 := kb_152_309) rfl (List.cons_ne_nil _ _) ?_
              refine tr_blk 1 (pc' := 312) (rows' := kb_152_309.drop 1) (loc' := [.inr (12, 0, 0, 72), .inr (20, 366, 0, i1), .inl (.int x2), .inl (.int x3), .inl (.int x4), .inl (.int x5), .inl (.long x6), ab_top, .inl (.int x8), .inl (.int (x9 + 1)), .inl (.int (P.1 (504 + 1 + ((x9 + (1 : Int32))).toNatClampNeg) ((x8 - v10)).toNatClampNeg))]) (st' := []) (P1 := P) rfl ⟨trivial, trivial⟩ ?_
              refine tr_goto ?_
              exact ih x2 x3 x4 x5 x6 x8 (x9 + 1) (.inl (.int (P.1 (504 + 1 + ((x9 + (1 : Int32))).toNatClampNeg) ((x8 - v10)).toNatClampNeg))) P
            · refine tr_icF (cd := .eq) h41 ?_
              refine tr_gd (fun h12 => ?_)
              refine tr_gd (fun h13 => ?_)
              refine tr_blk 9 (pc' := 282) (rows' := kb_152_240.drop 26) (loc' := [.inr (12, 0, 0, 72), .inr (20, 366, 0, i1), .inl (.int x2), .inl (.int x3), .inl (.int x4), .inl (.int x5), .inl (.long x6), ab_top, .inl (.int x8), .inl (.int x9), .inl (.int (P.1 (504 + 1 + ((x9 + (1 : Int32))).toNatClampNeg) ((x8 - v10)).toNatClampNeg))]) (st' := [.inl (.int (P.1 (504 + 1 + x9.toNatClampNeg) x8.toNatClampNeg)), .inl (.int ((P.1 (504 + 1 + ((x9 + (1 : Int32))).toNatClampNeg) ((x8 - v10)).toNatClampNeg) + (1 : Int32)))]) (P1 := P) rfl ⟨trivial, trivial, trivial, trivial, trivial, trivial, ⟨h12, ab_grl h12⟩, trivial, h13, trivial⟩ ?_
              refine tr_if (fun h42 => ?_) (fun h42 => ?_)
              · refine tr_icT (cd := .eq) h42 ?_
                refine tr_nil (rows2 := kb_152_288) rfl (List.cons_ne_nil _ _) ?_
                refine tr_blk 10 (pc' := 303) (rows' := kb_152_288.drop 10) (loc' := [.inr (12, 0, 0, 72), .inr (20, 366, 0, i1), .inl (.int x2), .inl (.int x3), .inl (.int x4), .inl (.int x5), .inl (.long (x6 ||| ((1 : Int64) <<< ((x9).toInt64 &&& 63)))), ab_top, .inl (.int x8), .inl (.int x9), .inl (.int (P.1 (504 + 1 + ((x9 + (1 : Int32))).toNatClampNeg) ((x8 - v10)).toNatClampNeg))]) (st' := [.inl (.int (2 : Int32)), .inl (.int x9), .inr (20, 366, 0, i1), .inl (.int x8)]) (P1 := P) rfl ⟨trivial, trivial, trivial, trivial, trivial, trivial, trivial, trivial, trivial, trivial, trivial⟩ ?_
                refine tr_cRI (z := km_135) (av := [.inr (20, 366, 0, i1), .inl (.int x9), .inl (.int (2 : Int32))]) (st' := [.inl (.int x8)]) rfl rfl rfl (Nat.le_of_ble_eq_true rfl) trivial rfl (Nat.le_of_ble_eq_true rfl) (t_135_366 i1 P x9 (2 : Int32)) (fun v14 => ?_)
                refine tr_blk 2 (pc' := 309) (rows' := kb_152_288.drop 13) (loc' := [.inr (12, 0, 0, 72), .inr (20, 366, 0, i1), .inl (.int x2), .inl (.int x3), .inl (.int x4), .inl (.int x5), .inl (.long (x6 ||| ((1 : Int64) <<< ((x9).toInt64 &&& 63)))), ab_top, .inl (.int (x8 - v14)), .inl (.int x9), .inl (.int (P.1 (504 + 1 + ((x9 + (1 : Int32))).toNatClampNeg) ((x8 - v10)).toNatClampNeg))]) (st' := []) (P1 := P) rfl ⟨trivial, trivial, trivial⟩ ?_
                refine tr_nil (rows2 := kb_152_309) rfl (List.cons_ne_nil _ _) ?_
                refine tr_blk 1 (pc' := 312) (rows' := kb_152_309.drop 1) (loc' := [.inr (12, 0, 0, 72), .inr (20, 366, 0, i1), .inl (.int x2), .inl (.int x3), .inl (.int x4), .inl (.int x5), .inl (.long (x6 ||| ((1 : Int64) <<< ((x9).toInt64 &&& 63)))), ab_top, .inl (.int (x8 - v14)), .inl (.int (x9 + 1)), .inl (.int (P.1 (504 + 1 + ((x9 + (1 : Int32))).toNatClampNeg) ((x8 - v10)).toNatClampNeg))]) (st' := []) (P1 := P) rfl ⟨trivial, trivial⟩ ?_
                refine tr_goto ?_
                exact ih x2 x3 x4 x5 (x6 ||| ((1 : Int64) <<< ((x9).toInt64 &&& 63))) (x8 - v14) (x9 + 1) (.inl (.int (P.1 (504 + 1 + ((x9 + (1 : Int32))).toNatClampNeg) ((x8 - v10)).toNatClampNeg))) P
              · refine tr_icF (cd := .eq) h42 ?_
                refine tr_goto ?_
                refine tr_nil (rows2 := kb_152_309) rfl (List.cons_ne_nil _ _) ?_
                refine tr_blk 1 (pc' := 312) (rows' := kb_152_309.drop 1) (loc' := [.inr (12, 0, 0, 72), .inr (20, 366, 0, i1), .inl (.int x2), .inl (.int x3), .inl (.int x4), .inl (.int x5), .inl (.long x6), ab_top, .inl (.int x8), .inl (.int (x9 + 1)), .inl (.int (P.1 (504 + 1 + ((x9 + (1 : Int32))).toNatClampNeg) ((x8 - v10)).toNatClampNeg))]) (st' := []) (P1 := P) rfl ⟨trivial, trivial⟩ ?_
                refine tr_goto ?_
                exact ih x2 x3 x4 x5 x6 x8 (x9 + 1) (.inl (.int (P.1 (504 + 1 + ((x9 + (1 : Int32))).toNatClampNeg) ((x8 - v10)).toNatClampNeg))) P
    · refine tr_icT (cd := .ge) (Int32.not_lt.mp h37) ?_
      refine tr_nil (rows2 := kb_152_315) rfl (List.cons_ne_nil _ _) ?_
      refine tr_blk 1 (pc' := 317) (rows' := kb_152_315.drop 1) (loc' := [.inr (12, 0, 0, 72), .inr (20, 366, 0, i1), .inl (.int x2), .inl (.int x3), .inl (.int x4), .inl (.int x5), .inl (.long x6), ab_top, .inl (.int x8), .inl (.int x9), d10]) (st' := [.inl (.long x6)]) (P1 := P) rfl ⟨trivial, trivial⟩ ?_
      exact tr_reL (z := km_152) rfl rfl rfl
def f_152_366_49 (i1 : Nat) (N : Nat) : Nat → Int32 → Int32 → Int32 → Int32 → Int32 → ab_P → Option (Int64 × ab_P)
  | 0, _, _, _, _, _, _ => none
  | n + 1, x2, x3, x4, x5, x6, P =>
    if x6 < (0 : Int32) then
      f_152_366_194 i1 N x2 x3 x4 x5 (0 : Int64) x4 (0 : Int32) P
    else
    f_152_366_57 i1 (fun y0 y1 y2 y3 y4 y5 => f_152_366_49 i1 N n y0 y1 y2 y3 y4 y5) N x2 x3 x4 x5 x6 (0 : Int32) P
theorem t_152_366_49 {xs : Nat × (Nat → Int32)} {d : Nat} (i1 : Nat) (N : Nat) : ∀ n : Nat, ∀ (x2 : Int32) (x3 : Int32) (x4 : Int32) (x5 : Int32) (x6 : Int32) (d7 : ab_V) (d8 : ab_V) (d9 : ab_V) (P : ab_P), ab_tr xs wL (d + 3) 152 49 [] [.inr (12, 0, 0, 72), .inr (20, 366, 0, i1), .inl (.int x2), .inl (.int x3), .inl (.int x4), .inl (.int x5), .inl (.int x6), d7, d8, d9, ab_top] [] P (f_152_366_49 i1 N n x2 x3 x4 x5 x6 P) := by
  intro n
  induction n with
  | zero => intro x2 x3 x4 x5 x6 d7 d8 d9 P; exact tr_no
  | succ n ih =>
    intro x2 x3 x4 x5 x6 d7 d8 d9 P
    refine tr_nil (rows2 := kb_152_49) rfl (List.cons_ne_nil _ _) ?_
    refine tr_blk 1 (pc' := 51) (rows' := kb_152_49.drop 1) (loc' := [.inr (12, 0, 0, 72), .inr (20, 366, 0, i1), .inl (.int x2), .inl (.int x3), .inl (.int x4), .inl (.int x5), .inl (.int x6), d7, d8, d9, ab_top]) (st' := [.inl (.int x6)]) (P1 := P) rfl ⟨trivial, trivial⟩ ?_
    refine tr_if (fun h43 => ?_) (fun h43 => ?_)
    · refine tr_ifT (cd := .lt) h43 ?_
      refine tr_nil (rows2 := kb_152_184) rfl (List.cons_ne_nil _ _) ?_
      refine tr_blk 6 (pc' := 194) (rows' := kb_152_184.drop 6) (loc' := [.inr (12, 0, 0, 72), .inr (20, 366, 0, i1), .inl (.int x2), .inl (.int x3), .inl (.int x4), .inl (.int x5), .inl (.long (0 : Int64)), ab_top, .inl (.int x4), .inl (.int (0 : Int32)), ab_top]) (st' := []) (P1 := P) rfl ⟨trivial, trivial, trivial, trivial, trivial, trivial, trivial⟩ ?_
      exact t_152_366_194 i1 N x2 x3 x4 x5 (0 : Int64) x4 (0 : Int32) (ab_top) P
    · refine tr_ifF (cd := .lt) h43 ?_
      refine tr_blk 2 (pc' := 57) (rows' := kb_152_49.drop 4) (loc' := [.inr (12, 0, 0, 72), .inr (20, 366, 0, i1), .inl (.int x2), .inl (.int x3), .inl (.int x4), .inl (.int x5), .inl (.int x6), .inl (.int (0 : Int32)), d8, d9, ab_top]) (st' := []) (P1 := P) rfl ⟨trivial, trivial, trivial⟩ ?_
      exact t_152_366_57 i1 _ ih N x2 x3 x4 x5 x6 (0 : Int32) (d8) (d9) P
def f_152_366_10 (i1 : Nat) (N : Nat) : Nat → Int32 → Int32 → Int32 → Int32 → Int32 → ab_P → Option (Int64 × ab_P)
  | 0, _, _, _, _, _, _ => none
  | n + 1, x2, x3, x4, x5, x6, P =>
    if x4 < x6 then
      f_152_366_49 i1 N N x2 x3 x4 x5 (x5 - (1 : Int32)) P
    else
    if ab_gi x5 41 then
    if x6 = (0 : Int32) then
      if ab_gi x6 1000 then
      ab_lt (ab_pI P (504 + 1 + x5.toNatClampNeg) x6.toNatClampNeg (0 : Int32)) fun P5 =>
      f_152_366_10 i1 N n x2 x3 x4 x5 (x6 + 1) P5
      else none
    else
    if ab_gi x6 1000 then
    ab_lt (ab_pI P (504 + 1 + x5.toNatClampNeg) x6.toNatClampNeg (-1 : Int32)) fun P3 =>
    f_152_366_10 i1 N n x2 x3 x4 x5 (x6 + 1) P3
    else none
    else none
theorem t_152_366_10 {xs : Nat × (Nat → Int32)} {d : Nat} (i1 : Nat) (N : Nat) : ∀ n : Nat, ∀ (x2 : Int32) (x3 : Int32) (x4 : Int32) (x5 : Int32) (x6 : Int32) (P : ab_P), ab_tr xs wL (d + 3) 152 10 [] [.inr (12, 0, 0, 72), .inr (20, 366, 0, i1), .inl (.int x2), .inl (.int x3), .inl (.int x4), .inl (.int x5), .inl (.int x6), ab_top, ab_top, ab_top, ab_top] [] P (f_152_366_10 i1 N n x2 x3 x4 x5 x6 P) := by
  intro n
  induction n with
  | zero => intro x2 x3 x4 x5 x6 P; exact tr_no
  | succ n ih =>
    intro x2 x3 x4 x5 x6 P
    refine tr_nil (rows2 := kb_152_10) rfl (List.cons_ne_nil _ _) ?_
    refine tr_blk 2 (pc' := 14) (rows' := kb_152_10.drop 2) (loc' := [.inr (12, 0, 0, 72), .inr (20, 366, 0, i1), .inl (.int x2), .inl (.int x3), .inl (.int x4), .inl (.int x5), .inl (.int x6), ab_top, ab_top, ab_top, ab_top]) (st' := [.inl (.int x4), .inl (.int x6)]) (P1 := P) rfl ⟨trivial, trivial, trivial⟩ ?_
    refine tr_if (fun h44 => ?_) (fun h44 => ?_)
    · refine tr_icT (cd := .gt) h44 ?_
      refine tr_nil (rows2 := kb_152_43) rfl (List.cons_ne_nil _ _) ?_
      refine tr_blk 4 (pc' := 49) (rows' := kb_152_43.drop 4) (loc' := [.inr (12, 0, 0, 72), .inr (20, 366, 0, i1), .inl (.int x2), .inl (.int x3), .inl (.int x4), .inl (.int x5), .inl (.int (x5 - (1 : Int32))), ab_top, ab_top, ab_top, ab_top]) (st' := []) (P1 := P) rfl ⟨trivial, trivial, trivial, trivial, trivial⟩ ?_
      exact t_152_366_49 i1 N N x2 x3 x4 x5 (x5 - (1 : Int32)) (ab_top) (ab_top) (ab_top) P
    · refine tr_icF (cd := .gt) h44 ?_
      refine tr_gd (fun h1 => ?_)
      refine tr_blk 6 (pc' := 28) (rows' := kb_152_10.drop 9) (loc' := [.inr (12, 0, 0, 72), .inr (20, 366, 0, i1), .inl (.int x2), .inl (.int x3), .inl (.int x4), .inl (.int x5), .inl (.int x6), ab_top, ab_top, ab_top, ab_top]) (st' := [.inl (.int x6), .inl (.int x6), .inr (20, 1000, 0, (504 + 1 + x5.toNatClampNeg))]) (P1 := P) rfl ⟨trivial, trivial, trivial, ⟨h1, ab_grl h1⟩, trivial, trivial, trivial⟩ ?_
      refine tr_if (fun h45 => ?_) (fun h45 => ?_)
      · refine tr_ifF (cd := .ne) (fun q => q h45) ?_
        refine tr_blk 1 (pc' := 32) (rows' := kb_152_10.drop 11) (loc' := [.inr (12, 0, 0, 72), .inr (20, 366, 0, i1), .inl (.int x2), .inl (.int x3), .inl (.int x4), .inl (.int x5), .inl (.int x6), ab_top, ab_top, ab_top, ab_top]) (st' := [.inl (.int (0 : Int32)), .inl (.int x6), .inr (20, 1000, 0, (504 + 1 + x5.toNatClampNeg))]) (P1 := P) rfl ⟨trivial, trivial⟩ ?_
        refine tr_goto ?_
        refine tr_nil (rows2 := kb_152_36) rfl (List.cons_ne_nil _ _) ?_
        refine tr_gd (fun h4 => ?_)
        refine tr_blk 1 (pc' := 37) (rows' := kb_152_36.drop 1) (loc' := [.inr (12, 0, 0, 72), .inr (20, 366, 0, i1), .inl (.int x2), .inl (.int x3), .inl (.int x4), .inl (.int x5), .inl (.int x6), ab_top, ab_top, ab_top, ab_top]) (st' := []) (P1 := (ab_pI P (504 + 1 + x5.toNatClampNeg) x6.toNatClampNeg (0 : Int32))) rfl ⟨h4, trivial⟩ ?_
        refine tr_lt (fun P5 => ?_)
        refine tr_blk 1 (pc' := 40) (rows' := kb_152_36.drop 2) (loc' := [.inr (12, 0, 0, 72), .inr (20, 366, 0, i1), .inl (.int x2), .inl (.int x3), .inl (.int x4), .inl (.int x5), .inl (.int (x6 + 1)), ab_top, ab_top, ab_top, ab_top]) (st' := []) (P1 := P5) rfl ⟨trivial, trivial⟩ ?_
        refine tr_goto ?_
        exact ih x2 x3 x4 x5 (x6 + 1) P5
      · refine tr_ifT (cd := .ne) h45 ?_
        refine tr_nil (rows2 := kb_152_35) rfl (List.cons_ne_nil _ _) ?_
        refine tr_blk 1 (pc' := 36) (rows' := kb_152_35.drop 1) (loc' := [.inr (12, 0, 0, 72), .inr (20, 366, 0, i1), .inl (.int x2), .inl (.int x3), .inl (.int x4), .inl (.int x5), .inl (.int x6), ab_top, ab_top, ab_top, ab_top]) (st' := [.inl (.int (-1 : Int32)), .inl (.int x6), .inr (20, 1000, 0, (504 + 1 + x5.toNatClampNeg))]) (P1 := P) rfl ⟨trivial, trivial⟩ ?_
        refine tr_nil (rows2 := kb_152_36) rfl (List.cons_ne_nil _ _) ?_
        refine tr_gd (fun h2 => ?_)
        refine tr_blk 1 (pc' := 37) (rows' := kb_152_36.drop 1) (loc' := [.inr (12, 0, 0, 72), .inr (20, 366, 0, i1), .inl (.int x2), .inl (.int x3), .inl (.int x4), .inl (.int x5), .inl (.int x6), ab_top, ab_top, ab_top, ab_top]) (st' := []) (P1 := (ab_pI P (504 + 1 + x5.toNatClampNeg) x6.toNatClampNeg (-1 : Int32))) rfl ⟨h2, trivial⟩ ?_
        refine tr_lt (fun P3 => ?_)
        refine tr_blk 1 (pc' := 40) (rows' := kb_152_36.drop 2) (loc' := [.inr (12, 0, 0, 72), .inr (20, 366, 0, i1), .inl (.int x2), .inl (.int x3), .inl (.int x4), .inl (.int x5), .inl (.int (x6 + 1)), ab_top, ab_top, ab_top, ab_top]) (st' := []) (P1 := P3) rfl ⟨trivial, trivial⟩ ?_
        refine tr_goto ?_
        exact ih x2 x3 x4 x5 (x6 + 1) P3
def f_152_366 (i1 : Nat) (N : Nat) (a2 : Int32) (a3 : Int32) (a4 : Int32) (P : ab_P) : Option (Int64 × ab_P) :=
    f_152_366_10 i1 N N a2 a3 a4 (P.1 i1 360) (0 : Int32) P
theorem t_152_366 {xs : Nat × (Nat → Int32)} {d : Nat} (i1 : Nat) (N : Nat) : ∀ (a2 : Int32) (a3 : Int32) (a4 : Int32) (P : ab_P), ab_tr xs wL (d + 3) 152 0 [] [.inr (12, 0, 0, 72), .inr (20, 366, 0, i1), .inl (.int a2), .inl (.int a3), .inl (.int a4), ab_top, ab_top, ab_top, ab_top, ab_top, ab_top] [] P (f_152_366 i1 N a2 a3 a4 P) := by
  intro a2 a3 a4 P
  unfold f_152_366
  refine tr_nil (rows2 := kb_152_0) rfl (List.cons_ne_nil _ _) ?_
  refine tr_blk 6 (pc' := 10) (rows' := kb_152_0.drop 6) (loc' := [.inr (12, 0, 0, 72), .inr (20, 366, 0, i1), .inl (.int a2), .inl (.int a3), .inl (.int a4), .inl (.int (P.1 i1 360)), .inl (.int (0 : Int32)), ab_top, ab_top, ab_top, ab_top]) (st' := []) (P1 := P) rfl ⟨trivial, trivial, (ab_vi (by decide)), trivial, trivial, trivial, trivial⟩ ?_
  exact t_152_366_10 i1 N N a2 a3 a4 (P.1 i1 360) (0 : Int32) P
def f_218_366_14 (i1 : Nat) : Nat → Int32 → Int64 → Int32 → ab_P → Option (Int32 × ab_P)
  | 0, _, _, _, _ => none
  | n + 1, x3, x5, x7, P =>
    if x7 < (P.1 i1 360) then
      if (lg_cmp ((x5 >>> ((x7).toInt64 &&& 63)) &&& (1 : Int64)) (1 : Int64)) = (0 : Int32) then
        Option.bind (f_219_366 i1 x7 x3 P) fun P3 =>
        f_218_366_14 i1 n x3 x5 (x7 + 1) P3
      else
      f_218_366_14 i1 n x3 x5 (x7 + 1) P
    else
    if (lg_cmp x5 (0 : Int64)) = (0 : Int32) then
      some ((0 : Int32), P)
    else
    some ((1 : Int32), P)
theorem t_218_366_14 {xs : Nat × (Nat → Int32)} {d : Nat} (i1 : Nat) : ∀ n : Nat, ∀ (x3 : Int32) (x5 : Int64) (x7 : Int32) (d2 : Int32) (d4 : Int32) (P : ab_P), ab_tr xs wI (d + 4) 218 14 [] [.inr (12, 0, 0, 72), .inr (20, 366, 0, i1), .inl (.int d2), .inl (.int x3), .inl (.int d4), .inl (.long x5), ab_top, .inl (.int x7)] [] P (f_218_366_14 i1 n x3 x5 x7 P) := by
  intro n
  induction n with
  | zero => intro x3 x5 x7 d2 d4 P; exact tr_no
  | succ n ih =>
    intro x3 x5 x7 d2 d4 P
    refine tr_nil (rows2 := kb_218_14) rfl (List.cons_ne_nil _ _) ?_
    refine tr_blk 4 (pc' := 21) (rows' := kb_218_14.drop 4) (loc' := [.inr (12, 0, 0, 72), .inr (20, 366, 0, i1), .inl (.int d2), .inl (.int x3), .inl (.int d4), .inl (.long x5), ab_top, .inl (.int x7)]) (st' := [.inl (.int (P.1 i1 360)), .inl (.int x7)]) (P1 := P) rfl ⟨trivial, trivial, trivial, (ab_vi (by decide)), trivial⟩ ?_
    refine tr_if (fun h4 => ?_) (fun h4 => ?_)
    · refine tr_icF (cd := .ge) (Int32.not_le.mpr h4) ?_
      refine tr_blk 7 (pc' := 33) (rows' := kb_218_14.drop 12) (loc' := [.inr (12, 0, 0, 72), .inr (20, 366, 0, i1), .inl (.int d2), .inl (.int x3), .inl (.int d4), .inl (.long x5), ab_top, .inl (.int x7)]) (st' := [.inl (.int (lg_cmp ((x5 >>> ((x7).toInt64 &&& 63)) &&& (1 : Int64)) (1 : Int64)))]) (P1 := P) rfl ⟨trivial, trivial, trivial, trivial, trivial, trivial, trivial, trivial⟩ ?_
      refine tr_if (fun h6 => ?_) (fun h6 => ?_)
      · refine tr_ifF (cd := .ne) (fun q => q h6) ?_
        refine tr_blk 3 (pc' := 40) (rows' := kb_218_14.drop 16) (loc' := [.inr (12, 0, 0, 72), .inr (20, 366, 0, i1), .inl (.int d2), .inl (.int x3), .inl (.int d4), .inl (.long x5), ab_top, .inl (.int x7)]) (st' := [.inl (.int x3), .inl (.int x7), .inr (20, 366, 0, i1)]) (P1 := P) rfl ⟨trivial, trivial, trivial, trivial⟩ ?_
        refine tr_cWV (z := km_219) (av := [.inr (20, 366, 0, i1), .inl (.int x7), .inl (.int x3)]) (st' := []) rfl rfl rfl (Nat.le_of_ble_eq_true rfl) trivial rfl (Nat.le_of_ble_eq_true rfl) (t_219_366 i1 x7 x3 P) (fun P3 => ?_)
        refine tr_nil (rows2 := kb_218_43) rfl (List.cons_ne_nil _ _) ?_
        refine tr_blk 1 (pc' := 46) (rows' := kb_218_43.drop 1) (loc' := [.inr (12, 0, 0, 72), .inr (20, 366, 0, i1), .inl (.int d2), .inl (.int x3), .inl (.int d4), .inl (.long x5), ab_top, .inl (.int (x7 + 1))]) (st' := []) (P1 := P3) rfl ⟨trivial, trivial⟩ ?_
        refine tr_goto ?_
        exact ih x3 x5 (x7 + 1) (d2) (d4) P3
      · refine tr_ifT (cd := .ne) h6 ?_
        refine tr_nil (rows2 := kb_218_43) rfl (List.cons_ne_nil _ _) ?_
        refine tr_blk 1 (pc' := 46) (rows' := kb_218_43.drop 1) (loc' := [.inr (12, 0, 0, 72), .inr (20, 366, 0, i1), .inl (.int d2), .inl (.int x3), .inl (.int d4), .inl (.long x5), ab_top, .inl (.int (x7 + 1))]) (st' := []) (P1 := P) rfl ⟨trivial, trivial⟩ ?_
        refine tr_goto ?_
        exact ih x3 x5 (x7 + 1) (d2) (d4) P
    · refine tr_icT (cd := .ge) (Int32.not_lt.mp h4) ?_
      refine tr_nil (rows2 := kb_218_49) rfl (List.cons_ne_nil _ _) ?_
      refine tr_blk 3 (pc' := 53) (rows' := kb_218_49.drop 3) (loc' := [.inr (12, 0, 0, 72), .inr (20, 366, 0, i1), .inl (.int d2), .inl (.int x3), .inl (.int d4), .inl (.long x5), ab_top, .inl (.int x7)]) (st' := [.inl (.int (lg_cmp x5 (0 : Int64)))]) (P1 := P) rfl ⟨trivial, trivial, trivial, trivial⟩ ?_
      refine tr_if (fun h5 => ?_) (fun h5 => ?_)
      · refine tr_ifT (cd := .eq) h5 ?_
        refine tr_nil (rows2 := kb_218_60) rfl (List.cons_ne_nil _ _) ?_
        refine tr_blk 1 (pc' := 61) (rows' := kb_218_60.drop 1) (loc' := [.inr (12, 0, 0, 72), .inr (20, 366, 0, i1), .inl (.int d2), .inl (.int x3), .inl (.int d4), .inl (.long x5), ab_top, .inl (.int x7)]) (st' := [.inl (.int (0 : Int32))]) (P1 := P) rfl ⟨trivial, trivial⟩ ?_
        refine tr_nil (rows2 := kb_218_61) rfl (List.cons_ne_nil _ _) ?_
        exact tr_reI (z := km_218) rfl ⟨_, rfl, rfl⟩ rfl
      · refine tr_ifF (cd := .eq) h5 ?_
        refine tr_blk 1 (pc' := 57) (rows' := kb_218_49.drop 5) (loc' := [.inr (12, 0, 0, 72), .inr (20, 366, 0, i1), .inl (.int d2), .inl (.int x3), .inl (.int d4), .inl (.long x5), ab_top, .inl (.int x7)]) (st' := [.inl (.int (1 : Int32))]) (P1 := P) rfl ⟨trivial, trivial⟩ ?_
        refine tr_goto ?_
        refine tr_nil (rows2 := kb_218_61) rfl (List.cons_ne_nil _ _) ?_
        exact tr_reI (z := km_218) rfl ⟨_, rfl, rfl⟩ rfl
def f_218_366 (i1 : Nat) (N : Nat) (a2 : Int32) (a3 : Int32) (a4 : Int32) (P : ab_P) : Option (Int32 × ab_P) :=
    ab_b2 (f_152_366 i1 N a2 a3 a4 P) fun v2 P1 =>
    f_218_366_14 i1 N a3 v2 (0 : Int32) P1
theorem t_218_366 {xs : Nat × (Nat → Int32)} {d : Nat} (i1 : Nat) (N : Nat) : ∀ (a2 : Int32) (a3 : Int32) (a4 : Int32) (P : ab_P), ab_tr xs wI (d + 4) 218 0 [] [.inr (12, 0, 0, 72), .inr (20, 366, 0, i1), .inl (.int a2), .inl (.int a3), .inl (.int a4), ab_top, ab_top, ab_top] [] P (f_218_366 i1 N a2 a3 a4 P) := by
  intro a2 a3 a4 P
  unfold f_218_366
  refine tr_nil (rows2 := kb_218_0) rfl (List.cons_ne_nil _ _) ?_
  refine tr_blk 5 (pc' := 6) (rows' := kb_218_0.drop 5) (loc' := [.inr (12, 0, 0, 72), .inr (20, 366, 0, i1), .inl (.int a2), .inl (.int a3), .inl (.int a4), ab_top, ab_top, ab_top]) (st' := [.inl (.int a4), .inl (.int a3), .inl (.int a2), .inr (20, 366, 0, i1), .inr (12, 0, 0, 72)]) (P1 := P) rfl ⟨trivial, trivial, trivial, trivial, trivial, trivial⟩ ?_
  refine tr_cWL (z := km_152) (av := [.inr (12, 0, 0, 72), .inr (20, 366, 0, i1), .inl (.int a2), .inl (.int a3), .inl (.int a4)]) (st' := []) rfl rfl rfl (Nat.le_of_ble_eq_true rfl) ⟨rfl, Or.inl (by decide)⟩ rfl (Nat.le_of_ble_eq_true rfl) (t_152_366 i1 N a2 a3 a4 P) (fun v2 P1 => ?_)
  refine tr_blk 3 (pc' := 14) (rows' := kb_218_0.drop 9) (loc' := [.inr (12, 0, 0, 72), .inr (20, 366, 0, i1), .inl (.int a2), .inl (.int a3), .inl (.int a4), .inl (.long v2), ab_top, .inl (.int (0 : Int32))]) (st' := []) (P1 := P1) rfl ⟨trivial, trivial, trivial, trivial⟩ ?_
  exact t_218_366_14 i1 N a3 v2 (0 : Int32) (a2) (a4) P1
def f_124_366_4 (i1 : Nat) (i2 : Nat) (N : Nat) (P : ab_P) : Option (Int32 × ab_P) :=
    if (P.1 i2 0) = (0 : Int32) then
      ab_lt (ab_pI P i1 361 ((P.1 i1 361) + (P.1 i2 1))) fun P25 =>
      some ((1 : Int32), P25)
    else
    if (P.1 i2 0) = (1 : Int32) then
      ab_b2 (f_197_366 i1 (P.1 i2 1) (P.1 i2 2) (P.1 i2 3) (1 : Int32) P) fun v24 P23 =>
      if v24 = (-1 : Int32) then
        some ((0 : Int32), P23)
      else
      some ((1 : Int32), P23)
    else
    if (P.1 i2 0) = (9 : Int32) then
      ab_b2 (f_218_366 i1 N (P.1 i2 1) (P.1 i2 2) (P.1 i2 3) P) fun v21 P20 =>
      if vp_nar .boolean v21 = v21 then
      some (v21, P20)
      else none
    else
    Option.bind (f_144_366 i1 P (P.1 i2 1)) fun v1 =>
    if v1 = (0 : Int32) then
      some ((0 : Int32), P)
    else
    Option.bind (f_135_366 i1 P (P.1 i2 1) (1 : Int32)) fun v2 =>
    if (P.1 i2 0) = 2 then
      if v2 = (P.1 i2 2) then
        some ((0 : Int32), P)
      else
      Option.bind (f_219_366 i1 (P.1 i2 1) (P.1 i2 2) P) fun P3 =>
      some ((1 : Int32), P3)
    else
    if (P.1 i2 0) = 3 then
      ab_b2 (f_220_366 i1 N (P.1 i2 1) (P.1 i2 2) P) fun v5 P4 =>
      if vp_nar .boolean v5 = v5 then
      some (v5, P4)
      else none
    else
    if (P.1 i2 0) = 4 then
      ab_b2 (f_221_366 i1 (P.1 i2 1) (P.1 i2 2) P) fun v8 P7 =>
      if vp_nar .boolean v8 = v8 then
      some (v8, P7)
      else none
    else
    if (P.1 i2 0) = 5 then
      ab_b2 (f_222_366 i1 (P.1 i2 1) P) fun v11 P10 =>
      if vp_nar .boolean v11 = v11 then
      some (v11, P10)
      else none
    else
    if (P.1 i2 0) = 6 then
      ab_b2 (f_146_366 i1 N (P.1 i2 1) P) fun v14 P13 =>
      if v14 < (P13.1 76 3) then
        some ((0 : Int32), P13)
      else
      Option.bind (f_223_366 i1 (P.1 i2 1) (1 : Int32) P13) fun P15 =>
      some ((1 : Int32), P15)
    else
    if (P.1 i2 0) = 7 then
      if (P.1 i2 2) = v2 then
        some ((0 : Int32), P)
      else
      Option.bind (f_135_366 i1 P (P.1 i2 1) (0 : Int32)) fun v16 =>
      if (P.1 i2 2) = v16 then
        some ((0 : Int32), P)
      else
      ab_b2 (f_197_366 i1 (P.1 i2 2) v2 (1 : Int32) (1 : Int32) P) fun v18 P17 =>
      if v18 = (-1 : Int32) then
        some ((0 : Int32), P17)
      else
      some ((1 : Int32), P17)
    else
    Option.bind (f_223_366 i1 (P.1 i2 1) (2 : Int32) P) fun P19 =>
    some ((1 : Int32), P19)
theorem t_124_366_4 {xs : Nat × (Nat → Int32)} {d : Nat} (i1 : Nat) (i2 : Nat) (N : Nat) : ∀ (P : ab_P), ab_tr xs wI (d + 6) 124 0 [] [.inr (12, 0, 0, 72), .inr (20, 366, 0, i1), .inr (20, 4, 0, i2), ab_top, ab_top] [] P (f_124_366_4 i1 i2 N P) := by
  intro P
  unfold f_124_366_4
  refine tr_nil (rows2 := kb_124_0) rfl (List.cons_ne_nil _ _) ?_
  refine tr_blk 7 (pc' := 7) (rows' := kb_124_0.drop 7) (loc' := [.inr (12, 0, 0, 72), .inr (20, 366, 0, i1), .inr (20, 4, 0, i2), .inl (.int (P.1 i2 1)), ab_top]) (st' := [.inl (.int (P.1 i2 0))]) (P1 := P) rfl ⟨trivial, trivial, (ab_vi (by decide)), trivial, trivial, trivial, (ab_vi (by decide)), trivial⟩ ?_
  refine tr_if (fun h26 => ?_) (fun h26 => ?_)
  · refine tr_ifF (cd := .ne) (fun q => q h26) ?_
    refine tr_blk 7 (pc' := 19) (rows' := kb_124_0.drop 15) (loc' := [.inr (12, 0, 0, 72), .inr (20, 366, 0, i1), .inr (20, 4, 0, i2), .inl (.int (P.1 i2 1)), ab_top]) (st' := []) (P1 := (ab_pI P i1 361 ((P.1 i1 361) + (P.1 i2 1)))) rfl ⟨trivial, trivial, trivial, (ab_vi (by decide)), trivial, trivial, (ab_vi (by decide)), trivial⟩ ?_
    refine tr_lt (fun P25 => ?_)
    refine tr_blk 1 (pc' := 20) (rows' := kb_124_0.drop 16) (loc' := [.inr (12, 0, 0, 72), .inr (20, 366, 0, i1), .inr (20, 4, 0, i2), .inl (.int (P.1 i2 1)), ab_top]) (st' := [.inl (.int (1 : Int32))]) (P1 := P25) rfl ⟨trivial, trivial⟩ ?_
    exact tr_reI (z := km_124) rfl ⟨_, rfl, rfl⟩ rfl
  · refine tr_ifT (cd := .ne) h26 ?_
    refine tr_nil (rows2 := kb_124_21) rfl (List.cons_ne_nil _ _) ?_
    refine tr_blk 4 (pc' := 25) (rows' := kb_124_21.drop 4) (loc' := [.inr (12, 0, 0, 72), .inr (20, 366, 0, i1), .inr (20, 4, 0, i2), .inl (.int (P.1 i2 1)), ab_top]) (st' := [.inl (.int (1 : Int32)), .inl (.int (P.1 i2 0))]) (P1 := P) rfl ⟨trivial, trivial, (ab_vi (by decide)), trivial, trivial⟩ ?_
    refine tr_if (fun h27 => ?_) (fun h27 => ?_)
    · refine tr_icF (cd := .ne) (fun q => q h27) ?_
      refine tr_blk 9 (pc' := 37) (rows' := kb_124_21.drop 14) (loc' := [.inr (12, 0, 0, 72), .inr (20, 366, 0, i1), .inr (20, 4, 0, i2), .inl (.int (P.1 i2 1)), ab_top]) (st' := [.inl (.int (1 : Int32)), .inl (.int (P.1 i2 3)), .inl (.int (P.1 i2 2)), .inl (.int (P.1 i2 1)), .inr (20, 366, 0, i1)]) (P1 := P) rfl ⟨trivial, trivial, trivial, trivial, (ab_vi (by decide)), trivial, trivial, (ab_vi (by decide)), trivial, trivial⟩ ?_
      refine tr_cWI (z := km_197) (av := [.inr (20, 366, 0, i1), .inl (.int (P.1 i2 1)), .inl (.int (P.1 i2 2)), .inl (.int (P.1 i2 3)), .inl (.int (1 : Int32))]) (st' := []) rfl rfl rfl (Nat.le_of_ble_eq_true rfl) trivial rfl (Nat.le_of_ble_eq_true rfl) (t_197_366 i1 (P.1 i2 1) (P.1 i2 2) (P.1 i2 3) (1 : Int32) P) (fun v24 P23 => ?_)
      refine tr_blk 1 (pc' := 41) (rows' := kb_124_21.drop 16) (loc' := [.inr (12, 0, 0, 72), .inr (20, 366, 0, i1), .inr (20, 4, 0, i2), .inl (.int (P.1 i2 1)), ab_top]) (st' := [.inl (.int (-1 : Int32)), .inl (.int v24)]) (P1 := P23) rfl ⟨trivial, trivial⟩ ?_
      refine tr_if (fun h41 => ?_) (fun h41 => ?_)
      · refine tr_icT (cd := .eq) h41 ?_
        refine tr_nil (rows2 := kb_124_48) rfl (List.cons_ne_nil _ _) ?_
        refine tr_blk 1 (pc' := 49) (rows' := kb_124_48.drop 1) (loc' := [.inr (12, 0, 0, 72), .inr (20, 366, 0, i1), .inr (20, 4, 0, i2), .inl (.int (P.1 i2 1)), ab_top]) (st' := [.inl (.int (0 : Int32))]) (P1 := P23) rfl ⟨trivial, trivial⟩ ?_
        refine tr_nil (rows2 := kb_124_49) rfl (List.cons_ne_nil _ _) ?_
        exact tr_reI (z := km_124) rfl ⟨_, rfl, rfl⟩ rfl
      · refine tr_icF (cd := .eq) h41 ?_
        refine tr_blk 1 (pc' := 45) (rows' := kb_124_21.drop 18) (loc' := [.inr (12, 0, 0, 72), .inr (20, 366, 0, i1), .inr (20, 4, 0, i2), .inl (.int (P.1 i2 1)), ab_top]) (st' := [.inl (.int (1 : Int32))]) (P1 := P23) rfl ⟨trivial, trivial⟩ ?_
        refine tr_goto ?_
        refine tr_nil (rows2 := kb_124_49) rfl (List.cons_ne_nil _ _) ?_
        exact tr_reI (z := km_124) rfl ⟨_, rfl, rfl⟩ rfl
    · refine tr_icT (cd := .ne) h27 ?_
      refine tr_nil (rows2 := kb_124_50) rfl (List.cons_ne_nil _ _) ?_
      refine tr_blk 4 (pc' := 55) (rows' := kb_124_50.drop 4) (loc' := [.inr (12, 0, 0, 72), .inr (20, 366, 0, i1), .inr (20, 4, 0, i2), .inl (.int (P.1 i2 1)), ab_top]) (st' := [.inl (.int (9 : Int32)), .inl (.int (P.1 i2 0))]) (P1 := P) rfl ⟨trivial, trivial, (ab_vi (by decide)), trivial, trivial⟩ ?_
      refine tr_if (fun h28 => ?_) (fun h28 => ?_)
      · refine tr_icF (cd := .ne) (fun q => q h28) ?_
        refine tr_blk 9 (pc' := 67) (rows' := kb_124_50.drop 14) (loc' := [.inr (12, 0, 0, 72), .inr (20, 366, 0, i1), .inr (20, 4, 0, i2), .inl (.int (P.1 i2 1)), ab_top]) (st' := [.inl (.int (P.1 i2 3)), .inl (.int (P.1 i2 2)), .inl (.int (P.1 i2 1)), .inr (20, 366, 0, i1), .inr (12, 0, 0, 72)]) (P1 := P) rfl ⟨trivial, trivial, trivial, trivial, trivial, (ab_vi (by decide)), trivial, trivial, (ab_vi (by decide)), trivial⟩ ?_
        refine tr_cWI (z := km_218) (av := [.inr (12, 0, 0, 72), .inr (20, 366, 0, i1), .inl (.int (P.1 i2 1)), .inl (.int (P.1 i2 2)), .inl (.int (P.1 i2 3))]) (st' := []) rfl rfl rfl (Nat.le_of_ble_eq_true rfl) ⟨rfl, Or.inl (by decide)⟩ rfl (Nat.le_of_ble_eq_true rfl) (t_218_366 i1 N (P.1 i2 1) (P.1 i2 2) (P.1 i2 3) P) (fun v21 P20 => ?_)
        refine tr_gd (fun h22 => ?_)
        exact tr_reI (z := km_124) rfl ⟨_, rfl, ab_nar (by decide) h22⟩ rfl
      · refine tr_icT (cd := .ne) h28 ?_
        refine tr_nil (rows2 := kb_124_71) rfl (List.cons_ne_nil _ _) ?_
        refine tr_blk 2 (pc' := 73) (rows' := kb_124_71.drop 2) (loc' := [.inr (12, 0, 0, 72), .inr (20, 366, 0, i1), .inr (20, 4, 0, i2), .inl (.int (P.1 i2 1)), ab_top]) (st' := [.inl (.int (P.1 i2 1)), .inr (20, 366, 0, i1)]) (P1 := P) rfl ⟨trivial, trivial, trivial⟩ ?_
        refine tr_cRI (z := km_144) (av := [.inr (20, 366, 0, i1), .inl (.int (P.1 i2 1))]) (st' := []) rfl rfl rfl (Nat.le_of_ble_eq_true rfl) trivial rfl (Nat.le_of_ble_eq_true rfl) (t_144_366 i1 P (P.1 i2 1)) (fun v1 => ?_)
        refine tr_if (fun h29 => ?_) (fun h29 => ?_)
        · refine tr_ifF (cd := .ne) (fun q => q h29) ?_
          refine tr_blk 1 (pc' := 80) (rows' := kb_124_71.drop 5) (loc' := [.inr (12, 0, 0, 72), .inr (20, 366, 0, i1), .inr (20, 4, 0, i2), .inl (.int (P.1 i2 1)), ab_top]) (st' := [.inl (.int (0 : Int32))]) (P1 := P) rfl ⟨trivial, trivial⟩ ?_
          exact tr_reI (z := km_124) rfl ⟨_, rfl, rfl⟩ rfl
        · refine tr_ifT (cd := .ne) h29 ?_
          refine tr_nil (rows2 := kb_124_81) rfl (List.cons_ne_nil _ _) ?_
          refine tr_blk 3 (pc' := 84) (rows' := kb_124_81.drop 3) (loc' := [.inr (12, 0, 0, 72), .inr (20, 366, 0, i1), .inr (20, 4, 0, i2), .inl (.int (P.1 i2 1)), ab_top]) (st' := [.inl (.int (1 : Int32)), .inl (.int (P.1 i2 1)), .inr (20, 366, 0, i1)]) (P1 := P) rfl ⟨trivial, trivial, trivial, trivial⟩ ?_
          refine tr_cRI (z := km_135) (av := [.inr (20, 366, 0, i1), .inl (.int (P.1 i2 1)), .inl (.int (1 : Int32))]) (st' := []) rfl rfl rfl (Nat.le_of_ble_eq_true rfl) trivial rfl (Nat.le_of_ble_eq_true rfl) (t_135_366 i1 P (P.1 i2 1) (1 : Int32)) (fun v2 => ?_)
          refine tr_blk 4 (pc' := 92) (rows' := kb_124_81.drop 8) (loc' := [.inr (12, 0, 0, 72), .inr (20, 366, 0, i1), .inr (20, 4, 0, i2), .inl (.int (P.1 i2 1)), .inl (.int v2)]) (st' := [.inl (.int (P.1 i2 0))]) (P1 := P) rfl ⟨trivial, trivial, trivial, (ab_vi (by decide)), trivial⟩ ?_
          refine tr_if (fun h30 => ?_) (fun h30 => ?_)
          · refine tr_sw (t := 132) (by rw [h30]; rfl) ?_
            refine tr_nil (rows2 := kb_124_132) rfl (List.cons_ne_nil _ _) ?_
            refine tr_blk 4 (pc' := 137) (rows' := kb_124_132.drop 4) (loc' := [.inr (12, 0, 0, 72), .inr (20, 366, 0, i1), .inr (20, 4, 0, i2), .inl (.int (P.1 i2 1)), .inl (.int v2)]) (st' := [.inl (.int (P.1 i2 2)), .inl (.int v2)]) (P1 := P) rfl ⟨trivial, trivial, trivial, (ab_vi (by decide)), trivial⟩ ?_
            refine tr_if (fun h31 => ?_) (fun h31 => ?_)
            · refine tr_icF (cd := .ne) (fun q => q h31) ?_
              refine tr_blk 1 (pc' := 141) (rows' := kb_124_132.drop 6) (loc' := [.inr (12, 0, 0, 72), .inr (20, 366, 0, i1), .inr (20, 4, 0, i2), .inl (.int (P.1 i2 1)), .inl (.int v2)]) (st' := [.inl (.int (0 : Int32))]) (P1 := P) rfl ⟨trivial, trivial⟩ ?_
              exact tr_reI (z := km_124) rfl ⟨_, rfl, rfl⟩ rfl
            · refine tr_icT (cd := .ne) h31 ?_
              refine tr_nil (rows2 := kb_124_142) rfl (List.cons_ne_nil _ _) ?_
              refine tr_blk 5 (pc' := 147) (rows' := kb_124_142.drop 5) (loc' := [.inr (12, 0, 0, 72), .inr (20, 366, 0, i1), .inr (20, 4, 0, i2), .inl (.int (P.1 i2 1)), .inl (.int v2)]) (st' := [.inl (.int (P.1 i2 2)), .inl (.int (P.1 i2 1)), .inr (20, 366, 0, i1)]) (P1 := P) rfl ⟨trivial, trivial, trivial, trivial, (ab_vi (by decide)), trivial⟩ ?_
              refine tr_cWV (z := km_219) (av := [.inr (20, 366, 0, i1), .inl (.int (P.1 i2 1)), .inl (.int (P.1 i2 2))]) (st' := []) rfl rfl rfl (Nat.le_of_ble_eq_true rfl) trivial rfl (Nat.le_of_ble_eq_true rfl) (t_219_366 i1 (P.1 i2 1) (P.1 i2 2) P) (fun P3 => ?_)
              refine tr_blk 1 (pc' := 151) (rows' := kb_124_142.drop 7) (loc' := [.inr (12, 0, 0, 72), .inr (20, 366, 0, i1), .inr (20, 4, 0, i2), .inl (.int (P.1 i2 1)), .inl (.int v2)]) (st' := [.inl (.int (1 : Int32))]) (P1 := P3) rfl ⟨trivial, trivial⟩ ?_
              exact tr_reI (z := km_124) rfl ⟨_, rfl, rfl⟩ rfl
          refine tr_if (fun h32 => ?_) (fun h32 => ?_)
          · refine tr_sw (t := 152) (by rw [h32]; rfl) ?_
            refine tr_nil (rows2 := kb_124_152) rfl (List.cons_ne_nil _ _) ?_
            refine tr_blk 5 (pc' := 157) (rows' := kb_124_152.drop 5) (loc' := [.inr (12, 0, 0, 72), .inr (20, 366, 0, i1), .inr (20, 4, 0, i2), .inl (.int (P.1 i2 1)), .inl (.int v2)]) (st' := [.inl (.int (P.1 i2 2)), .inl (.int (P.1 i2 1)), .inr (20, 366, 0, i1)]) (P1 := P) rfl ⟨trivial, trivial, trivial, trivial, (ab_vi (by decide)), trivial⟩ ?_
            refine tr_cWI (z := km_220) (av := [.inr (20, 366, 0, i1), .inl (.int (P.1 i2 1)), .inl (.int (P.1 i2 2))]) (st' := []) rfl rfl rfl (Nat.le_of_ble_eq_true rfl) trivial rfl (Nat.le_of_ble_eq_true rfl) (t_220_366 i1 N (P.1 i2 1) (P.1 i2 2) P) (fun v5 P4 => ?_)
            refine tr_gd (fun h6 => ?_)
            exact tr_reI (z := km_124) rfl ⟨_, rfl, ab_nar (by decide) h6⟩ rfl
          refine tr_if (fun h33 => ?_) (fun h33 => ?_)
          · refine tr_sw (t := 161) (by rw [h33]; rfl) ?_
            refine tr_nil (rows2 := kb_124_161) rfl (List.cons_ne_nil _ _) ?_
            refine tr_blk 5 (pc' := 166) (rows' := kb_124_161.drop 5) (loc' := [.inr (12, 0, 0, 72), .inr (20, 366, 0, i1), .inr (20, 4, 0, i2), .inl (.int (P.1 i2 1)), .inl (.int v2)]) (st' := [.inl (.int (P.1 i2 2)), .inl (.int (P.1 i2 1)), .inr (20, 366, 0, i1)]) (P1 := P) rfl ⟨trivial, trivial, trivial, trivial, (ab_vi (by decide)), trivial⟩ ?_
            refine tr_cWI (z := km_221) (av := [.inr (20, 366, 0, i1), .inl (.int (P.1 i2 1)), .inl (.int (P.1 i2 2))]) (st' := []) rfl rfl rfl (Nat.le_of_ble_eq_true rfl) trivial rfl (Nat.le_of_ble_eq_true rfl) (t_221_366 i1 (P.1 i2 1) (P.1 i2 2) P) (fun v8 P7 => ?_)
            refine tr_gd (fun h9 => ?_)
            exact tr_reI (z := km_124) rfl ⟨_, rfl, ab_nar (by decide) h9⟩ rfl
          refine tr_if (fun h34 => ?_) (fun h34 => ?_)
          · refine tr_sw (t := 170) (by rw [h34]; rfl) ?_
            refine tr_nil (rows2 := kb_124_170) rfl (List.cons_ne_nil _ _) ?_
            refine tr_blk 3 (pc' := 173) (rows' := kb_124_170.drop 3) (loc' := [.inr (12, 0, 0, 72), .inr (20, 366, 0, i1), .inr (20, 4, 0, i2), .inl (.int (P.1 i2 1)), .inl (.int v2)]) (st' := [.inl (.int (P.1 i2 1)), .inr (20, 366, 0, i1), .inr (12, 0, 0, 72)]) (P1 := P) rfl ⟨trivial, trivial, trivial, trivial⟩ ?_
            refine tr_cWI (z := km_222) (av := [.inr (12, 0, 0, 72), .inr (20, 366, 0, i1), .inl (.int (P.1 i2 1))]) (st' := []) rfl rfl rfl (Nat.le_of_ble_eq_true rfl) ⟨rfl, Or.inl (by decide)⟩ rfl (Nat.le_of_ble_eq_true rfl) (t_222_366 i1 (P.1 i2 1) P) (fun v11 P10 => ?_)
            refine tr_gd (fun h12 => ?_)
            exact tr_reI (z := km_124) rfl ⟨_, rfl, ab_nar (by decide) h12⟩ rfl
          refine tr_if (fun h35 => ?_) (fun h35 => ?_)
          · refine tr_sw (t := 177) (by rw [h35]; rfl) ?_
            refine tr_nil (rows2 := kb_124_177) rfl (List.cons_ne_nil _ _) ?_
            refine tr_blk 3 (pc' := 180) (rows' := kb_124_177.drop 3) (loc' := [.inr (12, 0, 0, 72), .inr (20, 366, 0, i1), .inr (20, 4, 0, i2), .inl (.int (P.1 i2 1)), .inl (.int v2)]) (st' := [.inl (.int (P.1 i2 1)), .inr (20, 366, 0, i1), .inr (12, 0, 0, 72)]) (P1 := P) rfl ⟨trivial, trivial, trivial, trivial⟩ ?_
            refine tr_cWI (z := km_146) (av := [.inr (12, 0, 0, 72), .inr (20, 366, 0, i1), .inl (.int (P.1 i2 1))]) (st' := []) rfl rfl rfl (Nat.le_of_ble_eq_true rfl) ⟨rfl, Or.inl (by decide)⟩ rfl (Nat.le_of_ble_eq_true rfl) (t_146_366 i1 N (P.1 i2 1) P) (fun v14 P13 => ?_)
            refine tr_blk 4 (pc' := 189) (rows' := kb_124_177.drop 8) (loc' := [.inr (12, 0, 0, 72), .inr (20, 366, 0, i1), .inr (20, 4, 0, i2), .inl (.int (P.1 i2 1)), .inl (.int v2)]) (st' := [.inl (.int (P13.1 76 3)), .inl (.int v14)]) (P1 := P13) rfl ⟨trivial, trivial, trivial, (ab_vi (by decide)), trivial⟩ ?_
            refine tr_if (fun h36 => ?_) (fun h36 => ?_)
            · refine tr_icF (cd := .ge) (Int32.not_le.mpr h36) ?_
              refine tr_blk 1 (pc' := 193) (rows' := kb_124_177.drop 10) (loc' := [.inr (12, 0, 0, 72), .inr (20, 366, 0, i1), .inr (20, 4, 0, i2), .inl (.int (P.1 i2 1)), .inl (.int v2)]) (st' := [.inl (.int (0 : Int32))]) (P1 := P13) rfl ⟨trivial, trivial⟩ ?_
              exact tr_reI (z := km_124) rfl ⟨_, rfl, rfl⟩ rfl
            · refine tr_icT (cd := .ge) (Int32.not_lt.mp h36) ?_
              refine tr_nil (rows2 := kb_124_194) rfl (List.cons_ne_nil _ _) ?_
              refine tr_blk 3 (pc' := 197) (rows' := kb_124_194.drop 3) (loc' := [.inr (12, 0, 0, 72), .inr (20, 366, 0, i1), .inr (20, 4, 0, i2), .inl (.int (P.1 i2 1)), .inl (.int v2)]) (st' := [.inl (.int (1 : Int32)), .inl (.int (P.1 i2 1)), .inr (20, 366, 0, i1)]) (P1 := P13) rfl ⟨trivial, trivial, trivial, trivial⟩ ?_
              refine tr_cWV (z := km_223) (av := [.inr (20, 366, 0, i1), .inl (.int (P.1 i2 1)), .inl (.int (1 : Int32))]) (st' := []) rfl rfl rfl (Nat.le_of_ble_eq_true rfl) trivial rfl (Nat.le_of_ble_eq_true rfl) (t_223_366 i1 (P.1 i2 1) (1 : Int32) P13) (fun P15 => ?_)
              refine tr_blk 1 (pc' := 201) (rows' := kb_124_194.drop 5) (loc' := [.inr (12, 0, 0, 72), .inr (20, 366, 0, i1), .inr (20, 4, 0, i2), .inl (.int (P.1 i2 1)), .inl (.int v2)]) (st' := [.inl (.int (1 : Int32))]) (P1 := P15) rfl ⟨trivial, trivial⟩ ?_
              exact tr_reI (z := km_124) rfl ⟨_, rfl, rfl⟩ rfl
          refine tr_if (fun h37 => ?_) (fun h37 => ?_)
          · refine tr_sw (t := 202) (by rw [h37]; rfl) ?_
            refine tr_nil (rows2 := kb_124_202) rfl (List.cons_ne_nil _ _) ?_
            refine tr_blk 4 (pc' := 207) (rows' := kb_124_202.drop 4) (loc' := [.inr (12, 0, 0, 72), .inr (20, 366, 0, i1), .inr (20, 4, 0, i2), .inl (.int (P.1 i2 1)), .inl (.int v2)]) (st' := [.inl (.int v2), .inl (.int (P.1 i2 2))]) (P1 := P) rfl ⟨trivial, trivial, (ab_vi (by decide)), trivial, trivial⟩ ?_
            refine tr_if (fun h38 => ?_) (fun h38 => ?_)
            · refine tr_icT (cd := .eq) h38 ?_
              refine tr_nil (rows2 := kb_124_241) rfl (List.cons_ne_nil _ _) ?_
              refine tr_blk 1 (pc' := 242) (rows' := kb_124_241.drop 1) (loc' := [.inr (12, 0, 0, 72), .inr (20, 366, 0, i1), .inr (20, 4, 0, i2), .inl (.int (P.1 i2 1)), .inl (.int v2)]) (st' := [.inl (.int (0 : Int32))]) (P1 := P) rfl ⟨trivial, trivial⟩ ?_
              refine tr_nil (rows2 := kb_124_242) rfl (List.cons_ne_nil _ _) ?_
              exact tr_reI (z := km_124) rfl ⟨_, rfl, rfl⟩ rfl
            · refine tr_icF (cd := .eq) h38 ?_
              refine tr_blk 6 (pc' := 216) (rows' := kb_124_202.drop 11) (loc' := [.inr (12, 0, 0, 72), .inr (20, 366, 0, i1), .inr (20, 4, 0, i2), .inl (.int (P.1 i2 1)), .inl (.int v2)]) (st' := [.inl (.int (0 : Int32)), .inl (.int (P.1 i2 1)), .inr (20, 366, 0, i1), .inl (.int (P.1 i2 2))]) (P1 := P) rfl ⟨trivial, trivial, (ab_vi (by decide)), trivial, trivial, trivial, trivial⟩ ?_
              refine tr_cRI (z := km_135) (av := [.inr (20, 366, 0, i1), .inl (.int (P.1 i2 1)), .inl (.int (0 : Int32))]) (st' := [.inl (.int (P.1 i2 2))]) rfl rfl rfl (Nat.le_of_ble_eq_true rfl) trivial rfl (Nat.le_of_ble_eq_true rfl) (t_135_366 i1 P (P.1 i2 1) (0 : Int32)) (fun v16 => ?_)
              refine tr_if (fun h39 => ?_) (fun h39 => ?_)
              · refine tr_icT (cd := .eq) h39 ?_
                refine tr_nil (rows2 := kb_124_241) rfl (List.cons_ne_nil _ _) ?_
                refine tr_blk 1 (pc' := 242) (rows' := kb_124_241.drop 1) (loc' := [.inr (12, 0, 0, 72), .inr (20, 366, 0, i1), .inr (20, 4, 0, i2), .inl (.int (P.1 i2 1)), .inl (.int v2)]) (st' := [.inl (.int (0 : Int32))]) (P1 := P) rfl ⟨trivial, trivial⟩ ?_
                refine tr_nil (rows2 := kb_124_242) rfl (List.cons_ne_nil _ _) ?_
                exact tr_reI (z := km_124) rfl ⟨_, rfl, rfl⟩ rfl
              · refine tr_icF (cd := .eq) h39 ?_
                refine tr_blk 7 (pc' := 230) (rows' := kb_124_202.drop 20) (loc' := [.inr (12, 0, 0, 72), .inr (20, 366, 0, i1), .inr (20, 4, 0, i2), .inl (.int (P.1 i2 1)), .inl (.int v2)]) (st' := [.inl (.int (1 : Int32)), .inl (.int (1 : Int32)), .inl (.int v2), .inl (.int (P.1 i2 2)), .inr (20, 366, 0, i1)]) (P1 := P) rfl ⟨trivial, trivial, trivial, (ab_vi (by decide)), trivial, trivial, trivial, trivial⟩ ?_
                refine tr_cWI (z := km_197) (av := [.inr (20, 366, 0, i1), .inl (.int (P.1 i2 2)), .inl (.int v2), .inl (.int (1 : Int32)), .inl (.int (1 : Int32))]) (st' := []) rfl rfl rfl (Nat.le_of_ble_eq_true rfl) trivial rfl (Nat.le_of_ble_eq_true rfl) (t_197_366 i1 (P.1 i2 2) v2 (1 : Int32) (1 : Int32) P) (fun v18 P17 => ?_)
                refine tr_blk 1 (pc' := 234) (rows' := kb_124_202.drop 22) (loc' := [.inr (12, 0, 0, 72), .inr (20, 366, 0, i1), .inr (20, 4, 0, i2), .inl (.int (P.1 i2 1)), .inl (.int v2)]) (st' := [.inl (.int (-1 : Int32)), .inl (.int v18)]) (P1 := P17) rfl ⟨trivial, trivial⟩ ?_
                refine tr_if (fun h40 => ?_) (fun h40 => ?_)
                · refine tr_icT (cd := .eq) h40 ?_
                  refine tr_nil (rows2 := kb_124_241) rfl (List.cons_ne_nil _ _) ?_
                  refine tr_blk 1 (pc' := 242) (rows' := kb_124_241.drop 1) (loc' := [.inr (12, 0, 0, 72), .inr (20, 366, 0, i1), .inr (20, 4, 0, i2), .inl (.int (P.1 i2 1)), .inl (.int v2)]) (st' := [.inl (.int (0 : Int32))]) (P1 := P17) rfl ⟨trivial, trivial⟩ ?_
                  refine tr_nil (rows2 := kb_124_242) rfl (List.cons_ne_nil _ _) ?_
                  exact tr_reI (z := km_124) rfl ⟨_, rfl, rfl⟩ rfl
                · refine tr_icF (cd := .eq) h40 ?_
                  refine tr_blk 1 (pc' := 238) (rows' := kb_124_202.drop 24) (loc' := [.inr (12, 0, 0, 72), .inr (20, 366, 0, i1), .inr (20, 4, 0, i2), .inl (.int (P.1 i2 1)), .inl (.int v2)]) (st' := [.inl (.int (1 : Int32))]) (P1 := P17) rfl ⟨trivial, trivial⟩ ?_
                  refine tr_goto ?_
                  refine tr_nil (rows2 := kb_124_242) rfl (List.cons_ne_nil _ _) ?_
                  exact tr_reI (z := km_124) rfl ⟨_, rfl, rfl⟩ rfl
          refine tr_sw (t := 243) (ab_swd (k := 6) (by decide) rfl ⟨ab_nei h30 (by decide), ab_nei h32 (by decide), ab_nei h33 (by decide), ab_nei h34 (by decide), ab_nei h35 (by decide), ab_nei h37 (by decide), trivial⟩) ?_
          refine tr_nil (rows2 := kb_124_243) rfl (List.cons_ne_nil _ _) ?_
          refine tr_blk 3 (pc' := 246) (rows' := kb_124_243.drop 3) (loc' := [.inr (12, 0, 0, 72), .inr (20, 366, 0, i1), .inr (20, 4, 0, i2), .inl (.int (P.1 i2 1)), .inl (.int v2)]) (st' := [.inl (.int (2 : Int32)), .inl (.int (P.1 i2 1)), .inr (20, 366, 0, i1)]) (P1 := P) rfl ⟨trivial, trivial, trivial, trivial⟩ ?_
          refine tr_cWV (z := km_223) (av := [.inr (20, 366, 0, i1), .inl (.int (P.1 i2 1)), .inl (.int (2 : Int32))]) (st' := []) rfl rfl rfl (Nat.le_of_ble_eq_true rfl) trivial rfl (Nat.le_of_ble_eq_true rfl) (t_223_366 i1 (P.1 i2 1) (2 : Int32) P) (fun P19 => ?_)
          refine tr_blk 1 (pc' := 250) (rows' := kb_124_243.drop 5) (loc' := [.inr (12, 0, 0, 72), .inr (20, 366, 0, i1), .inr (20, 4, 0, i2), .inl (.int (P.1 i2 1)), .inl (.int v2)]) (st' := [.inl (.int (1 : Int32))]) (P1 := P19) rfl ⟨trivial, trivial⟩ ?_
          exact tr_reI (z := km_124) rfl ⟨_, rfl, rfl⟩ rfl
