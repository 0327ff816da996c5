/-! the law's own start -/
def iz0 : Nat → Nat → Int32 := fun _ _ => 0
def lz0 : Nat → Nat → Int64 := fun _ _ => 0
def sz0 : Nat → Nat × Nat × Nat := fun _ => (0, 0, 0)
def wI1 : Nat → Nat → Int32 := ab_rowI (mI_1_0 (ab_rowI iz0 0 (fun _ => 0))) 72 (fun _ => 0)
def wL1 : Nat → Nat → Int64 := ab_rowL (mL_1_0 (ab_rowL lz0 0 (fun _ => 0))) 72 (fun _ => 0)
def wS1 : Nat → Nat × Nat × Nat := ab_upS (mS_1_0 (ab_upS sz0 0 (11, 0, 0))) 72 (12, 0, 0)
def wc1 : Nat := mc_1_0 (0 + 1) + 1
def ws1 : Nat := ms_1_0 (0 + 15) + 45
def pM1 : ab_P := pM7 (pM wI1 wL1 wS1 wc1 ws1)
def pW (Ia : Nat → Nat → Int32) (La : Nat → Nat → Int64) : ab_P := (ab_rowI Ia 570 (fun _ => 0), ab_rowL La 570 (fun _ => 0), fun _ _ => none, ab_upS (mS_2 wS1) 570 (22, 1, 0), 571, mc_2 wc1 + 1, ms_2 ws1 + 1)
theorem n_0 {xs : Nat × (Nat → Int32)} {d K N : Nat} {Ia : Nat → Nat → Int32} {La : Nat → Nat → Int64} {r : Int32 × ab_P} (h : f_108 N pM1 = some (Ia, La, fun _ _ => none, mS_2 wS1, 570, mc_2 wc1, ms_2 ws1)) (hd : 3 * K ≤ d) (hl : f_0_23 xs K N N 0 (pW Ia La) = some r) : nuT xs (d + 10) 0 0 [] [.inr (31, xs.1, 0, 0), ab_top, ab_top, ab_top, ab_top, ab_top, ab_top, ab_top] [] (iz0, lz0, hR [], sz0, 0, 0, 0) (iI r.1) (ab_mk r.2) := by
  refine nu_nil (rows2 := kb_0_0) rfl (List.cons_ne_nil _ _) ?_
  refine nu_blk 2 (pc' := 4) (rows' := kb_0_0.drop 2) (loc' := [.inr (31, xs.1, 0, 0), ab_top, ab_top, ab_top, ab_top, ab_top, ab_top, ab_top]) (st' := [.inr (11, 0, 0, 0), .inr (11, 0, 0, 0)]) (M1 := (ab_rowI iz0 0 (fun _ => 0), ab_rowL lz0 0 (fun _ => 0), ab_rowR (hR []) 11 0 (fun _ => ab_nul), ab_upS sz0 0 (11, 0, 0), 1, 0 + 1, 0 + 15)) rfl ⟨trivial, trivial, trivial⟩ ?_
  rw [hR_obj]
  refine nu_call (z := km_1) (av := [.inr (11, 0, 0, 0)]) (st' := [.inr (11, 0, 0, 0)]) rfl rfl rfl (Nat.le_of_ble_eq_true rfl) (show (11 : Nat) < 13 by decide) rfl (Nat.le_of_ble_eq_true rfl) n_1_0 ?_
  refine nu_blk 3 (pc' := 12) (rows' := kb_0_0.drop 6) (loc' := [.inr (31, xs.1, 0, 0), .inr (11, 0, 0, 0), ab_top, ab_top, ab_top, ab_top, ab_top, ab_top]) (st' := [.inr (12, 0, 0, 72), .inr (12, 0, 0, 72)]) (M1 := (wI1, wL1, ab_rowR (hR []) 12 72 (fun _ => ab_nul), wS1, 73, wc1, ws1)) rfl ⟨trivial, trivial, trivial, trivial⟩ ?_
  rw [hR_obj]
  refine nu_call (z := km_2) (av := [.inr (12, 0, 0, 72)]) (st' := [.inr (12, 0, 0, 72)]) rfl rfl rfl (Nat.le_of_ble_eq_true rfl) (show (12 : Nat) < 13 by decide) rfl (Nat.le_of_ble_eq_true rfl) (n_2 h) ?_
  refine nu_blk 6 (pc' := 23) (rows' := []) (loc' := [.inr (31, xs.1, 0, 0), .inr (11, 0, 0, 0), .inr (12, 0, 0, 72), .inr (22, 1, 0, 570), .inl (.int 0), ab_top, ab_top, ab_top]) (st' := []) (M1 := (ab_rowI Ia 570 (fun _ => 0), ab_rowL La 570 (fun _ => 0), ab_rowR wNo 22 570 (fun _ => ab_nul), ab_upS (mS_2 wS1) 570 (22, 1, 0), 571, mc_2 wc1 + 1, ms_2 ws1 + 1)) rfl ⟨trivial, trivial, ⟨by decide, by decide⟩, trivial, trivial, trivial, trivial⟩ ?_
  rw [show ab_rowR wNo 22 570 (fun _ => ab_nul) = wNo from hR_arr (Hs := []) (fun j => rfl)]
  exact t_0_23 xs (d := d) K N hd N 0 ab_top ab_top (pW Ia La) r hl
