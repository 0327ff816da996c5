/-! the words of the tables that a callee may take over, and the classes by their numbers -/
def ab_G : List Cond := lw_tbl.filter goodWord
theorem ab_G_in {w : Cond} (i : Nat) (h : decide (lw_tbl[i]? = some w) = true) (hg : goodWord w = true) : w ∈ ab_G := List.mem_filter.mpr ⟨List.mem_of_getElem? (of_decide_eq_true h), hg⟩
theorem ab_G_good {w : Cond} (h : w ∈ ab_G) : (w.onTables && w.keeps) = true ∨ ∃ ty, w = .arrayClass ty := good_of_word (List.mem_filter.mp h).2
set_option maxRecDepth 100000 in
theorem ab_in0 : ∀ w ∈ u_ws RX0 TX0 14, w ∈ ab_G := by decide +kernel
set_option maxRecDepth 100000 in
theorem ab_in1 : ∀ w ∈ u_ws RX1 TX1 11, w ∈ ab_G := by decide +kernel
set_option maxRecDepth 100000 in
theorem ab_in2 : ∀ w ∈ u_ws RX2 TX2 7, w ∈ ab_G := by decide +kernel
set_option maxRecDepth 100000 in
theorem ab_in3 : ∀ w ∈ u_ws RX3 TX3 7, w ∈ ab_G := by decide +kernel
set_option maxRecDepth 100000 in
theorem ab_in4 : ∀ w ∈ u_ws RX4 TX4 6, w ∈ ab_G := by decide +kernel
set_option maxRecDepth 100000 in
theorem ab_in5 : ∀ w ∈ u_ws RX5 TX5 3, w ∈ ab_G := by decide +kernel
set_option maxRecDepth 100000 in
theorem ab_in6 : ∀ w ∈ u_ws RX6 TX6 4, w ∈ ab_G := by decide +kernel
set_option maxRecDepth 100000 in
theorem ab_in7 : ∀ w ∈ u_ws RX7 TX7 5, w ∈ ab_G := by decide +kernel
set_option maxRecDepth 100000 in
theorem ab_in8 : ∀ w ∈ u_ws RX8 TX8 3, w ∈ ab_G := by decide +kernel
set_option maxRecDepth 100000 in
theorem ab_in9 : ∀ w ∈ u_ws RX9 TX9 7, w ∈ ab_G := by decide +kernel
set_option maxRecDepth 100000 in
theorem ab_in10 : ∀ w ∈ u_ws RX10 TX10 9, w ∈ ab_G := by decide +kernel
set_option maxRecDepth 100000 in
theorem ab_in11 : ∀ w ∈ u_ws RX11 TX11 15, w ∈ ab_G := by decide +kernel
set_option maxRecDepth 100000 in
theorem ab_in12 : ∀ w ∈ u_ws RX12 TX12 45, w ∈ ab_G := by decide +kernel
/-- the types of the fields by classes -/
def ab_ty : Nat → Nat → FieldType := fun k => match k with
  | 0 => tyX0
  | 1 => tyX1
  | 2 => tyX2
  | 3 => tyX3
  | 4 => tyX4
  | 5 => tyX5
  | 6 => tyX6
  | 7 => tyX7
  | 8 => tyX8
  | 9 => tyX9
  | 10 => tyX10
  | 11 => tyX11
  | 12 => tyX12
  | _ => fun _ => .int
def ab_tyok (k : Nat) (q : vw_C) : Prop := (∀ w ∈ u_ws q.1 q.2.1 q.2.2, w ∈ ab_G) ∧ (∀ j, j < q.2.2 → parseFieldDescriptor (q.2.1 j).2.2.1 = some (ab_ty k j)) ∧ (∀ a, a < q.2.2 → ∀ b, b < q.2.2 → a ≠ b → (q.2.1 a).2.1 ≠ (q.2.1 b).2.1) ∧ (ab_lay k).length = q.2.2 ∧ (∀ j, j < q.2.2 → (q.2.1 j).1 = q.1 ∧ (((ab_lay k)[j]? = some 0 ∧ ab_ty k j = .int) ∨ ((ab_lay k)[j]? = some 1 ∧ ab_ty k j = .long) ∨ ((ab_lay k)[j]? = some 2 ∧ (ab_ty k j).isReference = true)))
theorem ab_ty0 : ab_tyok 0 (RX0, TX0, 14) := ⟨ab_in0, tyX0_ok, nmX0, rfl, by decide +kernel⟩
theorem ab_ty1 : ab_tyok 1 (RX1, TX1, 11) := ⟨ab_in1, tyX1_ok, nmX1, rfl, by decide +kernel⟩
theorem ab_ty2 : ab_tyok 2 (RX2, TX2, 7) := ⟨ab_in2, tyX2_ok, nmX2, rfl, by decide +kernel⟩
theorem ab_ty3 : ab_tyok 3 (RX3, TX3, 7) := ⟨ab_in3, tyX3_ok, nmX3, rfl, by decide +kernel⟩
theorem ab_ty4 : ab_tyok 4 (RX4, TX4, 6) := ⟨ab_in4, tyX4_ok, nmX4, rfl, by decide +kernel⟩
theorem ab_ty5 : ab_tyok 5 (RX5, TX5, 3) := ⟨ab_in5, tyX5_ok, nmX5, rfl, by decide +kernel⟩
theorem ab_ty6 : ab_tyok 6 (RX6, TX6, 4) := ⟨ab_in6, tyX6_ok, nmX6, rfl, by decide +kernel⟩
theorem ab_ty7 : ab_tyok 7 (RX7, TX7, 5) := ⟨ab_in7, tyX7_ok, nmX7, rfl, by decide +kernel⟩
theorem ab_ty8 : ab_tyok 8 (RX8, TX8, 3) := ⟨ab_in8, tyX8_ok, nmX8, rfl, by decide +kernel⟩
theorem ab_ty9 : ab_tyok 9 (RX9, TX9, 7) := ⟨ab_in9, tyX9_ok, nmX9, rfl, by decide +kernel⟩
theorem ab_ty10 : ab_tyok 10 (RX10, TX10, 9) := ⟨ab_in10, tyX10_ok, nmX10, rfl, by decide +kernel⟩
theorem ab_ty11 : ab_tyok 11 (RX11, TX11, 15) := ⟨ab_in11, tyX11_ok, nmX11, rfl, by decide +kernel⟩
theorem ab_ty12 : ab_tyok 12 (RX12, TX12, 45) := ⟨ab_in12, tyX12_ok, nmX12, rfl, by decide +kernel⟩
theorem ab_tyall {k : Nat} {q : vw_C} (h : ab_cls[k]? = some q) : ab_tyok k q := by
  match k, h with
  | 0, h => cases h; exact ab_ty0
  | 1, h => cases h; exact ab_ty1
  | 2, h => cases h; exact ab_ty2
  | 3, h => cases h; exact ab_ty3
  | 4, h => cases h; exact ab_ty4
  | 5, h => cases h; exact ab_ty5
  | 6, h => cases h; exact ab_ty6
  | 7, h => cases h; exact ab_ty7
  | 8, h => cases h; exact ab_ty8
  | 9, h => cases h; exact ab_ty9
  | 10, h => cases h; exact ab_ty10
  | 11, h => cases h; exact ab_ty11
  | 12, h => cases h; exact ab_ty12
  | k + 13, h => simp at h
theorem ab_cls_at {k : Nat} (h : k < 13) : ∃ q, ab_cls[k]? = some q := ⟨_, List.getElem?_eq_getElem (by exact h)⟩
