/-! all that both sides hold between two calls -/
abbrev GS : Type := (Nat → Nat) × Nat × Int32 × WO × HS × BK × Int32 × (Nat → Int32)
abbrev GS.B (g : GS) : Nat → Nat := g.1
abbrev GS.F (g : GS) : Nat := g.2.1
abbrev GS.pl (g : GS) : Int32 := g.2.2.1
abbrev GS.W (g : GS) : WO := g.2.2.2.1
abbrev GS.H (g : GS) : HS := g.2.2.2.2.1
abbrev GS.K (g : GS) : BK := g.2.2.2.2.2.1
abbrev GS.rd (g : GS) : Int32 := g.2.2.2.2.2.2.1
abbrev GS.rf (g : GS) : Nat → Int32 := g.2.2.2.2.2.2.2
def GOK (g : GS) : Prop := (∀ j, g.B j < 256) ∧ g.F ≤ 600 ∧ OK g.W ∧ okH g.W.pe g.H ∧ okB g.W.pe g.K
def CREL (g : GS) (P : ab_P) : Prop := P.1 1 1 = iN g.F ∧ (∀ j, j < 600 → P.1 2 j &&& (255 : Int32) = iN (g.B j)) ∧ P.1 1 6 = g.pl ∧ CW g.W P ∧ CHI g.H P ∧ CB g.K P ∧ P.1 52 6 = g.rd ∧ ∀ j, j < 3 → P.1 71 j = g.rf j
def RREL (g : GS) (P : ab_P) : Prop := P.1 72 1 = iN g.F ∧ (∀ j, j < 600 → P.1 73 j = iN (g.B j)) ∧ P.1 72 3 = g.pl ∧ RW g.W P ∧ RHI g.H P ∧ RBk g.K P ∧ P.1 72 31 = g.rd ∧ ∀ j, j < 3 → P.1 74 j = g.rf j
theorem CB.keep {B : BK} {P P' : ab_P} (h : CB B P) (e : ∀ b j, (b = 21 ∧ j = 2) ∨ b = 22 ∨ b = 23 → P'.1 b j = P.1 b j) : CB B P' := ⟨(e 21 2 (by omega)).trans h.1, fun i hi => ⟨(e 22 i (by omega)).trans (h.2 i hi).1, (e 23 i (by omega)).trans (h.2 i hi).2⟩⟩
theorem RBk.keep {B : BK} {P P' : ab_P} (h : RBk B P) (h8 : B.1 ≤ 8) (e : ∀ b j, (b = 72 ∧ j = 29) ∨ (427 ≤ b ∧ b < 435) → P'.1 b j = P.1 b j) : RBk B P' := ⟨(e 72 29 (by omega)).trans h.1, fun i hi => ⟨(e _ _ (by omega)).trans (h.2 i hi).1, (e _ _ (by omega)).trans (h.2 i hi).2⟩⟩
def kCR (b j : Nat) : Prop := (b = 1 ∧ (j = 1 ∨ j = 6)) ∨ b = 2 ∨ (b = 3 ∧ (j = 5 ∨ j = 7)) ∨ b = 4 ∨ (b = 15 ∧ j = 1) ∨ b = 16 ∨ (b = 21 ∧ j = 2) ∨ b = 22 ∨ b = 23 ∨ (b = 43 ∧ (j = 2 ∨ j = 3)) ∨ b = 44 ∨ b = 45 ∨ (b = 46 ∧ j = 5) ∨ (b = 52 ∧ j = 6) ∨ b = 65 ∨ b = 69 ∨ b = 70 ∨ b = 71 ∨ 571 ≤ b
def kRR (b j : Nat) : Prop := (b = 72 ∧ (j = 1 ∨ j = 3 ∨ j = 16 ∨ j = 29 ∨ j = 30 ∨ j = 31 ∨ j = 32)) ∨ b = 73 ∨ b = 74 ∨ (105 ≤ b ∧ b ≤ 254) ∨ (b = 76 ∧ (j = 0 ∨ j = 2 ∨ j = 3)) ∨ b = 78 ∨ (427 ≤ b ∧ b < 435) ∨ b = 477 ∨ (480 ≤ b ∧ b < 504)
theorem kp_CR {b j : Nat} (h : kpW b j) : kCR b j := by
  unfold kpW at h
  rcases h with ⟨rfl, h⟩ | rfl | ⟨rfl, rfl⟩ | rfl | ⟨rfl, h⟩ | rfl | rfl | ⟨rfl, rfl⟩ <;> (unfold kCR; omega)
theorem kCR_sc {b j : Nat} (hb : kCR b j) : ¬ scC b j := by
  unfold kCR at hb
  rcases hb with ⟨rfl, hb⟩ | rfl | ⟨rfl, hb⟩ | rfl | ⟨rfl, rfl⟩ | rfl | ⟨rfl, rfl⟩ | rfl | rfl | ⟨rfl, hb⟩ | rfl | rfl | ⟨rfl, rfl⟩ | ⟨rfl, rfl⟩ | rfl | rfl | rfl | rfl | hb <;> (unfold scC; omega)
theorem kRR_sc {b j : Nat} (hb : kRR b j) : ¬ scR b j := by
  unfold kRR at hb
  rcases hb with ⟨rfl, hb⟩ | rfl | rfl | hb | ⟨rfl, hb⟩ | rfl | hb | rfl | hb <;> (unfold scR; omega)
theorem kq_RR {b j : Nat} (h : kqW b j) : kRR b j := by
  unfold kqW at h
  rcases h with ⟨rfl, rfl⟩ | h | ⟨rfl, h⟩ | rfl | rfl <;> (unfold kRR; omega)
theorem kCR_b {b j : Nat} (hb : kCR b j) : b < 72 ∨ 571 ≤ b := by
  unfold kCR at hb
  omega
theorem kRR_b {b j : Nat} (hb : kRR b j) : 72 ≤ b ∧ b < 570 ∧ ¬ (b = 72 ∧ j = 0) := by
  unfold kRR at hb
  omega
section RE
variable {g : GS} {P P' : ab_P}
theorem CREL.keep (h : CREL g P) (e2 : P'.2.2 = P.2.2) (e : ∀ b j, kCR b j → P'.1 b j = P.1 b j) : CREL g P' := by
  obtain ⟨h1, h2, h3, h4, h5, h6, h7, h8⟩ := h
  refine ⟨(e 1 1 (by unfold kCR; omega)).trans h1, fun j hj => by rw [e 2 j (by unfold kCR; omega)]; exact h2 j hj, (e 1 6 (by unfold kCR; omega)).trans h3, CW_keep h4 (fun b j hb => e b j (kp_CR hb)), h5.low e2 (fun b j hb => e b j (by unfold kCR; rcases hb with hb | rfl | rfl | rfl <;> omega)), h6.keep (fun b j hb => e b j (by unfold kCR; rcases hb with ⟨rfl, rfl⟩ | rfl | rfl <;> omega)), (e 52 6 (by unfold kCR; omega)).trans h7, fun j hj => (e 71 j (by unfold kCR; omega)).trans (h8 j hj)⟩
theorem RREL.keep (h : RREL g P) (ok : GOK g) (e : ∀ b j, kRR b j → P'.1 b j = P.1 b j) : RREL g P' := by
  obtain ⟨h1, h2, h3, h4, h5, h6, h7, h8⟩ := h
  obtain ⟨o1, o2, o3, o4, o5⟩ := ok
  refine ⟨(e 72 1 (by unfold kRR; omega)).trans h1, fun j hj => by rw [e 73 j (by unfold kRR; omega)]; exact h2 j hj, (e 72 3 (by unfold kRR; omega)).trans h3, RW_keep h4 o3.2.1 (fun b j hb => e b j (kq_RR hb)), RHI_keep h5 ⟨o4.1, o4.2.1⟩ (fun b j hb => e b j (by unfold kRR; rcases hb with ⟨rfl, hb⟩ | hb <;> omega)), h6.keep o5.1 (fun b j hb => e b j (by unfold kRR; rcases hb with ⟨rfl, rfl⟩ | hb <;> omega)), (e 72 31 (by unfold kRR; omega)).trans h7, fun j hj => (e 74 j (by unfold kRR; omega)).trans (h8 j hj)⟩
theorem CREL.scr (h : CREL g P) (f : fr scC P P') : CREL g P' := h.keep f.2.2 (fun b j hb => f.1 b j (kCR_sc hb))
theorem RREL.scr (h : RREL g P) (ok : GOK g) (f : fr scR P P') : RREL g P' := h.keep ok (fun b j hb => f.1 b j (kRR_sc hb))
/-- the component's places, the reference's places -/
def sCC (b : Nat) (_ : Nat) : Prop := b < 72 ∨ 570 ≤ b
def sRR (b : Nat) (_ : Nat) : Prop := 72 ≤ b ∧ b < 570
theorem CREL.xr (h : CREL g P) (f : fr sRR P P') : CREL g P' := h.keep f.2.2 (fun b j hb => f.1 b j (by have := kCR_b hb; unfold sRR; omega))
theorem RREL.xc (h : RREL g P) (ok : GOK g) (f : frI sCC P P') : RREL g P' := h.keep ok (fun b j hb => f.1 b j (by have := kRR_b hb; unfold sCC; omega))
theorem scC_C : ∀ b j, scC b j → sCC b j := fun b j h => by
  unfold scC at h
  unfold sCC
  omega
theorem scR_R : ∀ b j, scR b j → sRR b j := fun b j h => by
  unfold scR at h
  unfold sRR
  omega
/-- room taken by a call -/
def rmC (P P' : ab_P) : Prop := ccP P' ≤ ccP P + 64 ∧ ssP P' ≤ ssP P + 7760
theorem rmC.of (h : P'.2.2 = P.2.2) : rmC P P' := by
  unfold rmC ccP ssP
  rw [h]
  omega
theorem rmC.gg {c : Nat} (h : rmG P P' c) (hc : c ≤ 21) : rmC P P' := ⟨by have := h.1; omega, by have := h.2; omega⟩
/-- one more refused -/
def gRf (g : GS) (x : Nat) : GS := (g.1, g.2.1, g.2.2.1, g.2.2.2.1, g.2.2.2.2.1, g.2.2.2.2.2.1, g.2.2.2.2.2.2.1, fun j => if j = x then g.rf j + 1 else g.rf j)
theorem gRf_ok {x : Nat} (ok : GOK g) : GOK (gRf g x) := ok
theorem CREL.thr (h : CREL g P) (x : Nat) (hx : x < 3) : CREL (gRf g x) (ab_ex (ab_pI P 71 x (P.1 71 x + 1))) ∧ frI sCC P (ab_ex (ab_pI P 71 x (P.1 71 x + 1))) ∧ rmC P (ab_ex (ab_pI P 71 x (P.1 71 x + 1))) := by
  have hk : ∀ b j, b ≠ 71 → (ab_pI P 71 x (P.1 71 x + 1)).1 b j = P.1 b j := fun b j hb => pI_ne hb
  refine ⟨?_, ⟨fun b j hb => hk b j (by unfold sCC at hb; omega), fun b j hb => rfl⟩, ⟨Nat.add_le_add_left (by decide) _, Nat.add_le_add_left (by decide) _⟩⟩
  obtain ⟨h1, h2, h3, h4, h5, h6, h7, h8⟩ := h
  have h5' : CHI g.H (ab_pI P 71 x (P.1 71 x + 1)) := h5.low rfl (fun b j hb => hk b j (by omega))
  refine ⟨(hk 1 1 (by decide)).trans h1, fun j hj => (by rw [hk 2 j (by decide)]; exact h2 j hj : (ab_pI P 71 x (P.1 71 x + 1)).1 2 j &&& (255 : Int32) = iN (g.B j)), (hk 1 6 (by decide)).trans h3, ?_, h5', ?_, (hk 52 6 (by decide)).trans h7, fun j hj => ?_⟩
  · exact (CW_keep h4 (fun b j hb => hk b j (by unfold kpW at hb; omega)) : CW g.W (ab_pI P 71 x (P.1 71 x + 1)))
  · exact (h6.keep (fun b j hb => hk b j (by omega)) : CB g.K (ab_pI P 71 x (P.1 71 x + 1)))
  · show (ab_pI P 71 x (P.1 71 x + 1)).1 71 j = if j = x then g.rf j + 1 else g.rf j
    rw [pI_at]
    by_cases e : j = x
    · rw [if_pos ⟨rfl, e⟩, if_pos e, e, h8 x hx]
    · rw [if_neg (fun e9 => e e9.2), if_neg e]
      exact h8 j hj
/-! what a call answers, on either side: how it ends, what comes out, what is then -/
def CAx (g' : GS) (P : ab_P) (a : Nat) (v : Int32) (q : (Int32 ⊕ Fin 3) × ab_P) (ex : Fin 3) : Prop := (if a = 0 then q.1 = .inl v else q.1 = .inr ex) ∧ CREL g' q.2 ∧ frI sCC P q.2 ∧ rmC P q.2
/-- of the wrapper -/
def CA (g' : GS) (P : ab_P) (a : Nat) (v : Int64) (q : Int32 × ab_P) : Prop := q.1 = iN a ∧ (a = 0 → q.2.2.1 570 0 = v) ∧ CREL g' q.2 ∧ frI sCC P q.2 ∧ rmC P q.2
def RA (g' : GS) (P : ab_P) (a : Nat) (v : Int64) (q : Int32 × ab_P) : Prop := (a = 0 → q.1.toInt64 = v) ∧ q.2.1 72 0 = iN a ∧ RREL g' q.2 ∧ fr sRR P q.2
def RAL (g' : GS) (P : ab_P) (a : Nat) (v : Int64) (q : Int64 × ab_P) : Prop := (a = 0 → q.1 = v) ∧ q.2.1 72 0 = iN a ∧ RREL g' q.2 ∧ fr sRR P q.2
theorem CREL.L570 (h : CREL g P) (x : Int64) : CREL g (ab_pL P 570 0 x) := h.keep rfl (fun b j hb => rfl)
/-- bits of the wrappers: an answer is put down, a throw is told -/
theorem ca_put {g' : GS} {P1 : ab_P} {v : Int64} (h : CREL g' P1) (f : frI sCC P P1) (r : rmC P P1) : CA g' P 0 v ((0 : Int32), ab_pL P1 570 0 v) := by
  refine ⟨rfl, fun _ => ?_, h.L570 v, f.tr ⟨fun _ _ _ => rfl, fun b j hb => ?_⟩, r⟩
  · rw [pL_at, if_pos ⟨rfl, rfl⟩]
  · rw [pL_at, if_neg (fun e => hb (by unfold sCC; omega))]
theorem ca_thr {g' : GS} {P1 : ab_P} {a : Nat} {x : Int32} {v : Int64} (hx : x = iN a) (ha : a ≠ 0) (h : CREL g' P1) (f : frI sCC P P1) (r : rmC P P1) : CA g' P a v (x, P1) := ⟨hx, fun e => absurd e ha, h, f, r⟩
/-- the reference's start and its refusals -/
theorem RREL.t0 (h : RREL g P) (ok : GOK g) : RREL g (ab_pI P 72 0 0) := h.keep ok (fun b j hb => by rw [pI_at, if_neg (kRR_b hb).2.2])
theorem r_bad0 (P : ab_P) (a b : Int32) (h : P.1 72 0 = 0) : f_113 0 a b P = some (0, P) := by
  unfold f_113
  rw [if_pos rfl, if_pos h]
theorem r_bad1 {a x : Nat} (ha : 1 ≤ a) (ha3 : a ≤ 3) (hx : x < 3) (h : RREL g P) (ok : GOK g) (h0 : P.1 72 0 = 0) : ∃ P1, f_113 1 (iN a) (iN x) P = some (1, P1) ∧ P1.1 72 0 = iN a ∧ RREL (gRf g x) P1 ∧ fr sRR P P1 := by
  have e0 : (ab_pI (ab_pI P 72 0 (iN a)) 74 x ((ab_pI P 72 0 (iN a)).1 74 x + 1)).1 72 0 = iN a := by rw [pI_ne (by decide), pI_eq]
  refine ⟨ab_pI (ab_pI P 72 0 (iN a)) 74 x ((ab_pI P 72 0 (iN a)).1 74 x + 1), ?_, e0, ?_, ?_⟩
  · unfold f_113
    rw [if_neg (by decide), if_pos h0]
    show (if ab_gi (iN x) 3 then _ else none) = _
    rw [if_pos (iN_gi hx (by decide)), if_pos (iN_gi hx (by decide)), iN_nat (by omega)]
    show (if (ab_pI (ab_pI P 72 0 (iN a)) 74 x ((ab_pI P 72 0 (iN a)).1 74 x + 1)).1 72 0 = 0 then _ else _) = _
    rw [if_neg (by rw [e0]; exact f_ne rfl ha ha3)]
  · have hk : ∀ b j, b ≠ 74 → ¬ (b = 72 ∧ j = 0) → (ab_pI (ab_pI P 72 0 (iN a)) 74 x ((ab_pI P 72 0 (iN a)).1 74 x + 1)).1 b j = P.1 b j := fun b j hb h9 => by
      rw [pI_ne hb, pI_at, if_neg h9]
    obtain ⟨h1, h2, h3, h4, h5, h6, h7, h8⟩ := h
    obtain ⟨o1, o2, o3, o4, o5⟩ := ok
    refine ⟨(hk 72 1 (by decide) (by decide)).trans h1, fun j hj => (hk 73 j (by decide) (by omega)).trans (h2 j hj), (hk 72 3 (by decide) (by decide)).trans h3, RW_keep h4 o3.2.1 (fun b j hb => hk b j (by unfold kqW at hb; omega) (by unfold kqW at hb; omega)), RHI_keep h5 ⟨o4.1, o4.2.1⟩ (fun b j hb => hk b j (by omega) (by omega)), h6.keep o5.1 (fun b j hb => hk b j (by omega) (by omega)), (hk 72 31 (by decide) (by decide)).trans h7, fun j hj => ?_⟩
    show _ = if j = x then g.rf j + 1 else g.rf j
    rw [pI_at]
    by_cases e : j = x
    · rw [if_pos ⟨rfl, e⟩, if_pos e, pI_ne (by decide), e, h8 x hx]
    · rw [if_neg (fun e9 => e e9.2), if_neg e, pI_ne (by decide)]
      exact h8 j hj
  · exact (fr.I (by unfold sRR; omega)).tr (fr.I (by unfold sRR; omega))
end RE
