/-! a town stands: both sides -/
def L00 : LG := (fun _ _ => 0, 0, 0, fun _ => 0)
def tnLed (D : TD) : Nat → LG
  | 0 => L00
  | k + 1 => sAdd (tnLed D k) (iN (D.2.2.2.1 k).1) (iN (D.2.2.2.1 k).2.1) (iN (D.2.2.2.1 k).2.2.1) (iN (D.2.2.2.1 k).2.2.2)
theorem tnLed_m (D : TD) : ∀ k, k ≤ 40 → (tnLed D k).2.1 = k
  | 0, _ => rfl
  | k + 1, h => by
    have := tnLed_m D k (by omega)
    unfold tnLed sAdd
    rw [if_pos (by omega)]
    show (tnLed D k).2.1 + 1 = k + 1
    rw [this]
theorem tnLed_WF {D : TD} (ok : okD D) : ∀ k, k ≤ D.2.2.1 → WF D.1 (tnLed D k)
  | 0, _ => ⟨ok.1, fun k hk => absurd hk (Nat.not_lt_zero k)⟩
  | k + 1, h => by
    obtain ⟨a1, a2, a3, a4, a5⟩ := ok.2.2.2.2.2 k (by omega)
    refine WF_add (tnLed_WF ok k (by omega)) ⟨_, a1, rfl⟩ ⟨_, a2, rfl⟩ ⟨_, a3, by omega, rfl⟩ ?_
    rcases (show (D.2.2.2.1 k).2.2.2 = 0 ∨ (D.2.2.2.1 k).2.2.2 = 1 by omega) with e | e
    · rw [e]; exact Or.inl rfl
    · rw [e]; exact Or.inr rfl
def tnW (D : TD) : WO := (tnLed D D.2.2.1, wLaw, fun j => iN (D.2.1 j), D.1, D.2.2.2.2.1, iN D.2.2.2.2.2)
theorem tnW_ok {D : TD} (ok : okD D) : OK (tnW D) := ⟨tnLed_WF ok _ (Nat.le_refl _), wLaw_WF, ok.2.2.1⟩
/-- what is then -/
def gFail (g : GS) (p : Int32) : GS := (g.1, 0, p, g.2.2.2)
def gTown (g : GS) (D : TD) : GS := (g.1, 0, -1, tnW D, ((0, g.H.1.2), (0, g.H.2.2)), (0, g.K.2), 0, g.rf)
theorem gFail_ok {g : GS} {p : Int32} (ok : GOK g) : GOK (gFail g p) := ⟨ok.1, Nat.zero_le _, ok.2.2⟩
theorem gTown_ok {g : GS} {D : TD} (ok : GOK g) (okd : okD D) : GOK (gTown g D) := ⟨ok.1, Nat.zero_le _, tnW_ok okd, ⟨Nat.zero_le _, Nat.zero_le _, fun j hj => absurd hj (Nat.not_lt_zero j), fun m hm => absurd hm (Nat.not_lt_zero m)⟩, ⟨Nat.zero_le _, fun i hi => absurd hi (Nat.not_lt_zero i)⟩⟩
section ST
variable {g : GS} {T : TX} {D : TD} {P : ab_P} {N n m : Nat} {s : RS}
theorem CREL.text {P' : ab_P} {F' : Nat} {pl' : Int32} (h : CREL g P) (e2 : P'.2.2 = P.2.2) (e : ∀ b j, kCR b j → b ≠ 1 → P'.1 b j = P.1 b j) (h1 : P'.1 1 1 = iN F') (h6 : P'.1 1 6 = pl') : CREL (g.1, F', pl', g.2.2.2) P' := by
  obtain ⟨_, h2, _, h4, h5, h6', h7, h8⟩ := h
  refine ⟨h1, fun j hj => by rw [e 2 j (by unfold kCR; omega) (by decide)]; exact h2 j hj, h6, CW_keep h4 (fun b j hb => e b j (kp_CR hb) (by unfold kpW at hb; omega)), h5.low e2 (fun b j hb => e b j (by unfold kCR; rcases hb with hb | rfl | rfl | rfl <;> omega) (by omega)), h6'.keep (fun b j hb => e b j (by unfold kCR; rcases hb with ⟨rfl, rfl⟩ | rfl | rfl <;> omega) (by omega)), (e 52 6 (by unfold kCR; omega) (by decide)).trans h7, fun j hj => (e 71 j (by unfold kCR; omega) (by decide)).trans (h8 j hj)⟩
theorem RREL.text {P' : ab_P} {F' : Nat} {pl' : Int32} (h : RREL g P) (ok : GOK g) (e : ∀ b j, kRR b j → ¬ (b = 72 ∧ (j = 1 ∨ j = 3)) → P'.1 b j = P.1 b j) (h1 : P'.1 72 1 = iN F') (h3 : P'.1 72 3 = pl') : RREL (g.1, F', pl', g.2.2.2) P' := by
  obtain ⟨_, h2, _, h4, h5, h6, h7, h8⟩ := h
  obtain ⟨o1, o2, o3, o4, o5⟩ := ok
  refine ⟨h1, fun j hj => by rw [e 73 j (by unfold kRR; omega) (by omega)]; exact h2 j hj, h3, RW_keep h4 o3.2.1 (fun b j hb => e b j (kq_RR hb) (by unfold kqW at hb; omega)), RHI_keep h5 ⟨o4.1, o4.2.1⟩ (fun b j hb => e b j (by unfold kRR; rcases hb with ⟨rfl, hb⟩ | hb <;> omega) (by omega)), h6.keep o5.1 (fun b j hb => e b j (by unfold kRR; rcases hb with ⟨rfl, rfl⟩ | hb <;> omega) (by omega)), (e 72 31 (by unfold kRR; omega) (by omega)).trans h7, fun j hj => (e 74 j (by unfold kRR; omega) (by omega)).trans (h8 j hj)⟩
/-! the start of a text -/
theorem c_refuse (P : ab_P) : f_228 0 P = some (.inr 1, ab_ex (ab_pI P 71 1 (P.1 71 1 + 1))) := rfl
theorem c_pass (P : ab_P) : f_228 1 P = some (.inl (), P) := rfl
theorem c_need (h : CREL g P) (a : Int32) (m : Nat) : f_198 a (iN m) P = if a < 0 ∨ iN m < a ∨ iN g.F < a then some (.inr 1, ab_ex (ab_pI P 71 1 (P.1 71 1 + 1))) else some (.inl (), P) := by
  unfold f_198
  rw [h.1, c_refuse, c_pass]
  by_cases h1 : a < 0
  · rw [if_pos h1, if_pos (Or.inl h1)]
    rfl
  · rw [if_neg h1]
    by_cases h2 : iN m < a
    · rw [if_pos h2, if_pos (Or.inr (Or.inl h2))]
      rfl
    · rw [if_neg h2]
      by_cases h3 : iN g.F < a
      · rw [if_pos h3, if_pos (Or.inr (Or.inr h3))]
        rfl
      · rw [if_neg h3, if_neg (by intro e; rcases e with e | e | e <;> contradiction)]
        rfl
theorem need_of {a : Int32} {F : Nat} (hF : F ≤ 600) (hm : m ≤ 600) (h : ¬ (a < 0 ∨ iN m < a ∨ iN F < a)) : ∃ n, n ≤ m ∧ n ≤ F ∧ a = iN n := by
  have h1 : ¬ a < 0 := fun e => h (Or.inl e)
  have h2 : ¬ iN m < a := fun e => h (Or.inr (Or.inl e))
  have h3 : ¬ iN F < a := fun e => h (Or.inr (Or.inr e))
  have h4 : a < iN 601 := by
    rw [Int32.not_lt] at h3
    exact Int32.lt_of_le_of_lt h3 (by rw [iN_lt (by omega) (by decide)]; omega)
  obtain ⟨n, _, rfl⟩ := iN_of h1 (by decide) h4
  rw [iN_lt (by omega) (by omega)] at h2 h3
  exact ⟨n, by omega, by omega, rfl⟩
theorem c_start (h : CREL g P) (ok : GOK g) (hn : n ≤ 600) : TT (f_199 (iN n) P) (fun r => CR (g.B, n) (.inl (sk (g.B, n) 0)) r ∧ r.1 1 1 = 0 ∧ fr (fun b _ => b = 1) P r) := by
  unfold f_199
  refine TT_lt (TT_lt (TT_lt (TT_lt (TT_lt (TT_lt (TT_some ⟨⟨⟨?_, fun j hj => ?_⟩, ?_, ?_, 0, ?_, Nat.zero_le _, rfl⟩, ?_, ?_⟩))))))
  · rw [pI_nj (by decide), pI_nj (by decide), pI_nj (by decide), pI_nj (by decide), pI_eq]
    show ab_mn (iN n) (iN 600) = iN n
    rw [mn_iN (by omega) (by decide), Nat.min_eq_left hn]
  · rw [pI_ne (by decide), pI_ne (by decide), pI_ne (by decide), pI_ne (by decide), pI_ne (by decide), pI_ne (by decide)]
    exact h.2.1 j hj
  · rw [pI_nj (by decide), pI_eq]
  · rw [pI_eq]
  · rw [pI_nj (by decide), pI_nj (by decide), pI_nj (by decide), pI_eq]
    rfl
  · rw [pI_nj (by decide), pI_nj (by decide), pI_nj (by decide), pI_nj (by decide), pI_nj (by decide), pI_eq]
  · exact (((((fr.I (by rfl)).tr (fr.I (by rfl))).tr (fr.I (by rfl))).tr (fr.I (by rfl))).tr (fr.I (by rfl))).tr (fr.I (by rfl))
theorem r_start (h : RREL g P) (ok : GOK g) (hn : n ≤ 600) (hN : 70000 ≤ N) : TT (f_114 N (iN n) P) (fun r => RR (g.B, n) (.inl (sk (g.B, n) 0)) r ∧ r.1 72 4 = iN (sk (g.B, n) 0) ∧ r.1 72 1 = 0 ∧ r.1 72 7 = 0 ∧ r.1 72 8 = 0 ∧ fr (fun b j => b = 72 ∧ (j = 1 ∨ j = 2 ∨ j = 4 ∨ j = 5 ∨ j = 6 ∨ j = 7 ∨ j = 8)) P r) := by
  have okT : okT (g.B, n) := ⟨hn, ok.1⟩
  unfold f_114
  refine TT_lt (TT_lt (TT_lt (TT_lt (TT_lt (TT_lt (TT_lt ?_))))))
  have g1 : RR (g.B, n) (.inl (sk (g.B, n) 0)) (ab_pI (ab_pI (ab_pI (ab_pI (ab_pI (ab_pI (ab_pI P 72 1 0) 72 2 (iN n)) 72 4 0) 72 5 0) 72 6 (-1)) 72 7 0) 72 8 0) := by
    refine ⟨⟨?_, fun j hj => ?_⟩, ?_, ?_, 0, ?_, Nat.zero_le _, rfl⟩
    · rw [pI_nj (by decide), pI_nj (by decide), pI_nj (by decide), pI_nj (by decide), pI_nj (by decide), pI_eq]
    · rw [pI_ne (by decide), pI_ne (by decide), pI_ne (by decide), pI_ne (by decide), pI_ne (by decide), pI_ne (by decide), pI_ne (by decide)]
      exact h.2.1 j hj
    · rw [pI_nj (by decide), pI_nj (by decide), pI_nj (by decide), pI_eq]
    · rw [pI_nj (by decide), pI_nj (by decide), pI_eq]
    · rw [pI_nj (by decide), pI_nj (by decide), pI_nj (by decide), pI_nj (by decide), pI_eq]
      rfl
  rw [r_blank g1 okT hN, Option.bind_some]
  refine TT_some ⟨g1.at', pI_eq, ?_, ?_, ?_, ?_⟩
  · rw [pI_nj (by decide), pI_nj (by decide), pI_nj (by decide), pI_nj (by decide), pI_nj (by decide), pI_nj (by decide), pI_nj (by decide), pI_eq]
  · rw [pI_nj (by decide), pI_nj (by decide), pI_eq]
  · rw [pI_nj (by decide), pI_eq]
  · exact (((((((fr.I (by omega)).tr (fr.I (by omega))).tr (fr.I (by omega))).tr (fr.I (by omega))).tr (fr.I (by omega))).tr (fr.I (by omega))).tr (fr.I (by omega))).tr (fr.I (by omega))
/-! the component's town -/
def CT3 (D : TD) (P : ab_P) : Prop := P.1 3 5 = iN D.1 ∧ P.1 3 6 = iN D.2.2.1 ∧ P.1 3 7 = iN D.2.2.2.2.1 ∧ P.1 3 8 = iN D.2.2.2.2.2 ∧ (∀ j, j < D.1 → P.1 4 j = iN (D.2.1 j)) ∧ ∀ j, j < D.2.2.1 → P.1 5 j = iN (D.2.2.2.1 j).1 ∧ P.1 6 j = iN (D.2.2.2.1 j).2.1 ∧ P.1 7 j = iN (D.2.2.2.1 j).2.2.1 ∧ P.1 8 j = iN (D.2.2.2.1 j).2.2.2
theorem CT3.keep {P' : ab_P} (h : CT3 D P) (e : ∀ b j, 3 ≤ b ∧ b ≤ 8 → P'.1 b j = P.1 b j) : CT3 D P' := by
  obtain ⟨h1, h2, h3, h4, h5, h6⟩ := h
  refine ⟨(e 3 5 (by decide)).trans h1, (e 3 6 (by decide)).trans h2, (e 3 7 (by decide)).trans h3, (e 3 8 (by decide)).trans h4, fun j hj => (e 4 j (by decide)).trans (h5 j hj), fun j hj => ?_⟩
  obtain ⟨a1, a2, a3, a4⟩ := h6 j hj
  exact ⟨(e 5 j (by decide)).trans a1, (e 6 j (by decide)).trans a2, (e 7 j (by decide)).trans a3, (e 8 j (by decide)).trans a4⟩
theorem c_tcopy (h : CTd D P) (ok : okD D) : TT (f_202 3 9 P) (fun r => CT3 D r ∧ fr (fun b _ => 3 ≤ b ∧ b ≤ 8) P r) := by
  obtain ⟨h1, h2, h3, h4, h5, h6⟩ := h
  have o1 := ok.1
  have o2 := ok.2.1
  unfold f_202
  refine TT_lt (TT_lt (TT_lt (TT_lt (TT_lt (TT_lt (TT_lt (TT_lt (TT_lt (TT_some ⟨⟨?_, ?_, ?_, ?_, fun j hj => ?_, fun j hj => ⟨?_, ?_, ?_, ?_⟩⟩, ?_⟩)))))))))
  · rw [pI_nj (by decide), pI_nj (by decide), pI_nj (by decide), pI_eq, pC_ne (by decide), pC_ne (by decide), pC_ne (by decide), pC_ne (by decide), pC_ne (by decide)]
    exact h1
  · rw [pI_nj (by decide), pI_nj (by decide), pI_eq, pI_ne (by decide), pC_ne (by decide), pC_ne (by decide), pC_ne (by decide), pC_ne (by decide), pC_ne (by decide)]
    exact h2
  · rw [pI_nj (by decide), pI_eq, pI_ne (by decide), pI_ne (by decide), pC_ne (by decide), pC_ne (by decide), pC_ne (by decide), pC_ne (by decide), pC_ne (by decide)]
    exact h3
  · rw [pI_eq, pI_ne (by decide), pI_ne (by decide), pI_ne (by decide), pC_ne (by decide), pC_ne (by decide), pC_ne (by decide), pC_ne (by decide), pC_ne (by decide)]
    exact h4
  · rw [pI_ne (by decide), pI_ne (by decide), pI_ne (by decide), pI_ne (by decide), pC_ne (by decide), pC_ne (by decide), pC_ne (by decide), pC_ne (by decide), pC_in (by omega)]
    exact h5 j hj
  · rw [pI_ne (by decide), pI_ne (by decide), pI_ne (by decide), pI_ne (by decide), pC_ne (by decide), pC_ne (by decide), pC_ne (by decide), pC_in (by omega), pC_ne (by decide)]
    exact (h6 j hj).1
  · rw [pI_ne (by decide), pI_ne (by decide), pI_ne (by decide), pI_ne (by decide), pC_ne (by decide), pC_ne (by decide), pC_in (by omega), pC_ne (by decide), pC_ne (by decide)]
    exact (h6 j hj).2.1
  · rw [pI_ne (by decide), pI_ne (by decide), pI_ne (by decide), pI_ne (by decide), pC_ne (by decide), pC_in (by omega), pC_ne (by decide), pC_ne (by decide), pC_ne (by decide)]
    exact (h6 j hj).2.2.1
  · rw [pI_ne (by decide), pI_ne (by decide), pI_ne (by decide), pI_ne (by decide), pC_in (by omega), pC_ne (by decide), pC_ne (by decide), pC_ne (by decide), pC_ne (by decide)]
    exact (h6 j hj).2.2.2
  · exact ((((((((fr.C (fun j => by omega)).tr (fr.C (fun j => by omega))).tr (fr.C (fun j => by omega))).tr (fr.C (fun j => by omega))).tr (fr.C (fun j => by omega))).tr (fr.I (by omega))).tr (fr.I (by omega))).tr (fr.I (by omega))).tr (fr.I (by omega))
theorem c_tsettle (h : CT3 D P) (ok : okD D) (hN : 70000 ≤ N) : TT (f_203 3 43 N P) (fun r => CL 43 (tnLed D D.2.2.1) r ∧ fr (sI 43) P r) := by
  have o2 := ok.2.1
  unfold f_203
  refine TT_bind (c_clear hN) (fun P0 h0 => ?_)
  refine upC (fun n k (s : ab_P) => f_203_6 3 43 n (iN k) s) D.2.2.1 (fun k s => CL 43 (tnLed D k) s ∧ fr (sI 43) P s) _ (fun n k P1 hk hi hK => ?_) (fun n P1 hi => ?_) N P0 ⟨h0.1, h0.2⟩ (by omega)
  · obtain ⟨e1, e2⟩ := hi
    have d1 := h.keep (P' := P1) (fun b j hb => e2.1 b j (by unfold sI; omega))
    obtain ⟨a1, a2, a3, a4⟩ := d1.2.2.2.2.2 k hk
    show TT (f_203_6 3 43 (n + 1) (iN k) P1) _
    unfold f_203_6
    rw [d1.2.1, if_pos (by rw [iN_lt (by omega) (by omega)]; exact hk), if_pos (by rw [iN_ltl (by omega) (by decide)]; exact (show k < 24 by omega)), if_pos (iN_gi (by omega) (by decide)), if_pos (iN_gi (by omega) (by decide)), if_pos (iN_gi (by omega) (by decide)), if_pos (iN_gi (by omega) (by decide)), iN_nat (by omega), iN_succ]
    rw [show P1.1 (3 + 2) k = P1.1 5 k from rfl, show P1.1 (3 + 3) k = P1.1 6 k from rfl, show P1.1 (3 + 4) k = P1.1 7 k from rfl, show P1.1 (3 + 5) k = P1.1 8 k from rfl, a1, a2, a3, a4]
    exact TT_b2 (c_add e1 _ _ _ _) (fun v P2 hv => hK P2 ⟨hv.2.1, e2.tr hv.2.2⟩)
  · obtain ⟨e1, e2⟩ := hi
    have d1 := h.keep (P' := P1) (fun b j hb => e2.1 b j (by unfold sI; omega))
    show TT (f_203_6 3 43 (n + 1) (iN D.2.2.1) P1) _
    unfold f_203_6
    rw [d1.2.1, if_neg (by rw [iN_lt (by omega) (by omega)]; omega)]
    exact TT_some ⟨e1, e2⟩
theorem wo_enc : ∀ k, k < 7 → ab_wo k = encC (wLaw.2 k) := fun k hk => by
  rcases (show k = 0 ∨ k = 1 ∨ k = 2 ∨ k = 3 ∨ k = 4 ∨ k = 5 ∨ k = 6 by omega) with rfl | rfl | rfl | rfl | rfl | rfl | rfl <;> decide
theorem c_tstand (h : CREL g P) (hd : CTd D P) (ok : okD D) (h11 : P.1 1 1 = 0) (h16 : P.1 1 6 = -1) (hN : 70000 ≤ N) : TT (Option.bind (f_202 3 9 P) fun P5 => Option.bind (f_203 3 43 N P5) fun P6 => ab_lt (ab_pI P6 46 5 (P6.1 3 8)) fun P7 => Option.bind (f_204 15 P7) fun P8 => ab_lt (ab_pI P8 21 2 (0 : Int32)) fun P9 => Option.bind (f_205 P9) fun P10 => ab_lt (ab_pI P10 52 6 (0 : Int32)) fun P11 => (some (.inl (P11.1 43 2), P11) : Option ((Int32 ⊕ Fin 3) × ab_P))) (fun r => r.1 = .inl (iN D.2.2.1) ∧ CREL (gTown g D) r.2 ∧ fr sCC P r.2) := by
  have o2 := ok.2.1
  refine TT_bind (c_tcopy hd ok) (fun P1 h1 => ?_)
  refine TT_bind (c_tsettle h1.1 ok hN) (fun P2 h2 => ?_)
  have d2 := h1.1.keep (P' := P2) (fun b j hb => h2.2.1 b j (by unfold sI; omega))
  unfold f_204 f_205
  refine TT_lt (TT_lt (TT_lt (TT_lt (TT_lt (TT_lt (TT_lt ?_))))))
  rw [d2.2.2.2.1]
  have hf12 : fr (fun b _ => 3 ≤ b ∧ b ≤ 8 ∨ (43 ≤ b ∧ b ≤ 45)) P P2 := (h1.2.mono (fun b j e => Or.inl e)).tr (h2.2.mono (fun b j e => by unfold sI at e; omega))
  generalize hX : ab_pI (ab_pI (ab_pI (ab_pI (ab_pI (ab_pC (ab_pI P2 46 5 (iN D.2.2.2.2.2)) (15 + 1) ab_wo 0 0 7) 15 1 7) 21 2 0) 65 1 0) 65 6 0) 52 6 0 = X
  have hx : ∀ b j, b ≠ 46 → b ≠ 16 → b ≠ 15 → b ≠ 21 → b ≠ 65 → b ≠ 52 → X.1 b j = P2.1 b j := fun b j a1 a2 a3 a4 a5 a6 => by
    rw [← hX, pI_ne a6, pI_ne a5, pI_ne a5, pI_ne a4, pI_ne a3, pC_ne a2, pI_ne a1]
  have hx0 : ∀ b j, b ≠ 46 → b ≠ 16 → b ≠ 15 → b ≠ 21 → b ≠ 65 → b ≠ 52 → ¬ (3 ≤ b ∧ b ≤ 8 ∨ (43 ≤ b ∧ b ≤ 45)) → X.1 b j = P.1 b j := fun b j a1 a2 a3 a4 a5 a6 a7 => (hx b j a1 a2 a3 a4 a5 a6).trans (hf12.1 b j a7)
  have x2 : X.2 = P2.2 := by rw [← hX]
  have x22 : X.2.2 = P.2.2 := by rw [x2]; exact hf12.2.2
  have e46 : X.1 46 5 = iN D.2.2.2.2.2 := by
    rw [← hX, pI_ne (by decide), pI_ne (by decide), pI_ne (by decide), pI_ne (by decide), pI_ne (by decide), pC_ne (by decide), pI_eq]
  have e151 : X.1 15 1 = 7 := by
    rw [← hX, pI_ne (by decide), pI_ne (by decide), pI_ne (by decide), pI_ne (by decide), pI_eq]
  have e16 : ∀ k, k < 7 → X.1 16 k = ab_wo k := fun k hk => by
    rw [← hX, pI_ne (by decide), pI_ne (by decide), pI_ne (by decide), pI_ne (by decide), pI_ne (by decide), pC_in hk]
  have e212 : X.1 21 2 = 0 := by rw [← hX, pI_ne (by decide), pI_ne (by decide), pI_ne (by decide), pI_eq]
  have e651 : X.1 65 1 = 0 := by rw [← hX, pI_ne (by decide), pI_nj (by decide), pI_eq]
  have e656 : X.1 65 6 = 0 := by rw [← hX, pI_ne (by decide), pI_eq]
  have e526 : X.1 52 6 = 0 := by rw [← hX, pI_eq]
  have dX := d2.keep (P' := X) (fun b j hb => hx b j (by omega) (by omega) (by omega) (by omega) (by omega) (by omega))
  have lX : CL 43 (tnLed D D.2.2.1) X := CL_keep h2.1 (hx _ _ (by decide) (by decide) (by decide) (by decide) (by decide) (by decide)) (hx _ _ (by decide) (by decide) (by decide) (by decide) (by decide) (by decide)) (fun j => hx _ _ (by decide) (by decide) (by decide) (by decide) (by decide) (by decide)) (fun j => hx _ _ (by decide) (by decide) (by decide) (by decide) (by decide) (by decide))
  have em : X.1 43 2 = iN D.2.2.1 := by
    rw [lX.2.1, tnLed_m D _ (by omega)]
  obtain ⟨q1, q2, q3, q4, q5, q6, q7, q8⟩ := h
  refine TT_some ⟨by rw [em], ⟨?_, fun j hj => ?_, ?_, ⟨lX, ⟨(by decide : (7 : Nat) ≤ 150), e151, fun k hk => (e16 k hk).trans (wo_enc k hk)⟩, fun p hp => dX.2.2.2.2.1 p hp, dX.1, dX.2.2.1, e46⟩, ⟨q5.1.of x22, e651, e656, fun j hj => absurd hj (Nat.not_lt_zero j), fun m hm => absurd hm (Nat.not_lt_zero m)⟩, ⟨e212, fun i hi => absurd hi (Nat.not_lt_zero i)⟩, e526, fun j hj => ?_⟩, ⟨fun b j hb => ?_, fun b j hb => ?_, x22⟩⟩
  · exact (hx0 1 1 (by decide) (by decide) (by decide) (by decide) (by decide) (by decide) (by decide)).trans h11
  · rw [hx0 2 j (by decide) (by decide) (by decide) (by decide) (by decide) (by decide) (by decide)]
    exact q2 j hj
  · exact (hx0 1 6 (by decide) (by decide) (by decide) (by decide) (by decide) (by decide) (by decide)).trans h16
  · exact (hx0 71 j (by decide) (by decide) (by decide) (by decide) (by decide) (by decide) (by decide)).trans (q8 j hj)
  · unfold sCC at hb
    exact hx0 b j (by omega) (by omega) (by omega) (by omega) (by omega) (by omega) (by omega)
  · unfold sCC at hb
    rw [x2]
    exact hf12.2.1 b j (by omega)
end ST
