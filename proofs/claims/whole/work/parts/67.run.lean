/-! deeds one after the other -/
def seqD (W : WO) (ds : Nat → DD4) : Nat → LG × Nat
  | 0 => (W.L, 0)
  | n + 1 => ((sAct ((seqD W ds n).1, W.2) (ds n)).2, (seqD W ds n).2 + if (sAct ((seqD W ds n).1, W.2) (ds n)).1 then 1 else 0)
theorem seqD_le (W : WO) (ds : Nat → DD4) : ∀ n, (seqD W ds n).2 ≤ n
  | 0 => Nat.le_refl _
  | n + 1 => by
    have := seqD_le W ds n
    show (seqD W ds n).2 + (if _ then 1 else 0) ≤ n + 1
    split <;> omega
/-- what the world reads -/
def kpW (b j : Nat) : Prop := (b = 3 ∧ (j = 5 ∨ j = 7)) ∨ b = 4 ∨ (b = 15 ∧ j = 1) ∨ b = 16 ∨ (b = 43 ∧ (j = 2 ∨ j = 3)) ∨ b = 44 ∨ b = 45 ∨ (b = 46 ∧ j = 5)
theorem CL_keep {i : Nat} {L : LG} {P P' : ab_P} (h : CL i L P) (e2 : P'.1 i 2 = P.1 i 2) (e3 : P'.1 i 3 = P.1 i 3) (e1 : ∀ j, P'.1 (i + 1) j = P.1 (i + 1) j) (et : ∀ j, P'.1 (i + 2) j = P.1 (i + 2) j) : CL i L P' :=
  ⟨h.1, by rw [e2]; exact h.2.1, by rw [e3]; exact h.2.2.1, fun j h1 h2 => by rw [et]; exact h.2.2.2.1 j h1 h2, fun f hf k hk => by rw [e1]; exact h.2.2.2.2 f hf k hk⟩
theorem CW_keep {W : WO} {P P' : ab_P} (h : CW W P) (e : ∀ b j, kpW b j → P'.1 b j = P.1 b j) : CW W P' := by
  refine ⟨CL_keep h.1 (e _ _ (by unfold kpW; omega)) (e _ _ (by unfold kpW; omega)) (fun j => e _ _ (by unfold kpW; omega)) (fun j => e _ _ (by unfold kpW; omega)), ⟨h.2.1.1, ?_, fun k hk => ?_⟩, fun p hp => ?_, ?_, ?_, ?_⟩
  · rw [e _ _ (by unfold kpW; omega)]; exact h.2.1.2.1
  · rw [e _ _ (by unfold kpW; omega)]; exact h.2.1.2.2 k hk
  · rw [e _ _ (by unfold kpW; omega)]; exact h.2.2.1 p hp
  · rw [e _ _ (by unfold kpW; omega)]; exact h.2.2.2.1
  · rw [e _ _ (by unfold kpW; omega)]; exact h.2.2.2.2.1
  · rw [e _ _ (by unfold kpW; omega)]; exact h.2.2.2.2.2
def kqW (b j : Nat) : Prop := (b = 72 ∧ j = 16) ∨ (105 ≤ b ∧ b ≤ 254) ∨ (b = 76 ∧ (j = 0 ∨ j = 2 ∨ j = 3)) ∨ b = 78 ∨ b = 477
theorem RL_keep {i : Nat} {L : LG} {P P' : ab_P} (h : RL i L P) (e : ∀ j, P'.1 i j = P.1 i j) : RL i L P' :=
  ⟨h.1, by rw [e]; exact h.2.1, by rw [e]; exact h.2.2.1, fun j h1 h2 => by rw [e]; exact h.2.2.2.1 j h1 h2, fun f hf k hk => by rw [e]; exact h.2.2.2.2 f hf k hk⟩
theorem RLaw_keep {w : LW} {P P' : ab_P} (h : RLaw w P) (hw : WFL w) (e : ∀ b j, (b = 72 ∧ j = 16) ∨ (105 ≤ b ∧ b ≤ 254) → P'.1 b j = P.1 b j) : RLaw w P' := by
  have h150 := hw.1
  rcases h with ⟨h1, h2, h3⟩ | ⟨h1, h2⟩
  · refine Or.inl ⟨?_, h2, fun k hk => ⟨?_, ?_⟩⟩
    · rw [e _ _ (by omega)]; exact h1
    · rw [e _ _ (by omega)]; exact (h3 k hk).1
    · rw [e _ _ (by omega)]; exact (h3 k hk).2
  · refine Or.inr ⟨?_, h2⟩
    rw [e _ _ (by omega)]; exact h1
theorem RW_keep {W : WO} {P P' : ab_P} (h : RW W P) (hw : WFL W.w) (e : ∀ b j, kqW b j → P'.1 b j = P.1 b j) : RW W P' := by
  refine ⟨RL_keep h.1 (fun j => e _ _ (by unfold kqW; omega)), RLaw_keep h.2.1 hw (fun b j hb => e b j (by unfold kqW; omega)), fun p hp => ?_, ?_, ?_, ?_⟩
  · rw [e _ _ (by unfold kqW; omega)]; exact h.2.2.1 p hp
  · rw [e _ _ (by unfold kqW; omega)]; exact h.2.2.2.1
  · rw [e _ _ (by unfold kqW; omega)]; exact h.2.2.2.2.1
  · rw [e _ _ (by unfold kqW; omega)]; exact h.2.2.2.2.2
section RU
variable {W : WO} {P : ab_P} {N m : Nat} {ds : Nat → DD4}
theorem seqD_OK (ok : OK W) (hd : ∀ i, i < m → WD W.pe (ds i)) : ∀ n, n ≤ m → OK ((seqD W ds n).1, W.2)
  | 0, _ => ok
  | n + 1, h => by
    have h1 := seqD_OK ok hd n (by omega)
    exact ⟨sAct_WF h1 (hd n (by omega)), ok.2⟩
/-- the deeds as the component holds them -/
def CD (m : Nat) (ds : Nat → DD4) (P : ab_P) : Prop := P.1 52 5 = iN m ∧ ∀ i, i < m → P.1 53 (4 * i) = iN (ds i).1 ∧ P.1 53 (4 * i + 1) = iN (ds i).2.1 ∧ P.1 53 (4 * i + 2) = iN (ds i).2.2.1 ∧ P.1 53 (4 * i + 3) = iN (ds i).2.2.2
def RDs (m : Nat) (ds : Nat → DD4) (P : ab_P) : Prop := ∀ i, i < m → RD4 (444 + 1 + i) (ds i) P
def sPc (b j : Nat) : Prop := sAc b j ∨ (b = 52 ∧ j = 6)
theorem c_perform (h : CW W P) (ok : OK W) (hm : m ≤ 30) (hd : ∀ i, i < m → WD W.pe (ds i)) (hD : CD m ds P) (hN : 70000 ≤ N) : TT (f_216 N P) (fun q => q.1 = iN (seqD W ds m).2 ∧ CW ((seqD W ds m).1, W.2) q.2 ∧ q.2.1 52 6 = iN (m - (seqD W ds m).2) ∧ fr sPc P q.2) := by
  unfold f_216
  refine upT (fun n i (s : Int32 × ab_P) => f_216_4 N n s.1 (iN i) s.2) m (fun i s => s.1 = iN (seqD W ds i).2 ∧ CW ((seqD W ds i).1, W.2) s.2 ∧ fr sAc P s.2) _ (fun n i s hi hs => ?_) (fun n s hs => ?_) N (0, P) ⟨rfl, h, fr.rf⟩ (by omega)
  · obtain ⟨x, P1⟩ := s
    obtain ⟨e1, e2, e3⟩ := hs
    dsimp only at e1 e2 e3
    have hl := seqD_le W ds i
    obtain ⟨b0, b1, b2, b3⟩ := hD.2 i hi
    have q5 : P1.1 52 5 = iN m := by rw [e3.1 52 5 (by unfold sAc; omega)]; exact hD.1
    have q0 : ∀ j, P1.1 53 j = P.1 53 j := fun j => e3.1 53 j (by unfold sAc; omega)
    have x4 : iN i * (4 : Int32) = iN (4 * i) := by rw [iN_lit 4, iN_mul, Nat.mul_comm]
    have x1 : iN (4 * i) + (1 : Int32) = iN (4 * i + 1) := iN_add _ _
    have x2 : iN (4 * i) + (2 : Int32) = iN (4 * i + 2) := iN_add _ _
    have x3 : iN (4 * i) + (3 : Int32) = iN (4 * i + 3) := iN_add _ _
    obtain ⟨⟨v, P2⟩, g1, g2, g3, g4⟩ := c_act e2 (seqD_OK ok hd i (by omega)) (d := ds i) (hd i hi) hN
    dsimp only at g2 g3 g4
    show ∃ s', f_216_4 N (n + 1) x (iN i) P1 = _ ∧ _
    simp only [f_216_4, q5, iN_lt (show i < 2147483648 by omega) (show m < 2147483648 by omega), hi, iN_ltl (show i < 2147483648 by omega) (show 30 < 2147483648 by decide), show i < 30 by omega, x4, x1, x2, x3, iN_gT (show 4 * i < 120 by omega) (show 120 ≤ 2147483648 by decide), iN_gT (show 4 * i + 1 < 120 by omega) (show 120 ≤ 2147483648 by decide), iN_gT (show 4 * i + 2 < 120 by omega) (show 120 ≤ 2147483648 by decide), iN_gT (show 4 * i + 3 < 120 by omega) (show 120 ≤ 2147483648 by decide), iN_nat (show 4 * i < 2147483648 by omega), iN_nat (show 4 * i + 1 < 2147483648 by omega), iN_nat (show 4 * i + 2 < 2147483648 by omega), iN_nat (show 4 * i + 3 < 2147483648 by omega), q0, b0, b1, b2, b3, g1, ab_b2, Option.bind_some, g2, bI_0, iN_succ, e1, ↓reduceIte]
    have hu := CW_upd e2 g3 g4
    have hun : (seqD W ds (i + 1)).2 = (seqD W ds i).2 + if (sAct ((seqD W ds i).1, W.2) (ds i)).1 then 1 else 0 := rfl
    cases hb : (sAct ((seqD W ds i).1, W.2) (ds i)).1 with
    | false =>
      rw [hb] at hun
      rw [if_pos rfl]
      exact ⟨(iN (seqD W ds i).2 + 0, P2), rfl, by rw [hun]; simp [Int32.add_zero], hu, e3.tr g4⟩
    | true =>
      rw [hb] at hun
      rw [if_neg (by decide)]
      exact ⟨(iN ((seqD W ds i).2 + 1), P2), rfl, by rw [hun]; rfl, hu, e3.tr g4⟩
  · obtain ⟨x, P1⟩ := s
    obtain ⟨e1, e2, e3⟩ := hs
    dsimp only at e1 e2 e3
    have hl := seqD_le W ds m
    have q5 : P1.1 52 5 = iN m := by rw [e3.1 52 5 (by unfold sAc; omega)]; exact hD.1
    simp only [f_216_4, q5, iN_lt (show m < 2147483648 by omega) (show m < 2147483648 by omega), Nat.lt_irrefl, e1, iN_sub hl, ab_lt, ↓reduceIte]
    refine TT_some ⟨rfl, CW_keep e2 (fun b j hb => by rw [pI_at, if_neg (by unfold kpW at hb; omega)]), pI_eq, (e3.mono (fun b j e => Or.inl e)).tr (fr.I (Or.inr ⟨rfl, rfl⟩))⟩
theorem r_perform (h : RW W P) (ok : OK W) (hm : m ≤ 30) (hd : ∀ i, i < m → WD W.pe (ds i)) (hD : RDs m ds P) (hN : 70000 ≤ N) : TT (f_11_150 N N (iN m) 0 0 P) (fun q => q.1 = iN (seqD W ds m).2 ∧ RW ((seqD W ds m).1, W.2) q.2 ∧ q.2.1 72 31 = iN (m - (seqD W ds m).2) ∧ fr (fun b j => sAr b j ∨ (b = 72 ∧ j = 31)) P q.2) := by
  refine upT (fun n i (s : Int32 × ab_P) => f_11_150 N n (iN m) s.1 (iN i) s.2) m (fun i s => s.1 = iN (seqD W ds i).2 ∧ RW ((seqD W ds i).1, W.2) s.2 ∧ fr sAr P s.2) _ (fun n i s hi hs => ?_) (fun n s hs => ?_) N (0, P) ⟨rfl, h, fr.rf⟩ (by omega)
  · obtain ⟨x, P1⟩ := s
    obtain ⟨e1, e2, e3⟩ := hs
    dsimp only at e1 e2 e3
    have hl := seqD_le W ds i
    have hok := seqD_OK ok hd i (by omega)
    have hD1 : RD4 (444 + 1 + i) (ds i) P1 := by
      obtain ⟨a1, a2, a3, a4⟩ := hD i hi
      have q : ∀ j, P1.1 (444 + 1 + i) j = P.1 (444 + 1 + i) j := fun j => e3.1 _ _ (by unfold sAr; omega)
      exact ⟨by rw [q]; exact a1, by rw [q]; exact a2, fun hh => by rw [q]; exact a3 hh, fun hh => by rw [q]; exact a4 hh⟩
    obtain ⟨⟨v, P2⟩, g1, g2, g3, g4⟩ := r_act e2 hok (d := ds i) (hd i hi) hD1 hN
    dsimp only at g2 g3 g4
    show ∃ s', f_11_150 N (n + 1) (iN m) x (iN i) P1 = _ ∧ _
    simp only [f_11_150, iN_lt (show i < 2147483648 by omega) (show m < 2147483648 by omega), hi, iN_gT (show i < 30 by omega) (show 30 ≤ 2147483648 by decide), iN_nat (show i < 2147483648 by omega), g1, ab_b2, Option.bind_some, g2, bI_0, iN_succ, e1, ↓reduceIte]
    have hu := RW_upd e2 hok g3 g4
    have hun : (seqD W ds (i + 1)).2 = (seqD W ds i).2 + if (sAct ((seqD W ds i).1, W.2) (ds i)).1 then 1 else 0 := rfl
    cases hb : (sAct ((seqD W ds i).1, W.2) (ds i)).1 with
    | false =>
      rw [hb] at hun
      rw [if_pos rfl]
      exact ⟨(iN (seqD W ds i).2 + 0, P2), rfl, by rw [hun]; simp [Int32.add_zero], hu, e3.tr g4⟩
    | true =>
      rw [hb] at hun
      rw [if_neg (by decide)]
      exact ⟨(iN ((seqD W ds i).2 + 1), P2), rfl, by rw [hun]; rfl, hu, e3.tr g4⟩
  · obtain ⟨x, P1⟩ := s
    obtain ⟨e1, e2, e3⟩ := hs
    dsimp only at e1 e2 e3
    have hl := seqD_le W ds m
    simp only [f_11_150, iN_lt (show m < 2147483648 by omega) (show m < 2147483648 by omega), Nat.lt_irrefl, e1, iN_sub hl, ab_lt, ↓reduceIte]
    refine TT_some ⟨rfl, RW_keep e2 ok.2.1 (fun b j hb => by rw [pI_at, if_neg (by unfold kqW at hb; omega)]), pI_eq, (e3.mono (fun b j e => Or.inl e)).tr (fr.I (Or.inr ⟨rfl, rfl⟩))⟩
end RU
