/-! shelves of ledgers -/
def sdom (s : Nat) : Prop := s = 66 ∨ s = 67 ∨ s = 68
abbrev nxt (P : ab_P) : Nat := P.2.2.2.2.1
abbrev ccP (P : ab_P) : Nat := P.2.2.2.2.2.1
abbrev ssP (P : ab_P) : Nat := P.2.2.2.2.2.2
def SHW (P : ab_P) : Prop := (∀ s j q, sdom s → P.2.2.1 s j = some q → 571 ≤ q ∧ q + 3 ≤ nxt P ∧ (q - 571) % 3 = 0) ∧ (∀ s j s' j' q, sdom s → sdom s' → P.2.2.1 s j = some q → P.2.2.1 s' j' = some q → s = s' ∧ j = j') ∧ 571 ≤ nxt P ∧ (nxt P - 571) % 3 = 0
/-- nothing but S changes, shelves apart -/
def frI (S : Nat → Nat → Prop) (P P' : ab_P) : Prop := (∀ b j, ¬ S b j → P'.1 b j = P.1 b j) ∧ ∀ b j, ¬ S b j → P'.2.1 b j = P.2.1 b j
theorem frI.rf {S : Nat → Nat → Prop} {P : ab_P} : frI S P P := ⟨fun _ _ _ => rfl, fun _ _ _ => rfl⟩
theorem frI.tr {S : Nat → Nat → Prop} {P P1 P2 : ab_P} (a : frI S P P1) (b : frI S P1 P2) : frI S P P2 := ⟨fun q j h => (b.1 q j h).trans (a.1 q j h), fun q j h => (b.2 q j h).trans (a.2 q j h)⟩
theorem frI.mono {S S' : Nat → Nat → Prop} {P P' : ab_P} (a : frI S P P') (h : ∀ b j, S b j → S' b j) : frI S' P P' := ⟨fun q j g => a.1 q j (fun z => g (h q j z)), fun q j g => a.2 q j (fun z => g (h q j z))⟩
theorem fr.I2 {S : Nat → Nat → Prop} {P P' : ab_P} (a : fr S P P') : frI S P P' := ⟨a.1, a.2.1⟩
/-- room taken -/
def rmG (P P' : ab_P) (c : Nat) : Prop := ccP P' ≤ ccP P + 3 * c ∧ ssP P' ≤ ssP P + 369 * c
theorem rmG.tr {P P1 P2 : ab_P} {a b : Nat} (h : rmG P P1 a) (h2 : rmG P1 P2 b) : rmG P P2 (a + b) := ⟨by have := h.1; have := h2.1; omega, by have := h.2; have := h2.2; omega⟩
theorem rmG.mono {P P1 : ab_P} {a b : Nat} (h : rmG P P1 a) (hab : a ≤ b) : rmG P P1 b := ⟨by have := h.1; omega, by have := h.2; omega⟩
theorem rmG.of {P P1 : ab_P} (h : P1.2.2 = P.2.2) : rmG P P1 0 := by
  unfold rmG ccP ssP
  rw [h]
  exact ⟨Nat.le_refl _, Nat.le_refl _⟩
theorem SHW.of {P P' : ab_P} (h : SHW P) (e : P'.2.2 = P.2.2) : SHW P' := by
  unfold SHW nxt at *
  rw [e]
  exact h
/-- what a store leaves -/
def stored (s j : Nat) (L : LG) (P P' : ab_P) : Prop := ∃ q, P'.2.2.1 s j = some q ∧ CL q L P' ∧ SHW P' ∧ (∀ s' j', ¬ (s' = s ∧ j' = j) → P'.2.2.1 s' j' = P.2.2.1 s' j') ∧ frI (fun b _ => q ≤ b ∧ b ≤ q + 2) P P' ∧ 571 ≤ q ∧ (q - 571) % 3 = 0 ∧ (∀ s' j' q', sdom s' → ¬ (s' = s ∧ j' = j) → P.2.2.1 s' j' = some q' → q' ≠ q) ∧ rmG P P' 1
section SH
variable {P : ab_P} {L : LG} {N : Nat}
theorem rI3 {f : Nat → Nat → Int32} {a b j : Nat} (h : b < a ∨ a + 2 < b) : ab_rowI (ab_rowI (ab_rowI f a (fun _ => 0)) (a + 1) (fun _ => 0)) (a + 2) (fun _ => 0) b j = f b j := by
  rw [rI_ne (by omega), rI_ne (by omega), rI_ne (by omega)]
theorem rL_ne {f : Nat → Nat → Int64} {a : Nat} {g : Nat → Int64} {b : Nat} (h : b ≠ a) : ab_rowL f a g b = f b := by
  unfold ab_rowL
  rw [if_neg h]
theorem mod3 {n : Nat} (h : 571 ≤ n) (h2 : (n - 571) % 3 = 0) : (n + 1 + 1 + 1 - 571) % 3 = 0 := by
  have : n + 1 + 1 + 1 - 571 = (n - 571) + 3 := by omega
  rw [this, Nat.add_mod_right]
  exact h2
theorem c_store {n s j i2 : Nat} (hs : sdom s) (hW : SHW P) (hj : j < n) (hn : n ≤ 60) (h : CL i2 L P) (hi2 : i2 = 43 ∨ ∃ s' j', sdom s' ∧ ¬ (s' = s ∧ j' = j) ∧ P.2.2.1 s' j' = some i2) : TT (f_279 n s i2 (iN j) P) (fun P' => stored s j L P P') := by
  obtain ⟨w1, w2, w3, w4⟩ := hW
  unfold f_279
  rw [if_neg (by rw [iN_neg (by omega)]; exact id), if_pos (show iN j < Int32.ofNat n by show iN j < iN n; rw [iN_lt (by omega) (by omega)]; exact hj), if_pos (iN_gi hj (by omega)), iN_nat (by omega)]
  cases hq : P.2.2.1 s j with
  | some q =>
    obtain ⟨b1, b2, b3⟩ := w1 s j q hs hq
    have hne : ∀ s' j' q', sdom s' → ¬ (s' = s ∧ j' = j) → P.2.2.1 s' j' = some q' → q' ≠ q := fun s' j' q' h1 h2 h3 e => h2 (w2 s' j' s j q h1 hs (by rw [h3, e]) hq)
    have hsep : q + 2 < i2 ∨ i2 + 2 < q := by
      rcases hi2 with rfl | ⟨s', j', h1, h2, h3⟩
      · omega
      · have := hne s' j' i2 h1 h2 h3
        have := w1 s' j' i2 h1 h3
        omega
    refine TT_bind (c_copy (i := q) h hsep) (fun P1 h1 => TT_some ⟨q, ?_, h1.1, SHW.of ⟨w1, w2, w3, w4⟩ h1.2.2.2, fun s' j' _ => ?_, h1.2.I2.mono (fun b j e => e), b1, b3, hne, (rmG.of h1.2.2.2).mono (by decide)⟩)
    · rw [h1.2.2.2]; exact hq
    · rw [h1.2.2.2]
  | none =>
    have hnx : ∀ s' j' q', sdom s' → P.2.2.1 s' j' = some q' → q' + 3 ≤ nxt P := fun s' j' q' h1 h2 => (w1 s' j' q' h1 h2).2.1
    have hsep : nxt P + 2 < i2 ∨ i2 + 2 < nxt P := by
      rcases hi2 with rfl | ⟨s', j', h1, h2, h3⟩
      · omega
      · have := hnx s' j' i2 h1 h3
        omega
    have fN : frI (fun b _ => nxt P ≤ b ∧ b ≤ nxt P + 2) P (ab_pN P s j) := by
      refine ⟨fun b j' hb => ?_, fun b j' hb => ?_⟩
      · have hb' : ¬ (nxt P ≤ b ∧ b ≤ nxt P + 2) := hb
        exact rI3 (a := nxt P) (by omega)
      · have hb' : ¬ (nxt P ≤ b ∧ b ≤ nxt P + 2) := hb
        show ab_rowL (ab_rowL (ab_rowL P.2.1 (nxt P) _) (nxt P + 1) _) (nxt P + 2) _ b j' = _
        rw [rL_ne (by omega), rL_ne (by omega), rL_ne (by omega)]
    have hc : CL i2 L (ab_pN P s j) := CL_keep h (fN.1 _ _ (by omega)) (fN.1 _ _ (by omega)) (fun j' => fN.1 _ _ (by omega)) (fun j' => fN.1 _ _ (by omega))
    have shN : ∀ s' j', (ab_pN P s j).2.2.1 s' j' = if s' = s ∧ j' = j then some (nxt P) else P.2.2.1 s' j' := fun _ _ => rfl
    have hWN : SHW (ab_pN P s j) := by
      refine ⟨fun s' j' q' h1 h2 => ?_, fun s1 j1 s2 j2 q' h1 h2 h3 h4 => ?_, ?_, ?_⟩
      · rw [shN] at h2
        show 571 ≤ q' ∧ q' + 3 ≤ nxt P + 1 + 1 + 1 ∧ _
        split at h2
        · cases h2; omega
        · have := w1 s' j' q' h1 h2
          omega
      · rw [shN] at h3 h4
        split at h3
        · rename_i e1
          split at h4
          · rename_i e2
            exact ⟨e1.1.trans e2.1.symm, e1.2.trans e2.2.symm⟩
          · cases h3
            have := hnx s2 j2 _ h2 h4
            omega
        · split at h4
          · cases h4
            have := hnx s1 j1 _ h1 h3
            omega
          · exact w2 s1 j1 s2 j2 q' h1 h2 h3 h4
      · show 571 ≤ nxt P + 1 + 1 + 1
        omega
      · exact mod3 w3 w4
    refine TT_bind (c_copy (i := nxt P) hc hsep) (fun P1 h1 => TT_some ⟨nxt P, ?_, h1.1, hWN.of h1.2.2.2, fun s' j' hh => ?_, fN.tr h1.2.I2, w3, w4, fun s' j' q' h1 h2 h3 e => ?_, ?_⟩)
    · rw [h1.2.2.2, shN, if_pos ⟨rfl, rfl⟩]
    · rw [h1.2.2.2, shN, if_neg hh]
    · have := hnx s' j' q' h1 h3
      omega
    · refine (rmG.tr (b := 0) (?_ : rmG P (ab_pN P s j) 1) (rmG.of h1.2.2.2))
      refine ⟨?_, ?_⟩
      · exact Nat.le_of_eq (show ccP P + 1 + 1 + 1 = ccP P + 3 * 1 from rfl)
      · exact Nat.le_of_eq (by show ssP P + 4 + 360 + 5 = ssP P + 369 * 1; rw [Nat.add_assoc, Nat.add_assoc])
/-- other ledgers of the shelves stay as they are -/
theorem stored.keep {s j s' j' q' : Nat} {P' : ab_P} {L' : LG} (h : stored s j L P P') (hW : SHW P) (hs' : sdom s') (hne : ¬ (s' = s ∧ j' = j)) (hq : P.2.2.1 s' j' = some q') (hc : CL q' L' P) : P'.2.2.1 s' j' = some q' ∧ CL q' L' P' := by
  obtain ⟨q, h1, h2, h3, h4, h5, h6, h7, h8, h9⟩ := h
  have hd := h8 s' j' q' hs' hne hq
  have hb := hW.1 s' j' q' hs' hq
  refine ⟨by rw [h4 s' j' hne]; exact hq, CL_keep hc (h5.1 _ _ (by omega)) (h5.1 _ _ (by omega)) (fun j => h5.1 _ _ (by omega)) (fun j => h5.1 _ _ (by omega))⟩
theorem stored.low {s j b k : Nat} {P' : ab_P} (h : stored s j L P P') (hb : b < 571) : P'.1 b k = P.1 b k ∧ P'.2.1 b k = P.2.1 b k := by
  obtain ⟨q, h1, h2, h3, h4, h5, h6, h7, h8, h9⟩ := h
  exact ⟨h5.1 _ _ (by omega), h5.2 _ _ (by omega)⟩
theorem stored.sh {s j : Nat} {P' : ab_P} (h : stored s j L P P') : SHW P' := by
  obtain ⟨q, h1, h2, h3, h4, h5, h6, h7, h8, h9⟩ := h
  exact h3
theorem stored.rm {s j : Nat} {P' : ab_P} (h : stored s j L P P') : rmG P P' 1 := by
  obtain ⟨q, h1, h2, h3, h4, h5, h6, h7, h8, h9⟩ := h
  exact h9
theorem c_fetch {n s j q : Nat} (hs : sdom s) (hW : SHW P) (hj : j < n) (hn : n ≤ 60) (hq : P.2.2.1 s j = some q) (h : CL q L P) : TT (f_227 n s 43 (iN j) P) (fun P' => CL 43 L P' ∧ fr (sI 43) P P') := by
  have hb := hW.1 s j q hs hq
  unfold f_227
  rw [if_neg (by rw [iN_neg (by omega)]; exact id), if_pos (show iN j < Int32.ofNat n by show iN j < iN n; rw [iN_lt (by omega) (by omega)]; exact hj), if_pos (iN_gi hj (by omega)), iN_nat (by omega), hq]
  refine TT_bind (c_copy (i := 43) h (by omega)) (fun P1 h1 => TT_some h1)
end SH
/-! history: rows, images -/
abbrev IM : Type := Int32 × Nat × LG × (Nat → LG)
abbrev HS : Type := (Nat × (Nat → LG)) × (Nat × (Nat → IM))
def CHI (H : HS) (P : ab_P) : Prop := SHW P ∧ P.1 65 1 = iN H.1.1 ∧ P.1 65 6 = iN H.2.1 ∧ (∀ j, j < H.1.1 → ∃ q, P.2.2.1 66 j = some q ∧ CL q (H.1.2 j) P) ∧ ∀ m, m < H.2.1 → P.1 69 m = iN (H.2.2 m).2.1 ∧ P.1 70 m = (H.2.2 m).1 ∧ (∃ q, P.2.2.1 67 m = some q ∧ CL q (H.2.2 m).2.2.1 P) ∧ ∀ j, j < (H.2.2 m).2.1 → ∃ q, P.2.2.1 68 (m * 20 + j) = some q ∧ CL q ((H.2.2 m).2.2.2 j) P
def okH (pe : Nat) (H : HS) : Prop := H.1.1 ≤ 20 ∧ H.2.1 ≤ 3 ∧ (∀ j, j < H.1.1 → WF pe (H.1.2 j)) ∧ ∀ m, m < H.2.1 → (H.2.2 m).2.1 ≤ 20 ∧ WF pe (H.2.2 m).2.2.1 ∧ ∀ j, j < (H.2.2 m).2.1 → WF pe ((H.2.2 m).2.2.2 j)
def hPush (H : HS) (L : LG) : HS := ((H.1.1 + 1, fun j => if j = H.1.1 then L else H.1.2 j), H.2)
def hPop (H : HS) : HS := ((H.1.1 - 1, H.1.2), H.2)
def hImage (H : HS) (bi : Int32) (L : LG) : HS := (H.1, (H.2.1 + 1, fun m => if m = H.2.1 then (bi, H.1.1, L, H.1.2) else H.2.2 m))
def hBack (H : HS) : HS := (((H.2.2 (H.2.1 - 1)).2.1, (H.2.2 (H.2.1 - 1)).2.2.2), (H.2.1 - 1, H.2.2))
theorem CHI.low {H : HS} {P P' : ab_P} (h : CHI H P) (e : P'.2.2 = P.2.2) (e1 : ∀ b j, 571 ≤ b ∨ b = 65 ∨ b = 69 ∨ b = 70 → P'.1 b j = P.1 b j) : CHI H P' := by
  obtain ⟨h1, h2, h3, h4, h5⟩ := h
  have keep : ∀ {s j q L}, sdom s → P.2.2.1 s j = some q → CL q L P → CL q L P' := fun hs hq hc => by
    have := (h1.1 _ _ _ hs hq).1
    exact CL_keep hc (e1 _ _ (by omega)) (e1 _ _ (by omega)) (fun j => e1 _ _ (by omega)) (fun j => e1 _ _ (by omega))
  refine ⟨h1.of e, by rw [e1 _ _ (by omega)]; exact h2, by rw [e1 _ _ (by omega)]; exact h3, fun j hj => ?_, fun m hm => ?_⟩
  · obtain ⟨q, q1, q2⟩ := h4 j hj
    exact ⟨q, by rw [e]; exact q1, keep (Or.inl rfl) q1 q2⟩
  · obtain ⟨a1, a2, ⟨q, q1, q2⟩, a4⟩ := h5 m hm
    refine ⟨by rw [e1 _ _ (by omega)]; exact a1, by rw [e1 _ _ (by omega)]; exact a2, ⟨q, by rw [e]; exact q1, keep (Or.inr (Or.inl rfl)) q1 q2⟩, fun j hj => ?_⟩
    obtain ⟨r, r1, r2⟩ := a4 j hj
    exact ⟨r, by rw [e]; exact r1, keep (Or.inr (Or.inr rfl)) r1 r2⟩
section HH2
variable {P : ab_P} {L : LG} {H : HS} {N pe : Nat}
/-- what a history's change leaves of the rest -/
def sH (b : Nat) (_ : Nat) : Prop := 571 ≤ b ∨ b = 65 ∨ b = 69 ∨ b = 70
def sHI (b j : Nat) : Prop := sI 43 b j ∨ sH b j
theorem sHI65 (j : Nat) : sHI 65 j := Or.inr (Or.inr (Or.inl rfl))
theorem stored.frH {s j : Nat} {P' : ab_P} (h : stored s j L P P') : frI sH P P' := by
  obtain ⟨q, h1, h2, h3, h4, h5, h6, h7, h8, h9⟩ := h
  exact h5.mono (fun b j e => Or.inl (by omega))
theorem c_push (h : CHI H P) (ok : okH pe H) (hL : CL 43 L P) (hn : H.1.1 < 20) : TT (f_215 43 P) (fun P' => CHI (hPush H L) P' ∧ CL 43 L P' ∧ frI sH P P' ∧ rmG P P' 1) := by
  obtain ⟨h1, h2, h3, h4, h5⟩ := h
  unfold f_215
  rw [h2, if_pos (by rw [iN_ltl (by omega) (by decide)]; exact hn)]
  refine TT_bind (c_store (s := 66) (Or.inl rfl) h1 hn (by decide) hL (Or.inl rfl)) (fun P1 st => TT_lt (TT_some ?_))
  have k1 : P1.1 65 1 = iN H.1.1 := by rw [(st.low (by decide)).1]; exact h2
  have nw : ∀ b j, b ≠ 65 → (ab_pI P1 65 1 (P1.1 65 1 + 1)).1 b j = P1.1 b j := fun b j hb => pI_ne hb
  have clk : ∀ {q L'}, 571 ≤ q → CL q L' P1 → CL q L' (ab_pI P1 65 1 (P1.1 65 1 + 1)) := fun hq hc => CL_keep hc (nw _ _ (by omega)) (nw _ _ (by omega)) (fun j => nw _ _ (by omega)) (fun j => nw _ _ (by omega))
  obtain ⟨q, s1, s2, s3, s4, s5, s6, s7, s8, s9⟩ := id st
  refine ⟨⟨s3.of rfl, ?_, ?_, fun j hj => ?_, fun m hm => ?_⟩, CL_keep hL ?_ ?_ (fun j => ?_) (fun j => ?_), st.frH.tr ((fr.I (Or.inr (Or.inl rfl))).I2), s9.tr (b := 0) (rmG.of rfl)⟩
  · rw [pI_eq, k1, iN_succ]; rfl
  · rw [pI_nj (by decide), (st.low (by decide)).1]; exact h3
  · have hj' : j < H.1.1 + 1 := hj
    show ∃ q, P1.2.2.1 66 j = some q ∧ CL q (if j = H.1.1 then L else H.1.2 j) _
    by_cases he : j = H.1.1
    · rw [if_pos he, he]
      exact ⟨q, s1, clk s6 s2⟩
    · rw [if_neg he]
      obtain ⟨q', q1, q2⟩ := h4 j (by omega)
      have := st.keep h1 (Or.inl rfl) (fun e => he e.2) q1 q2
      exact ⟨q', this.1, clk (h1.1 _ _ _ (Or.inl rfl) q1).1 this.2⟩
  · obtain ⟨a1, a2, ⟨q', q1, q2⟩, a4⟩ := h5 m hm
    refine ⟨by rw [nw _ _ (by decide), (st.low (by decide)).1]; exact a1, by rw [nw _ _ (by decide), (st.low (by decide)).1]; exact a2, ?_, fun j hj => ?_⟩
    · have := st.keep h1 (Or.inr (Or.inl rfl)) (fun e => by cases e.1) q1 q2
      exact ⟨q', this.1, clk (h1.1 _ _ _ (Or.inr (Or.inl rfl)) q1).1 this.2⟩
    · obtain ⟨r, r1, r2⟩ := a4 j hj
      have := st.keep h1 (Or.inr (Or.inr rfl)) (fun e => by cases e.1) r1 r2
      exact ⟨r, this.1, clk (h1.1 _ _ _ (Or.inr (Or.inr rfl)) r1).1 this.2⟩
  · rw [nw _ _ (by decide), (st.low (by decide)).1]
  · rw [nw _ _ (by decide), (st.low (by decide)).1]
  · rw [nw _ _ (by decide), (st.low (by decide)).1]
  · rw [nw _ _ (by decide), (st.low (by decide)).1]
theorem c_pop (h : CHI H P) (ok : okH pe H) (hn : 0 < H.1.1) : TT (f_130 43 P) (fun P' => CHI (hPop H) P' ∧ CL 43 (H.1.2 (H.1.1 - 1)) P' ∧ fr (fun b j => sI 43 b j ∨ (b = 65 ∧ j = 1)) P P') := by
  have h20 := ok.1
  obtain ⟨h1, h2, h3, h4, h5⟩ := id h
  unfold f_130
  rw [h2, if_pos (by rw [iN_lll (by omega) (by decide)]; exact hn), iN_lit 1, iN_sub (by omega)]
  refine TT_lt ?_
  have nw : ∀ b j, b ≠ 65 → (ab_pI P 65 1 (iN (H.1.1 - 1))).1 b j = P.1 b j := fun b j hb => pI_ne hb
  have clk : ∀ {q L'}, 571 ≤ q → CL q L' P → CL q L' (ab_pI P 65 1 (iN (H.1.1 - 1))) := fun hq hc => CL_keep hc (nw _ _ (by omega)) (nw _ _ (by omega)) (fun j => nw _ _ (by omega)) (fun j => nw _ _ (by omega))
  have hP1 : CHI (hPop H) (ab_pI P 65 1 (iN (H.1.1 - 1))) := by
    refine ⟨h1.of rfl, pI_eq, by rw [pI_nj (by decide)]; exact h3, fun j hj => ?_, fun m hm => ?_⟩
    · have hj' : j < H.1.1 - 1 := hj
      obtain ⟨q, q1, q2⟩ := h4 j (by omega)
      exact ⟨q, q1, clk (h1.1 _ _ _ (Or.inl rfl) q1).1 q2⟩
    · obtain ⟨a1, a2, ⟨q', q1, q2⟩, a4⟩ := h5 m hm
      refine ⟨by rw [nw _ _ (by decide)]; exact a1, by rw [nw _ _ (by decide)]; exact a2, ⟨q', q1, clk (h1.1 _ _ _ (Or.inr (Or.inl rfl)) q1).1 q2⟩, fun j hj => ?_⟩
      obtain ⟨r, r1, r2⟩ := a4 j hj
      exact ⟨r, r1, clk (h1.1 _ _ _ (Or.inr (Or.inr rfl)) r1).1 r2⟩
  obtain ⟨q, q1, q2⟩ := h4 (H.1.1 - 1) (by omega)
  have hx : (ab_pI P 65 1 (iN (H.1.1 - 1))).1 65 1 = iN (H.1.1 - 1) := pI_eq
  rw [hx]
  refine TT_bind (c_fetch (s := 66) (q := q) (Or.inl rfl) (h1.of rfl) (show H.1.1 - 1 < 20 by omega) (by decide) q1 (clk (h1.1 _ _ _ (Or.inl rfl) q1).1 q2)) (fun P2 hf => TT_some ⟨hP1.low hf.2.2.2 (fun b j hb => hf.2.1 b j (by unfold sI; omega)), hf.1, (fr.I (Or.inr ⟨rfl, rfl⟩)).tr (hf.2.mono (fun b j e => Or.inl e))⟩)
/-- an image is taken -/
theorem c_image (h : CHI H P) (ok : okH pe H) (hL : CL 43 L P) (bi : Int32) (hn : H.2.1 < 3) (hN : 70000 ≤ N) : TT (f_194 43 N bi P) (fun P' => CHI (hImage H bi L) P' ∧ frI sH P P' ∧ rmG P P' 21) := by
  have h20 := ok.1
  obtain ⟨h1, h2, h3, h4, h5⟩ := id h
  unfold f_194
  rw [h3, if_neg (by rw [iN_neg (by omega)]; exact id), if_pos (by rw [iN_ltl (by omega) (by decide)]; exact hn)]
  refine TT_bind (c_store (s := 67) (Or.inr (Or.inl rfl)) h1 hn (by decide) hL (Or.inl rfl)) (fun P1 st => ?_)
  -- what stands once j rows are stored
  have hi1 : SHW P1 ∧ (∀ b j, b < 571 → P1.1 b j = P.1 b j) ∧ (∀ j, j < H.1.1 → ∃ q, P1.2.2.1 66 j = some q ∧ CL q (H.1.2 j) P1) ∧ (∀ m, m < H.2.1 → (∃ q, P1.2.2.1 67 m = some q ∧ CL q (H.2.2 m).2.2.1 P1) ∧ ∀ j, j < (H.2.2 m).2.1 → ∃ q, P1.2.2.1 68 (m * 20 + j) = some q ∧ CL q ((H.2.2 m).2.2.2 j) P1) ∧ (∃ q, P1.2.2.1 67 H.2.1 = some q ∧ CL q L P1) ∧ (∀ j, j < 0 → ∃ q, P1.2.2.1 68 (H.2.1 * 20 + j) = some q ∧ CL q (H.1.2 j) P1) ∧ frI sH P P1 ∧ rmG P P1 (1 + 0) := by
    refine ⟨st.sh, fun b j hb => (st.low hb).1, fun j hj => ?_, fun m hm => ⟨?_, fun j hj => ?_⟩, ?_, fun j hj => absurd hj (Nat.not_lt_zero _), st.frH, st.rm⟩
    · obtain ⟨q', q1, q2⟩ := h4 j hj
      exact ⟨q', st.keep h1 (Or.inl rfl) (fun e => by cases e.1) q1 q2⟩
    · obtain ⟨_, _, ⟨q', q1, q2⟩, _⟩ := h5 m hm
      exact ⟨q', st.keep h1 (Or.inr (Or.inl rfl)) (fun e => by have := e.2; omega) q1 q2⟩
    · obtain ⟨_, _, _, a4⟩ := h5 m hm
      obtain ⟨r, r1, r2⟩ := a4 j hj
      exact ⟨r, st.keep h1 (Or.inr (Or.inr rfl)) (fun e => by cases e.1) r1 r2⟩
    · obtain ⟨q, s1, s2, _⟩ := id st
      exact ⟨q, s1, s2⟩
  have d20 : ∀ m, m < H.2.1 → (H.2.2 m).2.1 ≤ 20 := fun m hm => (ok.2.2.2 m hm).1
  refine upT (fun n j (q : ab_P) => f_194_30 43 n bi (iN j) q) H.1.1 (fun k Q => SHW Q ∧ (∀ b j, b < 571 → Q.1 b j = P.1 b j) ∧ (∀ j, j < H.1.1 → ∃ q, Q.2.2.1 66 j = some q ∧ CL q (H.1.2 j) Q) ∧ (∀ m, m < H.2.1 → (∃ q, Q.2.2.1 67 m = some q ∧ CL q (H.2.2 m).2.2.1 Q) ∧ ∀ j, j < (H.2.2 m).2.1 → ∃ q, Q.2.2.1 68 (m * 20 + j) = some q ∧ CL q ((H.2.2 m).2.2.2 j) Q) ∧ (∃ q, Q.2.2.1 67 H.2.1 = some q ∧ CL q L Q) ∧ (∀ j, j < k → ∃ q, Q.2.2.1 68 (H.2.1 * 20 + j) = some q ∧ CL q (H.1.2 j) Q) ∧ frI sH P Q ∧ rmG P Q (1 + k)) _ (fun n k Q hk hi => ?_) (fun n Q hi => ?_) N P1 hi1 (by omega)
  · obtain ⟨i1, i2, i3, i4, i5, i6, i7, i8⟩ := hi
    obtain ⟨q3, r1, r2⟩ := i3 k hk
    have e1 : Q.1 65 1 = iN H.1.1 := by rw [i2 _ _ (by decide)]; exact h2
    have e6 : Q.1 65 6 = iN H.2.1 := by rw [i2 _ _ (by decide)]; exact h3
    have x20 : iN H.2.1 * (20 : Int32) + iN k = iN (H.2.1 * 20 + k) := by rw [iN_lit 20, iN_mul, iN_add]
    obtain ⟨P4, st4, hst4⟩ := c_store (s := 68) (j := H.2.1 * 20 + k) (n := 60) (Or.inr (Or.inr rfl)) i1 (by omega) (by decide) r2 (Or.inr ⟨66, k, Or.inl rfl, (fun e => by cases e.1), r1⟩)
    show ∃ s', f_194_30 43 (n + 1) bi (iN k) Q = _ ∧ _
    simp only [f_194_30, e1, e6, iN_lt (show k < 2147483648 by omega) (show H.1.1 < 2147483648 by omega), hk, iN_ltl (show k < 2147483648 by omega) (show 20 < 2147483648 by decide), show k < 20 by omega, iN_gT (show k < 20 by omega) (show 20 ≤ 2147483648 by decide), iN_nat (show k < 2147483648 by omega), r1, Option.bind_some, x20, st4, iN_succ, ↓reduceIte]
    refine ⟨P4, rfl, hst4.sh, fun b j hb => by rw [(hst4.low hb).1]; exact i2 b j hb, fun j hj => ?_, fun m hm => ⟨?_, fun j hj => ?_⟩, ?_, fun j hj => ?_, i7.tr hst4.frH, i8.tr hst4.rm⟩
    · obtain ⟨q', q1, q2⟩ := i3 j hj
      exact ⟨q', hst4.keep i1 (Or.inl rfl) (fun e => by cases e.1) q1 q2⟩
    · obtain ⟨q', q1, q2⟩ := (i4 m hm).1
      exact ⟨q', hst4.keep i1 (Or.inr (Or.inl rfl)) (fun e => by cases e.1) q1 q2⟩
    · obtain ⟨q', q1, q2⟩ := (i4 m hm).2 j hj
      have := d20 m hm
      exact ⟨q', hst4.keep i1 (Or.inr (Or.inr rfl)) (fun e => by have := e.2; omega) q1 q2⟩
    · obtain ⟨q', q1, q2⟩ := i5
      exact ⟨q', hst4.keep i1 (Or.inr (Or.inl rfl)) (fun e => by cases e.1) q1 q2⟩
    · by_cases hjk : j = k
      · obtain ⟨q, s1, s2, _⟩ := id hst4
        rw [hjk]
        exact ⟨q, s1, s2⟩
      · obtain ⟨q', q1, q2⟩ := i6 j (by omega)
        exact ⟨q', hst4.keep i1 (Or.inr (Or.inr rfl)) (fun e => by have := e.2; omega) q1 q2⟩
  · obtain ⟨i1, i2, i3, i4, i5, i6, i7, i8⟩ := hi
    have e1 : Q.1 65 1 = iN H.1.1 := by rw [i2 _ _ (by decide)]; exact h2
    have e6 : Q.1 65 6 = iN H.2.1 := by rw [i2 _ _ (by decide)]; exact h3
    have gi := iN_gi (k := H.2.1) (n := 3) hn (by decide)
    simp only [f_194_30, f_194_72, e1, e6, iN_lt (show H.1.1 < 2147483648 by omega) (show H.1.1 < 2147483648 by omega), Nat.lt_irrefl, if_pos gi, iN_nat (show H.2.1 < 2147483648 by omega), uI_ne (show 65 ≠ 69 by decide), uI_ne (show 65 ≠ 70 by decide), ab_lt, iN_succ, ↓reduceIte]
    have nw : ∀ b j, b < 65 ∨ 70 < b → (ab_pI (ab_pI (ab_pI Q 69 H.2.1 (iN H.1.1)) 70 H.2.1 bi) 65 6 (iN (H.2.1 + 1))).1 b j = Q.1 b j := fun b j hb => by rw [pI_ne (by omega), pI_ne (by omega), pI_ne (by omega)]
    have clk : ∀ {q L'}, 571 ≤ q → CL q L' Q → CL q L' (ab_pI (ab_pI (ab_pI Q 69 H.2.1 (iN H.1.1)) 70 H.2.1 bi) 65 6 (iN (H.2.1 + 1))) := fun hq hc => CL_keep hc (nw _ _ (by omega)) (nw _ _ (by omega)) (fun j => nw _ _ (by omega)) (fun j => nw _ _ (by omega))
    refine TT_some ⟨⟨i1.of rfl, ?_, ?_, fun j hj => ?_, fun m hm => ?_⟩, i7.tr (((fr.I (Or.inr (Or.inr (Or.inl rfl)))).tr (fr.I (Or.inr (Or.inr (Or.inr rfl))))).tr (fr.I (Or.inr (Or.inl rfl)))).I2, (i8.tr (b := 0) (rmG.of rfl)).mono (by omega)⟩
    · rw [pI_nj (by decide), pI_ne (by decide), pI_ne (by decide)]; exact e1
    · rw [pI_eq]; rfl
    · obtain ⟨q', q1, q2⟩ := i3 j hj
      exact ⟨q', q1, clk (i1.1 _ _ _ (Or.inl rfl) q1).1 q2⟩
    · have hm' : m < H.2.1 + 1 := hm
      show _ = iN (if m = H.2.1 then (bi, H.1.1, L, H.1.2) else H.2.2 m : IM).2.1 ∧ _ = (if m = H.2.1 then (bi, H.1.1, L, H.1.2) else H.2.2 m : IM).1 ∧ (∃ q, Q.2.2.1 67 m = some q ∧ CL q (if m = H.2.1 then (bi, H.1.1, L, H.1.2) else H.2.2 m : IM).2.2.1 _) ∧ ∀ j, j < (if m = H.2.1 then (bi, H.1.1, L, H.1.2) else H.2.2 m : IM).2.1 → ∃ q, Q.2.2.1 68 (m * 20 + j) = some q ∧ CL q ((if m = H.2.1 then (bi, H.1.1, L, H.1.2) else H.2.2 m : IM).2.2.2 j) _
      by_cases he : m = H.2.1
      · rw [if_pos he, he]
        refine ⟨?_, ?_, ?_, fun j hj => ?_⟩
        · rw [pI_ne (by decide), pI_ne (by decide), pI_eq]
        · rw [pI_ne (by decide), pI_eq]
        · obtain ⟨q', q1, q2⟩ := i5
          exact ⟨q', q1, clk (i1.1 _ _ _ (Or.inr (Or.inl rfl)) q1).1 q2⟩
        · obtain ⟨q', q1, q2⟩ := i6 j hj
          exact ⟨q', q1, clk (i1.1 _ _ _ (Or.inr (Or.inr rfl)) q1).1 q2⟩
      · rw [if_neg he]
        obtain ⟨a1, a2, _, _⟩ := h5 m (by omega)
        refine ⟨?_, ?_, ?_, fun j hj => ?_⟩
        · rw [pI_ne (by decide), pI_ne (by decide), pI_nj (by omega), i2 _ _ (by decide)]; exact a1
        · rw [pI_ne (by decide), pI_nj (by omega), pI_ne (by decide), i2 _ _ (by decide)]; exact a2
        · obtain ⟨q', q1, q2⟩ := (i4 m (by omega)).1
          exact ⟨q', q1, clk (i1.1 _ _ _ (Or.inr (Or.inl rfl)) q1).1 q2⟩
        · obtain ⟨q', q1, q2⟩ := (i4 m (by omega)).2 j hj
          exact ⟨q', q1, clk (i1.1 _ _ _ (Or.inr (Or.inr rfl)) q1).1 q2⟩
/-- an image is given back -/
theorem c_restore (h : CHI H P) (ok : okH pe H) (hn : 0 < H.2.1) (hN : 70000 ≤ N) : TT (f_196 43 N P) (fun q => q.1 = (H.2.2 (H.2.1 - 1)).1 ∧ CHI (hBack H) q.2 ∧ CL 43 (H.2.2 (H.2.1 - 1)).2.2.1 q.2 ∧ frI sHI P q.2 ∧ rmG P q.2 20) := by
  have h3' := ok.2.1
  obtain ⟨h1, h2, h3, h4, h5⟩ := id h
  obtain ⟨a1, a2, ⟨qL, qL1, qL2⟩, a4⟩ := h5 (H.2.1 - 1) (by omega)
  have d20 := (ok.2.2.2 (H.2.1 - 1) (by omega)).1
  unfold f_196
  rw [h3, if_pos (by rw [iN_lll (by omega) (by decide)]; exact hn), if_neg (by rw [iN_lll (by omega) (by decide)]; exact (by omega : ¬ 3 < H.2.1)), iN_lit 1, iN_sub (by omega)]
  refine TT_lt ?_
  have hx : (ab_pI P 65 6 (iN (H.2.1 - 1))).1 65 6 = iN (H.2.1 - 1) := pI_eq
  rw [hx]
  have nw : ∀ b j, b ≠ 65 → (ab_pI P 65 6 (iN (H.2.1 - 1))).1 b j = P.1 b j := fun b j hb => pI_ne hb
  have clk : ∀ {q L'}, 571 ≤ q → CL q L' P → CL q L' (ab_pI P 65 6 (iN (H.2.1 - 1))) := fun hq hc => CL_keep hc (nw _ _ (by omega)) (nw _ _ (by omega)) (fun j => nw _ _ (by omega)) (fun j => nw _ _ (by omega))
  refine TT_bind (c_fetch (s := 67) (q := qL) (Or.inr (Or.inl rfl)) (h1.of rfl) (show H.2.1 - 1 < 3 by omega) (by decide) qL1 (clk (h1.1 _ _ _ (Or.inr (Or.inl rfl)) qL1).1 qL2)) (fun P2 hf => ?_)
  have gi := iN_gi (k := H.2.1 - 1) (n := 3) (by omega) (by decide)
  have e66 : P2.1 65 6 = iN (H.2.1 - 1) := by rw [hf.2.1 _ _ (by unfold sI; omega)]; exact hx
  have e69 : P2.1 69 (H.2.1 - 1) = iN (H.2.2 (H.2.1 - 1)).2.1 := by rw [hf.2.1 _ _ (by unfold sI; omega), nw _ _ (by decide)]; exact a1
  rw [e66, if_pos gi, iN_nat (by omega), e69]
  refine TT_lt ?_
  generalize hd : (H.2.2 (H.2.1 - 1)).2.1 = d at *
  have f3 : frI sHI P (ab_pI P2 65 1 (iN d)) := ((fr.I (sHI65 _)).tr ((hf.2.mono (S' := sHI) (fun b j e => Or.inl e)).tr (fr.I (sHI65 _)))).I2
  have low3 : ∀ b j, b ≠ 65 → ¬ sI 43 b j → (ab_pI P2 65 1 (iN d)).1 b j = P.1 b j := fun b j hb hs => by rw [pI_ne hb, hf.2.1 _ _ hs, nw _ _ hb]
  have clk3 : ∀ {q L'}, 571 ≤ q → CL q L' P → CL q L' (ab_pI P2 65 1 (iN d)) := fun hq hc => CL_keep hc (low3 _ _ (by omega) (by unfold sI; omega)) (low3 _ _ (by omega) (by unfold sI; omega)) (fun j => low3 _ _ (by omega) (by unfold sI; omega)) (fun j => low3 _ _ (by omega) (by unfold sI; omega))
  have sh3 : (ab_pI P2 65 1 (iN d)).2.2 = P.2.2 := hf.2.2.2
  have hL3 : CL 43 (H.2.2 (H.2.1 - 1)).2.2.1 (ab_pI P2 65 1 (iN d)) := CL_keep hf.1 (pI_ne (by decide)) (pI_ne (by decide)) (fun j => pI_ne (by decide)) (fun j => pI_ne (by decide))
  have rm3 : rmG P (ab_pI P2 65 1 (iN d)) 0 := rmG.of sh3
  have d20' : ∀ m, m < H.2.1 → (H.2.2 m).2.1 ≤ 20 := fun m hm => (ok.2.2.2 m hm).1
  refine upT (fun n j (q : ab_P) => f_196_54 43 n (iN j) q) d (fun k Q => SHW Q ∧ Q.1 65 1 = iN d ∧ Q.1 65 6 = iN (H.2.1 - 1) ∧ (∀ j m, Q.1 69 j = P.1 69 j ∧ Q.1 70 m = P.1 70 m) ∧ CL 43 (H.2.2 (H.2.1 - 1)).2.2.1 Q ∧ (∀ j, j < k → ∃ q, Q.2.2.1 66 j = some q ∧ CL q ((H.2.2 (H.2.1 - 1)).2.2.2 j) Q) ∧ (∀ m, m < H.2.1 → (∃ q, Q.2.2.1 67 m = some q ∧ CL q (H.2.2 m).2.2.1 Q) ∧ ∀ j, j < (H.2.2 m).2.1 → ∃ q, Q.2.2.1 68 (m * 20 + j) = some q ∧ CL q ((H.2.2 m).2.2.2 j) Q) ∧ frI sHI P Q ∧ rmG P Q (0 + k)) _ (fun n k Q hk hi => ?_) (fun n Q hi => ?_) N _ ⟨h1.of sh3, pI_eq, by rw [pI_nj (by decide)]; exact e66, fun j m => ⟨low3 _ _ (by decide) (by unfold sI; omega), low3 _ _ (by decide) (by unfold sI; omega)⟩, hL3, fun j hj => absurd hj (Nat.not_lt_zero _), fun m hm => ⟨?_, fun j hj => ?_⟩, f3, rm3⟩ (by omega)
  · obtain ⟨i1, i2, i3, i4, i5, i6, i7, i8, i9⟩ := hi
    have hk' : k < (H.2.2 (H.2.1 - 1)).2.1 := by rw [hd]; exact hk
    obtain ⟨q8, r1, r2⟩ := (i7 (H.2.1 - 1) (by omega)).2 k hk'
    have x20 : iN (H.2.1 - 1) * (20 : Int32) + iN k = iN ((H.2.1 - 1) * 20 + k) := by rw [iN_lit 20, iN_mul, iN_add]
    obtain ⟨P9, st9, hst9⟩ := c_store (s := 66) (j := k) (n := 20) (Or.inl rfl) i1 (by omega) (by decide) r2 (Or.inr ⟨68, (H.2.1 - 1) * 20 + k, Or.inr (Or.inr rfl), (fun e => by cases e.1), r1⟩)
    show ∃ s', f_196_54 43 (n + 1) (iN k) Q = _ ∧ _
    simp only [f_196_54, i2, i3, iN_lt (show k < 2147483648 by omega) (show d < 2147483648 by omega), hk, iN_ltl (show k < 2147483648 by omega) (show 20 < 2147483648 by decide), show k < 20 by omega, x20, iN_gT (show (H.2.1 - 1) * 20 + k < 60 by omega) (show 60 ≤ 2147483648 by decide), iN_nat (show (H.2.1 - 1) * 20 + k < 2147483648 by omega), r1, Option.bind_some, st9, iN_succ, ↓reduceIte]
    refine ⟨P9, rfl, hst9.sh, by rw [(hst9.low (by decide)).1]; exact i2, by rw [(hst9.low (by decide)).1]; exact i3, fun j m => ⟨by rw [(hst9.low (by decide)).1]; exact (i4 j m).1, by rw [(hst9.low (by decide)).1]; exact (i4 j m).2⟩, CL_keep i5 (hst9.low (by decide)).1 (hst9.low (by decide)).1 (fun j => (hst9.low (by decide)).1) (fun j => (hst9.low (by decide)).1), fun j hj => ?_, fun m hm => ⟨?_, fun j hj => ?_⟩, i8.tr (hst9.frH.mono (fun b j e => Or.inr e)), i9.tr hst9.rm⟩
    · by_cases hjk : j = k
      · obtain ⟨q, s1, s2, _⟩ := id hst9
        rw [hjk]
        exact ⟨q, s1, s2⟩
      · obtain ⟨q', q1, q2⟩ := i6 j (by omega)
        exact ⟨q', hst9.keep i1 (Or.inl rfl) (fun e => hjk e.2) q1 q2⟩
    · obtain ⟨q', q1, q2⟩ := (i7 m hm).1
      exact ⟨q', hst9.keep i1 (Or.inr (Or.inl rfl)) (fun e => by cases e.1) q1 q2⟩
    · obtain ⟨q', q1, q2⟩ := (i7 m hm).2 j hj
      exact ⟨q', hst9.keep i1 (Or.inr (Or.inr rfl)) (fun e => by cases e.1) q1 q2⟩
  · obtain ⟨i1, i2, i3, i4, i5, i6, i7, i8, i9⟩ := hi
    simp only [f_196_54, i2, i3, iN_lt (show d < 2147483648 by omega) (show d < 2147483648 by omega), Nat.lt_irrefl, if_pos gi, iN_nat (show H.2.1 - 1 < 2147483648 by omega), (i4 0 (H.2.1 - 1)).2, a2, ↓reduceIte]
    refine TT_some ⟨rfl, ⟨i1, ?_, i3, fun j hj => ?_, fun m hm => ?_⟩, i5, i8, i9.mono (by omega)⟩
    · show Q.1 65 1 = iN (H.2.2 (H.2.1 - 1)).2.1
      rw [hd]; exact i2
    · have hj' : j < (H.2.2 (H.2.1 - 1)).2.1 := hj
      rw [hd] at hj'
      exact i6 j hj'
    · have hm' : m < H.2.1 - 1 := hm
      obtain ⟨b1, b2, _, _⟩ := h5 m (by omega)
      exact ⟨by rw [(i4 m m).1]; exact b1, by rw [(i4 m m).2]; exact b2, (i7 m (by omega)).1, (i7 m (by omega)).2⟩
  · obtain ⟨_, _, ⟨q', q1, q2⟩, _⟩ := h5 m hm
    exact ⟨q', by rw [sh3]; exact q1, clk3 (h1.1 _ _ _ (Or.inr (Or.inl rfl)) q1).1 q2⟩
  · obtain ⟨_, _, _, b4⟩ := h5 m hm
    obtain ⟨r, r1, r2⟩ := b4 j hj
    exact ⟨r, by rw [sh3]; exact r1, clk3 (h1.1 _ _ _ (Or.inr (Or.inr rfl)) r1).1 r2⟩
end HH2
