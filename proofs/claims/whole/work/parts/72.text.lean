/-! a text and its reading: places, blanks, letters, digits -/
abbrev TX : Type := (Nat → Nat) × Nat
def rnA (p : Nat → Bool) (f : Nat → Nat) : Nat → Nat → Nat
  | 0, a => a
  | d + 1, a => if p (f a) = true then rnA p f d (a + 1) else a
/-- on from a as long as p holds -/
def rn (p : Nat → Bool) (T : TX) (a : Nat) : Nat := rnA p T.1 (T.2 - a) a
section RN
variable {p : Nat → Bool} {T : TX} {a : Nat}
theorem rn_end (h : T.2 ≤ a) : rn p T a = a := by
  unfold rn
  rw [show T.2 - a = 0 by omega]
  rfl
theorem rn_y (h : a < T.2) (hp : p (T.1 a) = true) : rn p T a = rn p T (a + 1) := by
  unfold rn
  rw [show T.2 - a = (T.2 - (a + 1)) + 1 by omega]
  show (if p (T.1 a) = true then _ else _) = _
  rw [if_pos hp]
theorem rn_n (h : a < T.2) (hp : p (T.1 a) = false) : rn p T a = a := by
  unfold rn
  rw [show T.2 - a = (T.2 - (a + 1)) + 1 by omega]
  show (if p (T.1 a) = true then _ else _) = _
  rw [hp, if_neg (by decide)]
theorem rn_all : ∀ (d a : Nat), T.2 - a = d → a ≤ T.2 → a ≤ rn p T a ∧ rn p T a ≤ T.2 ∧ (∀ j, a ≤ j → j < rn p T a → p (T.1 j) = true) ∧ (rn p T a < T.2 → p (T.1 (rn p T a)) = false) := by
  intro d
  induction d with
  | zero =>
    intro a hd ha
    rw [rn_end (by omega)]
    exact ⟨Nat.le_refl _, ha, fun j h1 h2 => by omega, fun h => by omega⟩
  | succ d ih =>
    intro a hd ha
    cases hp : p (T.1 a) with
    | true =>
      rw [rn_y (by omega) hp]
      obtain ⟨h1, h2, h3, h4⟩ := ih (a + 1) (by omega) (by omega)
      refine ⟨by omega, h2, fun j hj1 hj2 => ?_, h4⟩
      by_cases e : j = a
      · rw [e]; exact hp
      · exact h3 j (by omega) hj2
    | false =>
      rw [rn_n (by omega) hp]
      exact ⟨Nat.le_refl _, ha, fun j h1 h2 => by omega, fun _ => hp⟩
theorem rn_ge (ha : a ≤ T.2) : a ≤ rn p T a := (rn_all _ a rfl ha).1
theorem rn_le (ha : a ≤ T.2) : rn p T a ≤ T.2 := (rn_all _ a rfl ha).2.1
theorem rn_in (ha : a ≤ T.2) {j : Nat} (h1 : a ≤ j) (h2 : j < rn p T a) : p (T.1 j) = true := (rn_all _ a rfl ha).2.2.1 j h1 h2
theorem rn_st (ha : a ≤ T.2) (h : rn p T a < T.2) : p (T.1 (rn p T a)) = false := (rn_all _ a rfl ha).2.2.2 h
theorem rn_rn (ha : a ≤ T.2) : rn p T (rn p T a) = rn p T a := by
  by_cases h : rn p T a < T.2
  · exact rn_n h (rn_st ha h)
  · exact rn_end (by omega)
end RN
def isB (c : Nat) : Bool := decide (c = 32)
def isDg (c : Nat) : Bool := decide (48 ≤ c) && decide (c ≤ 57)
def isLt (c : Nat) : Bool := decide (97 ≤ c) && decide (c ≤ 122)
def sk (T : TX) (a : Nat) : Nat := rn isB T a
def byT (T : TX) (i : Nat) : Int32 := if i < T.2 then iN (T.1 i) else -1
def okT (T : TX) : Prop := T.2 ≤ 600 ∧ ∀ j, T.1 j < 256
/-- a place, or a fault: which, where -/
abbrev RS : Type := Nat ⊕ (Nat × Nat)
def CT (T : TX) (P : ab_P) : Prop := P.1 1 2 = iN T.2 ∧ ∀ j, j < 600 → P.1 2 j &&& (255 : Int32) = iN (T.1 j)
def RT (T : TX) (P : ab_P) : Prop := P.1 72 2 = iN T.2 ∧ ∀ j, j < 600 → P.1 73 j = iN (T.1 j)
def CR (T : TX) (s : RS) (P : ab_P) : Prop := CT T P ∧ match s with
  | .inl q => P.1 1 5 = 0 ∧ P.1 1 6 = -1 ∧ ∃ a, P.1 1 3 = iN a ∧ a ≤ T.2 ∧ sk T a = q
  | .inr f => P.1 1 5 = iN f.1 ∧ 1 ≤ f.1 ∧ f.1 ≤ 3 ∧ P.1 1 6 = iN f.2
def RR (T : TX) (s : RS) (P : ab_P) : Prop := RT T P ∧ match s with
  | .inl q => P.1 72 5 = 0 ∧ P.1 72 6 = -1 ∧ ∃ a, P.1 72 4 = iN a ∧ a ≤ T.2 ∧ sk T a = q
  | .inr f => P.1 72 5 = iN f.1 ∧ 1 ≤ f.1 ∧ f.1 ≤ 3 ∧ P.1 72 6 = iN f.2 ∧ ∃ a, P.1 72 4 = iN a ∧ a ≤ T.2
def sTp (b j : Nat) : Prop := b = 1 ∧ (j = 3 ∨ j = 4 ∨ j = 5 ∨ j = 6)
def sTr (b j : Nat) : Prop := b = 72 ∧ (j = 4 ∨ j = 5 ∨ j = 6)
/-- what reading reads -/
def kTp (b j : Nat) : Prop := (b = 1 ∧ (j = 2 ∨ j = 3 ∨ j = 5 ∨ j = 6)) ∨ b = 2
def kTr (b j : Nat) : Prop := (b = 72 ∧ (j = 2 ∨ j = 4 ∨ j = 5 ∨ j = 6)) ∨ b = 73
theorem CR.keep {T : TX} {s : RS} {P P' : ab_P} (h : CR T s P) (e : ∀ b j, kTp b j → P'.1 b j = P.1 b j) : CR T s P' := by
  obtain ⟨⟨h1, h2⟩, h3⟩ := h
  refine ⟨⟨(e 1 2 (by unfold kTp; omega)).trans h1, fun j hj => by rw [e 2 j (by unfold kTp; omega)]; exact h2 j hj⟩, ?_⟩
  have e3 := e 1 3 (by unfold kTp; omega)
  have e5 := e 1 5 (by unfold kTp; omega)
  have e6 := e 1 6 (by unfold kTp; omega)
  cases s with
  | inl q =>
    obtain ⟨a1, a2, a, a3, a4⟩ := h3
    exact ⟨e5.trans a1, e6.trans a2, a, e3.trans a3, a4⟩
  | inr f =>
    obtain ⟨a1, a2, a3, a4⟩ := h3
    exact ⟨e5.trans a1, a2, a3, e6.trans a4⟩
theorem RR.keep {T : TX} {s : RS} {P P' : ab_P} (h : RR T s P) (e : ∀ b j, kTr b j → P'.1 b j = P.1 b j) : RR T s P' := by
  obtain ⟨⟨h1, h2⟩, h3⟩ := h
  refine ⟨⟨(e 72 2 (by unfold kTr; omega)).trans h1, fun j hj => by rw [e 73 j (by unfold kTr; omega)]; exact h2 j hj⟩, ?_⟩
  have e3 := e 72 4 (by unfold kTr; omega)
  have e5 := e 72 5 (by unfold kTr; omega)
  have e6 := e 72 6 (by unfold kTr; omega)
  cases s with
  | inl q =>
    obtain ⟨a1, a2, a, a3, a4⟩ := h3
    exact ⟨e5.trans a1, e6.trans a2, a, e3.trans a3, a4⟩
  | inr f =>
    obtain ⟨a1, a2, a3, a4, a, a5, a6⟩ := h3
    exact ⟨e5.trans a1, a2, a3, e6.trans a4, a, e3.trans a5, a6⟩
theorem CT.keep {T : TX} {P P' : ab_P} (h : CT T P) (e : ∀ b j, (b = 1 ∧ j = 2) ∨ b = 2 → P'.1 b j = P.1 b j) : CT T P' := ⟨(e 1 2 (by omega)).trans h.1, fun j hj => by rw [e 2 j (by omega)]; exact h.2 j hj⟩
theorem RT.keep {T : TX} {P P' : ab_P} (h : RT T P) (e : ∀ b j, (b = 72 ∧ j = 2) ∨ b = 73 → P'.1 b j = P.1 b j) : RT T P' := ⟨(e 72 2 (by omega)).trans h.1, fun j hj => by rw [e 73 j (by omega)]; exact h.2 j hj⟩
theorem pI_pI {P : ab_P} {a i : Nat} {x y : Int32} : ab_pI (ab_pI P a i x) a i y = ab_pI P a i y := by
  refine Prod.ext (funext fun b => funext fun j => ?_) rfl
  show (ab_pI (ab_pI P a i x) a i y).1 b j = (ab_pI P a i y).1 b j
  rw [pI_at, pI_at, pI_at]
  split <;> rfl
theorem pI_self {P : ab_P} {a i : Nat} {x : Int32} (h : P.1 a i = x) : ab_pI P a i x = P := by
  refine Prod.ext (funext fun b => funext fun j => ?_) rfl
  show (ab_pI P a i x).1 b j = P.1 b j
  rw [pI_at]
  split
  · rename_i e
    rw [e.1, e.2, h]
  · rfl
section SK
variable {T : TX} {P : ab_P} {N q a : Nat} {s : RS}
theorem sk_q (h : sk T a = q) (ha : a ≤ T.2) : q ≤ T.2 ∧ sk T q = q ∧ (q < T.2 → T.1 q ≠ 32) ∧ a ≤ q := by
  subst h
  refine ⟨rn_le ha, rn_rn ha, fun h e => ?_, rn_ge ha⟩
  have := rn_st (p := isB) ha h
  rw [show rn isB T a = sk T a from rfl, e] at this
  cases this
theorem CR.qq (h : CR T (.inl q) P) : q ≤ T.2 ∧ sk T q = q ∧ (q < T.2 → T.1 q ≠ 32) := by
  obtain ⟨_, _, _, a, _, h4, h5⟩ := h
  have := sk_q h5 h4
  exact ⟨this.1, this.2.1, this.2.2.1⟩
theorem RR.qq (h : RR T (.inl q) P) : q ≤ T.2 ∧ sk T q = q ∧ (q < T.2 → T.1 q ≠ 32) := by
  obtain ⟨_, _, _, a, _, h4, h5⟩ := h
  have := sk_q h5 h4
  exact ⟨this.1, this.2.1, this.2.2.1⟩
theorem CR.at (h : CR T (.inl q) P) {b : Nat} (hb : b ≤ T.2) : CR T (.inl (sk T b)) (ab_pI P 1 3 (iN b)) := by
  obtain ⟨h1, h2, h3, _⟩ := h
  refine ⟨h1.keep (fun b j hj => by rw [pI_at, if_neg (by omega)]), ?_, ?_, b, pI_eq, hb, rfl⟩
  · rw [pI_nj (by decide)]; exact h2
  · rw [pI_nj (by decide)]; exact h3
theorem CR.at' (h : CR T (.inl q) P) : CR T (.inl q) (ab_pI P 1 3 (iN q)) := by
  have := h.at (b := q) h.qq.1
  rw [h.qq.2.1] at this
  exact this
theorem CR.mk4 (h : CR T s P) {x : Int32} : CR T s (ab_pI P 1 4 x) := h.keep (fun b j hj => by rw [pI_at, if_neg (by unfold kTp at hj; omega)])
theorem RR.at (h : RR T (.inl q) P) {b : Nat} (hb : b ≤ T.2) : RR T (.inl (sk T b)) (ab_pI P 72 4 (iN b)) := by
  obtain ⟨h1, h2, h3, _⟩ := h
  refine ⟨h1.keep (fun b j hj => by rw [pI_at, if_neg (by omega)]), ?_, ?_, b, pI_eq, hb, rfl⟩
  · rw [pI_nj (by decide)]; exact h2
  · rw [pI_nj (by decide)]; exact h3
theorem RR.at' (h : RR T (.inl q) P) : RR T (.inl q) (ab_pI P 72 4 (iN q)) := by
  have := h.at (b := q) h.qq.1
  rw [h.qq.2.1] at this
  exact this
theorem CR.ok (h : CR T (.inl q) P) : P.1 1 5 = 0 := h.2.1
theorem RR.ok (h : RR T (.inl q) P) : P.1 72 5 = 0 := h.2.1
theorem f_ne {x : Int32} {k : Nat} (h : x = iN k) (h1 : 1 ≤ k) (h3 : k ≤ 3) : ¬ x = 0 := by
  rw [h, show (0 : Int32) = iN 0 from rfl, iN_eq (by omega) (by decide)]
  omega
theorem CR.no {f : Nat × Nat} (h : CR T (.inr f) P) : ¬ P.1 1 5 = 0 := f_ne h.2.1 h.2.2.1 h.2.2.2.1
theorem RR.no {f : Nat × Nat} (h : RR T (.inr f) P) : ¬ P.1 72 5 = 0 := f_ne h.2.1 h.2.2.1 h.2.2.2.1
theorem c_byte (h : CT T P) (ok : okT T) {i : Nat} (hi : i < T.2) : f_347 P (iN i) = some (iN (T.1 i)) := by
  have := ok.1
  unfold f_347
  rw [if_neg (by rw [iN_neg (by omega)]; exact id), if_pos (by rw [iN_ltl (by omega) (by decide)]; exact (show i < 600 by omega)), if_pos (iN_gi (by omega) (by omega)), iN_nat (by omega), h.2 i (by omega)]
theorem r_byte (h : RT T P) (ok : okT T) (i : Nat) (hi : i < 2000000) : f_209 P (iN i) = some (byT T i) := by
  have := ok.1
  unfold f_209 byT
  rw [h.1]
  by_cases hl : i < T.2
  · rw [if_pos (by rw [iN_lt (by omega) (by omega)]; exact hl), if_pos (iN_gi (by omega) (by omega)), iN_nat (by omega), h.2 i (by omega), if_pos hl]
  · rw [if_neg (by rw [iN_lt (by omega) (by omega)]; exact hl), if_neg hl]
theorem byT_32 (ok : okT T) {i : Nat} : (byT T i = 32) = (i < T.2 ∧ T.1 i = 32) := by
  unfold byT
  split
  · rename_i h
    rw [iN_eql (by have := ok.2 i; omega) (by decide)]
    simp [h]
  · rename_i h
    simp [h]
theorem byT_c (ok : okT T) {i c : Nat} (hc : c < 256) : (byT T i = iN c) = (i < T.2 ∧ T.1 i = c) := by
  unfold byT
  split
  · rename_i h
    rw [iN_eq (by have := ok.2 i; omega) (by omega)]
    simp [h]
  · rename_i h
    have : ((-1 : Int32) = iN c) = False := (propext eq_comm).trans (iN_nm1 (k := c) (by omega))
    rw [this]
    simp [h]
/-! blanks -/
theorem c_skip (h : CT T P) (ok : okT T) : ∀ d a n, T.2 - a = d → a ≤ T.2 → d < n → f_319_5 n (iN a) P = some (byT T (sk T a), ab_pI P 1 3 (iN (sk T a))) := by
  have h6 := ok.1
  intro d
  induction d with
  | zero =>
    intro a n hd ha hn
    obtain ⟨n, rfl⟩ : ∃ z, n = z + 1 := ⟨n - 1, by omega⟩
    have : a = T.2 := by omega
    subst this
    unfold f_319_5
    rw [h.1, if_neg (by rw [iN_lt (by omega) (by omega)]; omega)]
    unfold sk
    rw [rn_end (Nat.le_refl _)]
    unfold byT
    rw [if_neg (Nat.lt_irrefl _)]
    rfl
  | succ d ih =>
    intro a n hd ha hn
    obtain ⟨n, rfl⟩ : ∃ z, n = z + 1 := ⟨n - 1, by omega⟩
    unfold f_319_5
    rw [h.1, if_pos (by rw [iN_lt (by omega) (by omega)]; omega), c_byte h ok (by omega), Option.bind_some]
    have hc := ok.2 a
    by_cases hb : T.1 a = 32
    · rw [if_pos (by rw [iN_eql (by omega) (by decide)]; exact hb), iN_succ, ih (a + 1) n (by omega) (by omega) (by omega)]
      have : sk T a = sk T (a + 1) := rn_y (by omega) (by unfold isB; simp [hb])
      rw [this]
    · rw [if_neg (by rw [iN_eql (by omega) (by decide)]; exact hb)]
      have : sk T a = a := rn_n (by omega) (by unfold isB; simp [hb])
      rw [this]
      unfold byT
      rw [if_pos (by omega)]
      rfl
theorem c_nxt (h : CR T (.inl q) P) (ok : okT T) (hN : 70000 ≤ N) : f_319 N P = some (byT T q, ab_pI P 1 3 (iN q)) := by
  have h6 := ok.1
  obtain ⟨h1, h2, h3, a, h4, h5, h6⟩ := h
  unfold f_319
  rw [h4, c_skip h1 ok _ a N rfl h5 (by omega), h6]
theorem r_skip (ok : okT T) : ∀ d a n (P : ab_P), RT T P → P.1 72 4 = iN a → T.2 - a = d → a ≤ T.2 → d < n → f_116 n P = some (ab_pI P 72 4 (iN (sk T a))) := by
  have h6 := ok.1
  intro d
  induction d with
  | zero =>
    intro a n P h hp hd ha hn
    obtain ⟨n, rfl⟩ : ∃ z, n = z + 1 := ⟨n - 1, by omega⟩
    have : a = T.2 := by omega
    subst this
    unfold f_116
    rw [hp, r_byte h ok _ (by omega), Option.bind_some, if_neg (by rw [byT_32 ok]; omega)]
    unfold sk
    rw [rn_end (Nat.le_refl _), pI_self hp]
  | succ d ih =>
    intro a n P h hp hd ha hn
    obtain ⟨n, rfl⟩ : ∃ z, n = z + 1 := ⟨n - 1, by omega⟩
    unfold f_116
    rw [hp, r_byte h ok _ (by omega), Option.bind_some]
    by_cases hb : T.1 a = 32
    · rw [if_pos (by rw [byT_32 ok]; exact ⟨by omega, hb⟩), iN_succ, lt_eq, ih (a + 1) n _ (h.keep (fun b j hj => by rw [pI_at, if_neg (by omega)])) pI_eq (by omega) (by omega) (by omega), pI_pI]
      have : sk T a = sk T (a + 1) := rn_y (by omega) (by unfold isB; simp [hb])
      rw [this]
    · rw [if_neg (by rw [byT_32 ok]; exact fun e => hb e.2)]
      have : sk T a = a := rn_n (by omega) (by unfold isB; simp [hb])
      rw [this, pI_self hp]
theorem r_blank (h : RR T (.inl q) P) (ok : okT T) (hN : 70000 ≤ N) : f_116 N P = some (ab_pI P 72 4 (iN q)) := by
  have h6 := ok.1
  obtain ⟨h1, h2, h3, a, h4, h5, h6⟩ := h
  rw [r_skip ok _ a N P h1 h4 rfl h5 (by omega), h6]
theorem r_byq (h : RR T (.inl q) P) (ok : okT T) : f_209 (ab_pI P 72 4 (iN q)) ((ab_pI P 72 4 (iN q)).1 72 4) = some (byT T q) := by
  have h6 := ok.1
  have hq := h.qq.1
  rw [show (ab_pI P 72 4 (iN q)).1 72 4 = iN q from pI_eq]
  exact r_byte h.at'.1 ok q (by omega)
theorem r_blankF {f : Nat × Nat} (h : RR T (.inr f) P) (ok : okT T) (hN : 70000 ≤ N) : TT (f_116 N P) (fun r => RR T (.inr f) r ∧ fr sTr P r) := by
  have h6 := ok.1
  obtain ⟨h1, h2, h3, h4, h5, a, h6, h7⟩ := h
  rw [r_skip ok _ a N P h1 h6 rfl h7 (by omega)]
  refine TT_some ⟨⟨h1.keep (fun b j hj => by rw [pI_at, if_neg (by omega)]), ?_, h3, h4, ?_, sk T a, pI_eq, rn_le h7⟩, fr.I (by unfold sTr; omega)⟩
  · rw [pI_nj (by decide)]; exact h2
  · rw [pI_nj (by decide)]; exact h5
/-! a fault -/
theorem c_blameF (h : CR T (.inl q) P) {k p : Nat} (h1 : 1 ≤ k) (h3 : k ≤ 3) : TT (f_290 (iN k) (iN p) P) (fun r => CR T (.inr (k, p)) r ∧ fr (fun b j => b = 1 ∧ (j = 5 ∨ j = 6)) P r) := by
  unfold f_290
  rw [if_pos h.ok]
  refine TT_lt (TT_lt (TT_some ⟨⟨h.1.keep (fun b j hj => by rw [pI_at, if_neg (by omega), pI_at, if_neg (by omega)]), ?_, h1, h3, pI_eq⟩, (fr.I (by omega)).tr (fr.I (by omega))⟩))
  rw [pI_nj (by decide), pI_eq]
theorem c_blame (h : CR T (.inl q) P) {k p : Nat} (h1 : 1 ≤ k) (h3 : k ≤ 3) : TT (f_290 (iN k) (iN p) P) (fun r => CR T (.inr (k, p)) r ∧ fr sTp P r) := (c_blameF h h1 h3).mono (fun r hr => ⟨hr.1, hr.2.mono (fun b j e => by unfold sTp; omega)⟩)
theorem c_blamed {f : Nat × Nat} (h : CR T (.inr f) P) (k p : Int32) : f_290 k p P = some P := by
  unfold f_290
  rw [if_neg h.no]
theorem r_wrongF (h : RR T (.inl q) P) {k p : Nat} (h1 : 1 ≤ k) (h3 : k ≤ 3) : TT (f_120 (iN k) (iN p) P) (fun r => RR T (.inr (k, p)) r ∧ fr (fun b j => b = 72 ∧ (j = 5 ∨ j = 6)) P r) := by
  unfold f_120
  rw [if_pos h.ok]
  refine TT_lt (TT_lt (TT_some ⟨⟨h.1.keep (fun b j hj => by rw [pI_at, if_neg (by omega), pI_at, if_neg (by omega)]), ?_, h1, h3, pI_eq, ?_⟩, (fr.I (by omega)).tr (fr.I (by omega))⟩))
  · rw [pI_nj (by decide), pI_eq]
  · obtain ⟨_, _, _, a, a1, a2, _⟩ := h
    exact ⟨a, by rw [pI_nj (by decide), pI_nj (by decide)]; exact a1, a2⟩
theorem r_wrong (h : RR T (.inl q) P) {k p : Nat} (h1 : 1 ≤ k) (h3 : k ≤ 3) : TT (f_120 (iN k) (iN p) P) (fun r => RR T (.inr (k, p)) r ∧ fr sTr P r) := (r_wrongF h h1 h3).mono (fun r hr => ⟨hr.1, hr.2.mono (fun b j e => by unfold sTr; omega)⟩)
theorem r_wronged {f : Nat × Nat} (h : RR T (.inr f) P) (k p : Int32) : f_120 k p P = some P := by
  unfold f_120
  rw [if_neg h.no]
end SK
