/-! a text: words -/
/-- the letters from q on -/
def lw (T : TX) (q : Nat) : List Nat := (List.range (rn isLt T q - q)).map (fun i => T.1 (q + i))
def wIx (w : List Nat) : List (List Nat) → Nat → Option Nat
  | [], _ => none
  | x :: r, k => if w = x then some k else wIx w r (k + 1)
def wdS (T : TX) (ws : List (List Nat)) (s : RS) : Option Nat × RS := match s with
  | .inl q => match wIx (lw T q) ws 0 with
    | some k => (some k, .inl (sk T (rn isLt T q)))
    | none => (none, .inr (1, q))
  | .inr f => (none, .inr f)
theorem wdS_some {T : TX} {ws : List (List Nat)} {q k : Nat} (hw : wIx (lw T q) ws 0 = some k) : wdS T ws (.inl q) = (some k, .inl (sk T (rn isLt T q))) := by
  show (match wIx (lw T q) ws 0 with
    | some k => (some k, .inl (sk T (rn isLt T q)))
    | none => (none, .inr (1, q)) : Option Nat × RS) = _
  rw [hw]
theorem wdS_none {T : TX} {ws : List (List Nat)} {q : Nat} (hw : wIx (lw T q) ws 0 = none) : wdS T ws (.inl q) = (none, .inr (1, q)) := by
  show (match wIx (lw T q) ws 0 with
    | some k => (some k, .inl (sk T (rn isLt T q)))
    | none => (none, .inr (1, q)) : Option Nat × RS) = _
  rw [hw]
theorem wIx_lt {w : List Nat} : ∀ {ws : List (List Nat)} {k n : Nat}, wIx w ws k = some n → n < k + ws.length
  | [], _, _, h => by cases h
  | x :: r, k, n, h => by
    unfold wIx at h
    split at h
    · cases h
      simp
    · have := wIx_lt h
      simp only [List.length_cons]
      omega
theorem lw_iff {T : TX} {q : Nat} (hq : q ≤ T.2) {x : List Nat} : lw T q = x ↔ q + x.length = rn isLt T q ∧ ∀ i, i < x.length → T.1 (q + i) = x.getD i 0 := by
  have hr := rn_ge (p := isLt) hq
  unfold lw
  constructor
  · intro h
    subst h
    refine ⟨by simp; omega, fun i hi => ?_⟩
    have hi2 : i < rn isLt T q - q := by simpa using hi
    simp [List.getD_eq_getElem?_getD, hi2]
  · intro h
    apply List.ext_getElem
    · simp
      omega
    · intro i h1 h2
      have hi2 : i < rn isLt T q - q := by simpa using h1
      have h3 := h.2 i h2
      rw [List.getElem_map, List.getElem_range, h3]
      simp [List.getD_eq_getElem?_getD, h2]
theorem isLt_T {c : Nat} (h : isLt c = true) : 97 ≤ c ∧ c ≤ 122 := by
  unfold isLt at h
  simpa using h
theorem isLt_F {c : Nat} (h : isLt c = false) : c < 97 ∨ 122 < c := by
  unfold isLt at h
  simp at h
  omega
theorem c_isLt (P : ab_P) {c : Nat} (hc : c < 256) : f_348 P (iN c) = some (bI (isLt c)) := by
  unfold f_348
  simp only [show (iN c < (97 : Int32)) = (c < 97) from iN_ltl (by omega) (by decide), show ((122 : Int32) < iN c) = (122 < c) from iN_lll (by omega) (by decide)]
  cases h : isLt c with
  | true =>
    have := isLt_T h
    rw [if_neg (by omega), if_neg (by omega)]
    rfl
  | false =>
    have := isLt_F h
    by_cases h1 : c < 97
    · rw [if_pos h1]
      rfl
    · rw [if_neg h1, if_pos (by omega)]
      rfl
/-! a word among words: the component goes through them sign by sign -/
def pre (T : TX) (q e : Nat) (x : List Nat) (i : Nat) : Bool := allN (fun j => decide (q + j < e) && decide (T.1 (q + j) = x.getD j 0)) i
section FD
variable {T : TX} {P : ab_P} {q e len : Nat} {ch : Nat → Nat} {F : Nat → Int32 → Int32 → Int32 → Int32 → Int32 → Option Int32}
theorem c_fd1 (ok : okT T) (h : CT T P) (hqe : q ≤ e) (he : e ≤ T.2) (hlen : len < 1000) (hF : ∀ n x2 x3 x4 x5 w, w ≤ len → F (n + 1) x2 x3 x4 x5 (iN w) = f_349_0_43 P (fun y0 y1 y2 y3 y4 => F n y0 y1 y2 y3 y4) x2 x3 x4 x5 (iN w) (iN (ch w))) {x : List Nat} {w0 k : Nat} (hx : ∀ i, i < x.length → ch (w0 + i) = x.getD i 0 ∧ x.getD i 0 ≠ 32 ∧ x.getD i 0 < 256) (hl : w0 + x.length ≤ len) : ∀ c i n, i + c = x.length → F (n + c) (iN e) (iN k) (iN (q + i)) (bI (pre T q e x i)) (iN (w0 + i)) = F n (iN e) (iN k) (iN (q + x.length)) (bI (pre T q e x x.length)) (iN (w0 + x.length)) := by
  have h6 := ok.1
  intro c
  induction c with
  | zero =>
    intro i n hi
    have : i = x.length := by omega
    subst this
    rfl
  | succ c ih =>
    intro i n hi
    by_cases hqb : q + x.length < 2147483648
    · obtain ⟨g1, g2, g3⟩ := hx i (by omega)
      have e1 : pre T q e x (i + 1) = (pre T q e x i && (decide (q + i < e) && decide (T.1 (q + i) = x.getD i 0))) := rfl
      rw [show n + (c + 1) = (n + c) + 1 by omega, hF _ _ _ _ _ _ (by omega), g1, ← ih (i + 1) n (by omega), e1]
      unfold f_349_0_43
      rw [if_neg (by rw [iN_eql (by omega) (by decide)]; exact g2), iN_succ, iN_succ]
      cases hp : pre T q e x i with
      | false => rw [if_pos (show bI false = 0 from rfl)]; rfl
      | true =>
        rw [if_neg (by decide)]
        have elt : (iN (q + i) < iN e) = (q + i < e) := iN_lt (by omega) (by omega)
        simp only [elt]
        by_cases h1 : q + i < e
        · have hb := ok.2 (q + i)
          rw [if_pos h1, c_byte h ok (by omega), Option.bind_some]
          have eeq : (iN (T.1 (q + i)) = iN (x.getD i 0)) = (T.1 (q + i) = x.getD i 0) := iN_eq (by omega) (by omega)
          simp only [eeq]
          by_cases h2 : T.1 (q + i) = x.getD i 0
          · rw [if_pos h2]
            simp only [h1, h2, decide_true, Bool.and_true]
            rfl
          · rw [if_neg h2]
            simp only [h2, decide_false, Bool.and_false]
            rfl
        · rw [if_neg h1]
          simp only [h1, decide_false, Bool.and_false, Bool.false_and]
          rfl
    · exfalso
      omega
theorem c_fd2 (ok : okT T) (h : CT T P) (h4 : P.1 1 4 = iN q) (hq : q ≤ T.2) (he : e = rn isLt T q) (hlen : len < 1000) (hF : ∀ n x2 x3 x4 x5 w, w ≤ len → F (n + 1) x2 x3 x4 x5 (iN w) = f_349_0_43 P (fun y0 y1 y2 y3 y4 => F n y0 y1 y2 y3 y4) x2 x3 x4 x5 (iN w) (iN (ch w))) {x : List Nat} {w0 k n : Nat} (hx : ch (w0 + x.length) = 32) (hl : w0 + x.length ≤ len) : F (n + 1) (iN e) (iN k) (iN (q + x.length)) (bI (pre T q e x x.length)) (iN (w0 + x.length)) = if lw T q = x then some (iN k) else F n (iN e) (iN (k + 1)) (iN q) 1 (iN (w0 + x.length + 1)) := by
  have h6 := ok.1
  have hr2 := rn_le (p := isLt) hq
  rw [hF _ _ _ _ _ _ hl, hx]
  unfold f_349_0_43
  rw [if_pos (by decide), h4, iN_succ, iN_succ]
  cases hp : pre T q e x x.length with
  | false =>
    rw [if_pos (show bI false = 0 from rfl), if_neg (fun e9 => ?_)]
    have := (lw_iff hq).mp e9
    have h9 : pre T q e x x.length = true := allN_iff.mpr (fun i hi => by
      simp only [Bool.and_eq_true, decide_eq_true_eq]
      exact ⟨by omega, this.2 i hi⟩)
    rw [h9] at hp
    cases hp
  | true =>
    have h9 := allN_iff.mp hp
    rw [if_neg (by decide)]
    have eeq : (iN (q + x.length) = iN e) = (q + x.length = e) := iN_eq (by omega) (by omega)
    simp only [eeq]
    by_cases h1 : q + x.length = e
    · rw [if_pos h1, if_pos ((lw_iff hq).mpr ⟨by omega, fun i hi => ?_⟩)]
      have := h9 i hi
      simp only [Bool.and_eq_true, decide_eq_true_eq] at this
      exact this.2
    · rw [if_neg h1, if_neg (fun e9 => h1 (by rw [he]; exact ((lw_iff hq).mp e9).1))]
def lay (ch : Nat → Nat) (len : Nat) : List (List Nat) → Nat → Bool
  | [], w0 => decide (w0 = len + 1)
  | x :: r, w0 => allN (fun i => decide (ch (w0 + i) = x.getD i 0) && decide (x.getD i 0 ≠ 32) && decide (x.getD i 0 < 256)) x.length && decide (ch (w0 + x.length) = 32) && decide (w0 + x.length ≤ len) && lay ch len r (w0 + x.length + 1)
theorem c_find (ok : okT T) (h : CT T P) (h4 : P.1 1 4 = iN q) (hq : q ≤ T.2) (hlen : len < 1000) (hF : ∀ n x2 x3 x4 x5 w, w ≤ len → F (n + 1) x2 x3 x4 x5 (iN w) = f_349_0_43 P (fun y0 y1 y2 y3 y4 => F n y0 y1 y2 y3 y4) x2 x3 x4 x5 (iN w) (iN (ch w))) (hG : ∀ n x2 x3 x4 x5, F (n + 1) x2 x3 x4 x5 (iN (len + 1)) = some (-1)) : ∀ (ws : List (List Nat)) (k w0 n : Nat), lay ch len ws w0 = true → len + 3 ≤ n + w0 → F n (iN (rn isLt T q)) (iN k) (iN q) 1 (iN w0) = some (oN (wIx (lw T q) ws k))
  | [], k, w0, n, hl, hn => by
    have : w0 = len + 1 := by simpa [lay] using hl
    subst this
    obtain ⟨n, rfl⟩ : ∃ z, n = z + 1 := ⟨n - 1, by omega⟩
    rw [hG]
    rfl
  | x :: r, k, w0, n, hl, hn => by
    have hr1 := rn_ge (p := isLt) hq
    have hr2 := rn_le (p := isLt) hq
    unfold lay at hl
    simp only [Bool.and_eq_true, decide_eq_true_eq] at hl
    obtain ⟨⟨⟨l1, l2⟩, l3⟩, l4⟩ := hl
    have l5 : ∀ i, i < x.length → ch (w0 + i) = x.getD i 0 ∧ x.getD i 0 ≠ 32 ∧ x.getD i 0 < 256 := fun i hi => by
      have := allN_iff.mp l1 i hi
      simp only [Bool.and_eq_true, decide_eq_true_eq] at this
      exact ⟨this.1.1, this.1.2, this.2⟩
    obtain ⟨m, rfl⟩ : ∃ m, n = (m + 1) + x.length := ⟨n - 1 - x.length, by omega⟩
    have s1 := c_fd1 (q := q) (k := k) ok h hr1 hr2 hlen hF l5 l3 x.length 0 (m + 1) (by omega)
    rw [show q + 0 = q from rfl, show w0 + 0 = w0 from rfl, show bI (pre T q (rn isLt T q) x 0) = 1 from rfl] at s1
    rw [s1, c_fd2 ok h h4 hq rfl hlen hF l2 l3]
    unfold wIx
    by_cases hw : lw T q = x
    · rw [if_pos hw, if_pos hw]
      rfl
    · rw [if_neg hw, if_neg hw]
      exact c_find ok h h4 hq hlen hF hG r (k + 1) (w0 + x.length + 1) m l4 (by omega)
end FD
def P00 : ab_P := (fun _ _ => 0, fun _ _ => 0, fun _ _ => none, fun _ => (0, 0, 0), 0, 0, 0)

def wsT : List (List Nat) := [[112, 101, 114, 115, 111, 110], [119, 114, 111, 110, 103], [102, 97, 108, 115, 101], [105, 110, 116, 101, 114, 101, 115, 116], [98, 105, 116, 101]]
def ch0 (w : Nat) : Nat := ([112, 101, 114, 115, 111, 110, 32, 119, 114, 111, 110, 103, 32, 102, 97, 108, 115, 101, 32, 105, 110, 116, 101, 114, 101, 115, 116, 32, 98, 105, 116, 101] ++ [32]).getD w 0
theorem ch0_ok : ∀ w, w < 32 → f_355_0 P00 (iN w) = some (iN (ch0 w)) := by decide +kernel
theorem lay0 : lay ch0 32 wsT 0 = true := by decide +kernel
theorem hF0 (P : ab_P) (n : Nat) (x2 x3 x4 x5 : Int32) (w : Nat) (hw : w ≤ 32) : f_349_0_14 P (n + 1) x2 x3 x4 x5 (iN w) = f_349_0_43 P (fun y0 y1 y2 y3 y4 => f_349_0_14 P n y0 y1 y2 y3 y4) x2 x3 x4 x5 (iN w) (iN (ch0 w)) := by
  have e : f_354_0 P = some (iN 32) := (show f_354_0 P = f_354_0 P00 from rfl).trans (by decide +kernel)
  have e0 : f_349_0_14 P (n + 1) x2 x3 x4 x5 (iN w) = Option.bind (f_354_0 P) fun v1 => if v1 < iN w then some (-1 : Int32) else Option.bind (f_354_0 P) fun v2 => if iN w < v2 then Option.bind (f_355_0 P (iN w)) fun v3 => f_349_0_43 P (fun y0 y1 y2 y3 y4 => f_349_0_14 P n y0 y1 y2 y3 y4) x2 x3 x4 x5 (iN w) v3 else f_349_0_43 P (fun y0 y1 y2 y3 y4 => f_349_0_14 P n y0 y1 y2 y3 y4) x2 x3 x4 x5 (iN w) (32 : Int32) := rfl
  rw [e0, e, Option.bind_some, if_neg (by rw [iN_lt (by omega) (by omega)]; omega), Option.bind_some]
  by_cases h : w < 32
  · rw [if_pos (by rw [iN_lt (by omega) (by omega)]; exact h), show f_355_0 P (iN w) = f_355_0 P00 (iN w) from rfl, ch0_ok w h, Option.bind_some]
  · have : w = 32 := by omega
    subst this
    rw [if_neg (by decide)]
    rfl
theorem hG0 (P : ab_P) (n : Nat) (x2 x3 x4 x5 : Int32) : f_349_0_14 P (n + 1) x2 x3 x4 x5 (iN (32 + 1)) = some (-1) := by
  have e : f_354_0 P = some (iN 32) := (show f_354_0 P = f_354_0 P00 from rfl).trans (by decide +kernel)
  unfold f_349_0_14
  rw [e, Option.bind_some, if_pos (by decide)]
section WD0
variable {T : TX} {P : ab_P} {N q : Nat} {s : RS}
theorem c_let0 (h : CT T P) (ok : okT T) : ∀ d a n, T.2 - a = d → a ≤ T.2 → d < n → f_320_0_32 N n (iN a) (iN a) P = f_320_0_61 N (iN (rn isLt T a)) P := by
  have h6 := ok.1
  intro d
  induction d with
  | zero =>
    intro a n hd ha hn
    obtain ⟨n, rfl⟩ : ∃ z, n = z + 1 := ⟨n - 1, by omega⟩
    unfold f_320_0_32
    rw [h.1, if_neg (by rw [iN_lt (by omega) (by omega)]; omega), rn_end (by omega)]
  | succ d ih =>
    intro a n hd ha hn
    obtain ⟨n, rfl⟩ : ∃ z, n = z + 1 := ⟨n - 1, by omega⟩
    have hc := ok.2 a
    unfold f_320_0_32
    rw [h.1, if_pos (by rw [iN_lt (by omega) (by omega)]; omega), c_byte h ok (by omega), Option.bind_some, c_isLt P hc, Option.bind_some]
    cases hp : isLt (T.1 a) with
    | false =>
      rw [if_pos (show bI false = 0 from rfl), rn_n (by omega) hp]
    | true =>
      rw [if_neg (by decide), iN_succ a, ih (a + 1) n (by omega) (by omega) (by omega), rn_y (by omega) hp]
theorem c_word0 (h : CR T s P) (ok : okT T) (hN : 70000 ≤ N) : TT (f_320_0 N P) (fun r => r.1 = oN (wdS T wsT s).1 ∧ CR T (wdS T wsT s).2 r.2 ∧ (∀ q, s = .inl q → r.2.1 1 4 = iN q) ∧ fr sTp P r.2) := by
  have h6 := ok.1
  unfold f_320_0
  cases s with
  | inr f =>
    rw [if_neg h.no]
    exact TT_some ⟨rfl, h, fun q e => (by cases e), fr.rf⟩
  | inl q =>
    have hq := h.qq
    have f1 : fr sTp P (ab_pI P 1 3 (iN q)) := fr.I (by unfold sTp; omega)
    rw [if_pos h.ok, c_nxt h ok hN, b2_some, show (ab_pI P 1 3 (iN q)).1 1 3 = iN q from pI_eq, lt_eq]
    have g := (h.at').mk4 (x := iN q)
    have f2 : fr sTp P (ab_pI (ab_pI P 1 3 (iN q)) 1 4 (iN q)) := f1.tr (fr.I (by unfold sTp; omega))
    have e4 : (ab_pI (ab_pI P 1 3 (iN q)) 1 4 (iN q)).1 1 4 = iN q := pI_eq
    have e3 : (ab_pI (ab_pI P 1 3 (iN q)) 1 4 (iN q)).1 1 3 = iN q := by rw [pI_nj (by decide)]; exact pI_eq
    generalize ab_pI (ab_pI P 1 3 (iN q)) 1 4 (iN q) = P1 at g f2 e4 e3 ⊢
    have hr1 := rn_ge (p := isLt) hq.1
    have hr2 := rn_le (p := isLt) hq.1
    rw [e3, c_let0 g.1 ok (T.2 - q) q N rfl hq.1 (by omega)]
    unfold f_320_0_61
    have fin : TT (f_320_0_79 (iN (rn isLt T q)) (oN (wIx (lw T q) wsT 0)) P1) (fun r => r.1 = oN (wdS T wsT (.inl q)).1 ∧ CR T (wdS T wsT (.inl q)).2 r.2 ∧ (∀ q', (Sum.inl q : RS) = .inl q' → r.2.1 1 4 = iN q') ∧ fr sTp P r.2) := by
      unfold f_320_0_79
      cases hw : wIx (lw T q) wsT 0 with
      | none =>
        rw [wdS_none hw, oN_none, if_pos rfl, e4]
        refine TT_bind (c_blameF g (k := 1) (p := q) (by decide) (by decide)) (fun r hr => TT_some ⟨rfl, hr.1, fun q' e => ?_, f2.tr (hr.2.mono (fun b j e => by unfold sTp; omega))⟩)
        cases e
        exact (hr.2.1 1 4 (by omega)).trans e4
      | some k =>
        have hk := wIx_lt hw
        have hk2 : k < 20 := Nat.lt_of_lt_of_le hk (by decide)
        rw [wdS_some hw, oN_some, if_neg (by rw [iN_nm1 (by omega)]; exact id), lt_eq]
        refine TT_some ⟨rfl, g.at hr2, fun q' e => ?_, f2.tr (fr.I (by unfold sTp; omega))⟩
        cases e
        rw [pI_nj (by decide)]
        exact e4
    rw [e4]
    by_cases hl : q < rn isLt T q
    · rw [if_pos (by rw [iN_lt (by omega) (by omega)]; exact hl)]
      unfold f_349_0
      rw [e4]
      have := c_find ok g.1 e4 hq.1 (len := 32) (by decide) (fun n x2 x3 x4 x5 w hw => hF0 P1 n x2 x3 x4 x5 w hw) (fun n x2 x3 x4 x5 => hG0 P1 n x2 x3 x4 x5) wsT 0 0 N lay0 (by omega)
      rw [show (iN 0 : Int32) = 0 from rfl] at this
      rw [this, Option.bind_some]
      exact fin
    · rw [if_neg (by rw [iN_lt (by omega) (by omega)]; exact hl)]
      have e0 : lw T q = [] := by
        unfold lw
        rw [show rn isLt T q - q = 0 by omega]
        rfl
      rw [e0] at fin
      exact fin
end WD0
def wsL : List (List Nat) := [[115, 105, 122, 101], [97, 103, 101], [116, 101, 109, 112, 101, 114], [104, 101, 97, 116], [112, 97, 115, 115, 101, 100], [116, 111, 108, 100], [100, 97, 121], [104, 101, 108, 100], [108, 101, 97, 115, 116], [109, 111, 115, 116]]
def ch1 (w : Nat) : Nat := ([115, 105, 122, 101, 32, 97, 103, 101, 32, 116, 101, 109, 112, 101, 114, 32, 104, 101, 97, 116, 32, 112, 97, 115, 115, 101, 100, 32, 116, 111, 108, 100, 32, 100, 97, 121, 32, 104, 101, 108, 100, 32, 108, 101, 97, 115, 116, 32, 109, 111, 115, 116] ++ [32]).getD w 0
theorem ch1_ok : ∀ w, w < 52 → f_355_1 P00 (iN w) = some (iN (ch1 w)) := by decide +kernel
theorem lay1 : lay ch1 52 wsL 0 = true := by decide +kernel
theorem hF1 (P : ab_P) (n : Nat) (x2 x3 x4 x5 : Int32) (w : Nat) (hw : w ≤ 52) : f_349_1_14 P (n + 1) x2 x3 x4 x5 (iN w) = f_349_0_43 P (fun y0 y1 y2 y3 y4 => f_349_1_14 P n y0 y1 y2 y3 y4) x2 x3 x4 x5 (iN w) (iN (ch1 w)) := by
  have e : f_354_1 P = some (iN 52) := (show f_354_1 P = f_354_1 P00 from rfl).trans (by decide +kernel)
  have e0 : f_349_1_14 P (n + 1) x2 x3 x4 x5 (iN w) = Option.bind (f_354_1 P) fun v1 => if v1 < iN w then some (-1 : Int32) else Option.bind (f_354_1 P) fun v2 => if iN w < v2 then Option.bind (f_355_1 P (iN w)) fun v3 => f_349_0_43 P (fun y0 y1 y2 y3 y4 => f_349_1_14 P n y0 y1 y2 y3 y4) x2 x3 x4 x5 (iN w) v3 else f_349_0_43 P (fun y0 y1 y2 y3 y4 => f_349_1_14 P n y0 y1 y2 y3 y4) x2 x3 x4 x5 (iN w) (32 : Int32) := rfl
  rw [e0, e, Option.bind_some, if_neg (by rw [iN_lt (by omega) (by omega)]; omega), Option.bind_some]
  by_cases h : w < 52
  · rw [if_pos (by rw [iN_lt (by omega) (by omega)]; exact h), show f_355_1 P (iN w) = f_355_1 P00 (iN w) from rfl, ch1_ok w h, Option.bind_some]
  · have : w = 52 := by omega
    subst this
    rw [if_neg (by decide)]
    rfl
theorem hG1 (P : ab_P) (n : Nat) (x2 x3 x4 x5 : Int32) : f_349_1_14 P (n + 1) x2 x3 x4 x5 (iN (52 + 1)) = some (-1) := by
  have e : f_354_1 P = some (iN 52) := (show f_354_1 P = f_354_1 P00 from rfl).trans (by decide +kernel)
  unfold f_349_1_14
  rw [e, Option.bind_some, if_pos (by decide)]
section WD1
variable {T : TX} {P : ab_P} {N q : Nat} {s : RS}
theorem c_let1 (h : CT T P) (ok : okT T) : ∀ d a n, T.2 - a = d → a ≤ T.2 → d < n → f_320_1_32 N n (iN a) (iN a) P = f_320_1_61 N (iN (rn isLt T a)) P := by
  have h6 := ok.1
  intro d
  induction d with
  | zero =>
    intro a n hd ha hn
    obtain ⟨n, rfl⟩ : ∃ z, n = z + 1 := ⟨n - 1, by omega⟩
    unfold f_320_1_32
    rw [h.1, if_neg (by rw [iN_lt (by omega) (by omega)]; omega), rn_end (by omega)]
  | succ d ih =>
    intro a n hd ha hn
    obtain ⟨n, rfl⟩ : ∃ z, n = z + 1 := ⟨n - 1, by omega⟩
    have hc := ok.2 a
    unfold f_320_1_32
    rw [h.1, if_pos (by rw [iN_lt (by omega) (by omega)]; omega), c_byte h ok (by omega), Option.bind_some, c_isLt P hc, Option.bind_some]
    cases hp : isLt (T.1 a) with
    | false =>
      rw [if_pos (show bI false = 0 from rfl), rn_n (by omega) hp]
    | true =>
      rw [if_neg (by decide), iN_succ a, ih (a + 1) n (by omega) (by omega) (by omega), rn_y (by omega) hp]
theorem c_word1 (h : CR T s P) (ok : okT T) (hN : 70000 ≤ N) : TT (f_320_1 N P) (fun r => r.1 = oN (wdS T wsL s).1 ∧ CR T (wdS T wsL s).2 r.2 ∧ (∀ q, s = .inl q → r.2.1 1 4 = iN q) ∧ fr sTp P r.2) := by
  have h6 := ok.1
  unfold f_320_1
  cases s with
  | inr f =>
    rw [if_neg h.no]
    exact TT_some ⟨rfl, h, fun q e => (by cases e), fr.rf⟩
  | inl q =>
    have hq := h.qq
    have f1 : fr sTp P (ab_pI P 1 3 (iN q)) := fr.I (by unfold sTp; omega)
    rw [if_pos h.ok, c_nxt h ok hN, b2_some, show (ab_pI P 1 3 (iN q)).1 1 3 = iN q from pI_eq, lt_eq]
    have g := (h.at').mk4 (x := iN q)
    have f2 : fr sTp P (ab_pI (ab_pI P 1 3 (iN q)) 1 4 (iN q)) := f1.tr (fr.I (by unfold sTp; omega))
    have e4 : (ab_pI (ab_pI P 1 3 (iN q)) 1 4 (iN q)).1 1 4 = iN q := pI_eq
    have e3 : (ab_pI (ab_pI P 1 3 (iN q)) 1 4 (iN q)).1 1 3 = iN q := by rw [pI_nj (by decide)]; exact pI_eq
    generalize ab_pI (ab_pI P 1 3 (iN q)) 1 4 (iN q) = P1 at g f2 e4 e3 ⊢
    have hr1 := rn_ge (p := isLt) hq.1
    have hr2 := rn_le (p := isLt) hq.1
    rw [e3, c_let1 g.1 ok (T.2 - q) q N rfl hq.1 (by omega)]
    unfold f_320_1_61
    have fin : TT (f_320_1_79 (iN (rn isLt T q)) (oN (wIx (lw T q) wsL 0)) P1) (fun r => r.1 = oN (wdS T wsL (.inl q)).1 ∧ CR T (wdS T wsL (.inl q)).2 r.2 ∧ (∀ q', (Sum.inl q : RS) = .inl q' → r.2.1 1 4 = iN q') ∧ fr sTp P r.2) := by
      unfold f_320_1_79
      cases hw : wIx (lw T q) wsL 0 with
      | none =>
        rw [wdS_none hw, oN_none, if_pos rfl, e4]
        refine TT_bind (c_blameF g (k := 1) (p := q) (by decide) (by decide)) (fun r hr => TT_some ⟨rfl, hr.1, fun q' e => ?_, f2.tr (hr.2.mono (fun b j e => by unfold sTp; omega))⟩)
        cases e
        exact (hr.2.1 1 4 (by omega)).trans e4
      | some k =>
        have hk := wIx_lt hw
        have hk2 : k < 20 := Nat.lt_of_lt_of_le hk (by decide)
        rw [wdS_some hw, oN_some, if_neg (by rw [iN_nm1 (by omega)]; exact id), lt_eq]
        refine TT_some ⟨rfl, g.at hr2, fun q' e => ?_, f2.tr (fr.I (by unfold sTp; omega))⟩
        cases e
        rw [pI_nj (by decide)]
        exact e4
    rw [e4]
    by_cases hl : q < rn isLt T q
    · rw [if_pos (by rw [iN_lt (by omega) (by omega)]; exact hl)]
      unfold f_349_1
      rw [e4]
      have := c_find ok g.1 e4 hq.1 (len := 52) (by decide) (fun n x2 x3 x4 x5 w hw => hF1 P1 n x2 x3 x4 x5 w hw) (fun n x2 x3 x4 x5 => hG1 P1 n x2 x3 x4 x5) wsL 0 0 N lay1 (by omega)
      rw [show (iN 0 : Int32) = 0 from rfl] at this
      rw [this, Option.bind_some]
      exact fin
    · rw [if_neg (by rw [iN_lt (by omega) (by omega)]; exact hl)]
      have e0 : lw T q = [] := by
        unfold lw
        rw [show rn isLt T q - q = 0 by omega]
        rfl
      rw [e0] at fin
      exact fin
end WD1
def wsD : List (List Nat) := [[100, 97, 121], [115, 108, 97, 112], [112, 97, 115, 115], [115, 112, 108, 105, 116], [106, 111, 105, 110], [116, 101, 108, 108], [115, 111, 114, 114, 121], [119, 114, 111, 110, 103, 108, 121], [102, 111, 114, 103, 105, 118, 101], [112, 97, 121]]
def ch2 (w : Nat) : Nat := ([100, 97, 121, 32, 115, 108, 97, 112, 32, 112, 97, 115, 115, 32, 115, 112, 108, 105, 116, 32, 106, 111, 105, 110, 32, 116, 101, 108, 108, 32, 115, 111, 114, 114, 121, 32, 119, 114, 111, 110, 103, 108, 121, 32, 102, 111, 114, 103, 105, 118, 101, 32, 112, 97, 121] ++ [32]).getD w 0
theorem ch2_ok : ∀ w, w < 55 → f_355_2 P00 (iN w) = some (iN (ch2 w)) := by decide +kernel
theorem lay2 : lay ch2 55 wsD 0 = true := by decide +kernel
theorem hF2 (P : ab_P) (n : Nat) (x2 x3 x4 x5 : Int32) (w : Nat) (hw : w ≤ 55) : f_349_2_14 P (n + 1) x2 x3 x4 x5 (iN w) = f_349_0_43 P (fun y0 y1 y2 y3 y4 => f_349_2_14 P n y0 y1 y2 y3 y4) x2 x3 x4 x5 (iN w) (iN (ch2 w)) := by
  have e : f_354_2 P = some (iN 55) := (show f_354_2 P = f_354_2 P00 from rfl).trans (by decide +kernel)
  have e0 : f_349_2_14 P (n + 1) x2 x3 x4 x5 (iN w) = Option.bind (f_354_2 P) fun v1 => if v1 < iN w then some (-1 : Int32) else Option.bind (f_354_2 P) fun v2 => if iN w < v2 then Option.bind (f_355_2 P (iN w)) fun v3 => f_349_0_43 P (fun y0 y1 y2 y3 y4 => f_349_2_14 P n y0 y1 y2 y3 y4) x2 x3 x4 x5 (iN w) v3 else f_349_0_43 P (fun y0 y1 y2 y3 y4 => f_349_2_14 P n y0 y1 y2 y3 y4) x2 x3 x4 x5 (iN w) (32 : Int32) := rfl
  rw [e0, e, Option.bind_some, if_neg (by rw [iN_lt (by omega) (by omega)]; omega), Option.bind_some]
  by_cases h : w < 55
  · rw [if_pos (by rw [iN_lt (by omega) (by omega)]; exact h), show f_355_2 P (iN w) = f_355_2 P00 (iN w) from rfl, ch2_ok w h, Option.bind_some]
  · have : w = 55 := by omega
    subst this
    rw [if_neg (by decide)]
    rfl
theorem hG2 (P : ab_P) (n : Nat) (x2 x3 x4 x5 : Int32) : f_349_2_14 P (n + 1) x2 x3 x4 x5 (iN (55 + 1)) = some (-1) := by
  have e : f_354_2 P = some (iN 55) := (show f_354_2 P = f_354_2 P00 from rfl).trans (by decide +kernel)
  unfold f_349_2_14
  rw [e, Option.bind_some, if_pos (by decide)]
section WD2
variable {T : TX} {P : ab_P} {N q : Nat} {s : RS}
theorem c_let2 (h : CT T P) (ok : okT T) : ∀ d a n, T.2 - a = d → a ≤ T.2 → d < n → f_320_2_32 N n (iN a) (iN a) P = f_320_2_61 N (iN (rn isLt T a)) P := by
  have h6 := ok.1
  intro d
  induction d with
  | zero =>
    intro a n hd ha hn
    obtain ⟨n, rfl⟩ : ∃ z, n = z + 1 := ⟨n - 1, by omega⟩
    unfold f_320_2_32
    rw [h.1, if_neg (by rw [iN_lt (by omega) (by omega)]; omega), rn_end (by omega)]
  | succ d ih =>
    intro a n hd ha hn
    obtain ⟨n, rfl⟩ : ∃ z, n = z + 1 := ⟨n - 1, by omega⟩
    have hc := ok.2 a
    unfold f_320_2_32
    rw [h.1, if_pos (by rw [iN_lt (by omega) (by omega)]; omega), c_byte h ok (by omega), Option.bind_some, c_isLt P hc, Option.bind_some]
    cases hp : isLt (T.1 a) with
    | false =>
      rw [if_pos (show bI false = 0 from rfl), rn_n (by omega) hp]
    | true =>
      rw [if_neg (by decide), iN_succ a, ih (a + 1) n (by omega) (by omega) (by omega), rn_y (by omega) hp]
theorem c_word2 (h : CR T s P) (ok : okT T) (hN : 70000 ≤ N) : TT (f_320_2 N P) (fun r => r.1 = oN (wdS T wsD s).1 ∧ CR T (wdS T wsD s).2 r.2 ∧ (∀ q, s = .inl q → r.2.1 1 4 = iN q) ∧ fr sTp P r.2) := by
  have h6 := ok.1
  unfold f_320_2
  cases s with
  | inr f =>
    rw [if_neg h.no]
    exact TT_some ⟨rfl, h, fun q e => (by cases e), fr.rf⟩
  | inl q =>
    have hq := h.qq
    have f1 : fr sTp P (ab_pI P 1 3 (iN q)) := fr.I (by unfold sTp; omega)
    rw [if_pos h.ok, c_nxt h ok hN, b2_some, show (ab_pI P 1 3 (iN q)).1 1 3 = iN q from pI_eq, lt_eq]
    have g := (h.at').mk4 (x := iN q)
    have f2 : fr sTp P (ab_pI (ab_pI P 1 3 (iN q)) 1 4 (iN q)) := f1.tr (fr.I (by unfold sTp; omega))
    have e4 : (ab_pI (ab_pI P 1 3 (iN q)) 1 4 (iN q)).1 1 4 = iN q := pI_eq
    have e3 : (ab_pI (ab_pI P 1 3 (iN q)) 1 4 (iN q)).1 1 3 = iN q := by rw [pI_nj (by decide)]; exact pI_eq
    generalize ab_pI (ab_pI P 1 3 (iN q)) 1 4 (iN q) = P1 at g f2 e4 e3 ⊢
    have hr1 := rn_ge (p := isLt) hq.1
    have hr2 := rn_le (p := isLt) hq.1
    rw [e3, c_let2 g.1 ok (T.2 - q) q N rfl hq.1 (by omega)]
    unfold f_320_2_61
    have fin : TT (f_320_2_79 (iN (rn isLt T q)) (oN (wIx (lw T q) wsD 0)) P1) (fun r => r.1 = oN (wdS T wsD (.inl q)).1 ∧ CR T (wdS T wsD (.inl q)).2 r.2 ∧ (∀ q', (Sum.inl q : RS) = .inl q' → r.2.1 1 4 = iN q') ∧ fr sTp P r.2) := by
      unfold f_320_2_79
      cases hw : wIx (lw T q) wsD 0 with
      | none =>
        rw [wdS_none hw, oN_none, if_pos rfl, e4]
        refine TT_bind (c_blameF g (k := 1) (p := q) (by decide) (by decide)) (fun r hr => TT_some ⟨rfl, hr.1, fun q' e => ?_, f2.tr (hr.2.mono (fun b j e => by unfold sTp; omega))⟩)
        cases e
        exact (hr.2.1 1 4 (by omega)).trans e4
      | some k =>
        have hk := wIx_lt hw
        have hk2 : k < 20 := Nat.lt_of_lt_of_le hk (by decide)
        rw [wdS_some hw, oN_some, if_neg (by rw [iN_nm1 (by omega)]; exact id), lt_eq]
        refine TT_some ⟨rfl, g.at hr2, fun q' e => ?_, f2.tr (fr.I (by unfold sTp; omega))⟩
        cases e
        rw [pI_nj (by decide)]
        exact e4
    rw [e4]
    by_cases hl : q < rn isLt T q
    · rw [if_pos (by rw [iN_lt (by omega) (by omega)]; exact hl)]
      unfold f_349_2
      rw [e4]
      have := c_find ok g.1 e4 hq.1 (len := 55) (by decide) (fun n x2 x3 x4 x5 w hw => hF2 P1 n x2 x3 x4 x5 w hw) (fun n x2 x3 x4 x5 => hG2 P1 n x2 x3 x4 x5) wsD 0 0 N lay2 (by omega)
      rw [show (iN 0 : Int32) = 0 from rfl] at this
      rw [this, Option.bind_some]
      exact fin
    · rw [if_neg (by rw [iN_lt (by omega) (by omega)]; exact hl)]
      have e0 : lw T q = [] := by
        unfold lw
        rw [show rn isLt T q - q = 0 by omega]
        rfl
      rw [e0] at fin
      exact fin
end WD2
/-! words: the reference reads them by 27s -/
def gW (f : Nat → Nat) : Nat → Nat
  | 0 => 0
  | n + 1 => 27 * gW f n + (f n - 96)
theorem gW_inj {f g : Nat → Nat} : ∀ {n m : Nat}, (∀ i, i < n → 97 ≤ f i ∧ f i ≤ 122) → (∀ i, i < m → 97 ≤ g i ∧ g i ≤ 122) → gW f n = gW g m → n = m ∧ ∀ i, i < n → f i = g i
  | 0, 0, _, _, _ => ⟨rfl, fun i hi => absurd hi (Nat.not_lt_zero i)⟩
  | 0, m + 1, _, hg, h => by
    have := hg m (by omega)
    unfold gW at h
    omega
  | n + 1, 0, hf, _, h => by
    have := hf n (by omega)
    unfold gW at h
    omega
  | n + 1, m + 1, hf, hg, h => by
    have h1 := hf n (by omega)
    have h2 := hg m (by omega)
    unfold gW at h
    obtain ⟨e1, e2⟩ := gW_inj (f := f) (g := g) (n := n) (m := m) (fun i hi => hf i (by omega)) (fun i hi => hg i (by omega)) (by omega)
    refine ⟨by omega, fun i hi => ?_⟩
    by_cases hin : i = n
    · subst hin
      subst e1
      omega
    · exact e2 i (by omega)
theorem gW_lt {f : Nat → Nat} : ∀ {n : Nat}, (∀ i, i < n → 97 ≤ f i ∧ f i ≤ 122) → gW f n < 27 ^ n
  | 0, _ => by show 0 < 27 ^ 0; decide
  | n + 1, h => by
    have h1 := gW_lt (f := f) (n := n) (fun i hi => h i (by omega))
    have h2 := h n (by omega)
    unfold gW
    rw [Nat.pow_succ]
    omega
theorem gW_ext {f g : Nat → Nat} : ∀ {n : Nat}, (∀ i, i < n → f i = g i) → gW f n = gW g n
  | 0, _ => rfl
  | n + 1, h => by
    unfold gW
    rw [gW_ext (fun i hi => h i (by omega)), h n (by omega)]
def gL (x : List Nat) : Nat := gW (fun i => x.getD i 0) x.length
def wOk (x : List Nat) : Bool := decide (x.length ≤ 8) && allN (fun i => decide (97 ≤ x.getD i 0) && decide (x.getD i 0 ≤ 122)) x.length
theorem jN_mul (a b : Nat) : jN a * jN b = jN (a * b) := (Int64.ofNat_mul a b).symm
theorem jN_sub {a b : Nat} (h : b ≤ a) : jN a - jN b = jN (a - b) := by
  have h1 : jN (a - b) + jN b = jN a := by rw [jN_add]; congr 1; omega
  rw [← h1]
  grind
theorem iN_long : ∀ c, c < 256 → (iN c).toInt64 = jN c := by decide +kernel
section RW1
variable {T : TX} {P : ab_P} {N q : Nat} {s : RS}
theorem r_isLt (ok : okT T) (i : Nat) : f_288 P (byT T i) = some (bI (decide (i < T.2) && isLt (T.1 i))) := by
  unfold byT
  by_cases hi : i < T.2
  · rw [if_pos hi, show f_288 P (iN (T.1 i)) = f_348 P (iN (T.1 i)) from rfl, c_isLt P (ok.2 i)]
    simp [hi]
  · rw [if_neg hi]
    simp [hi]
    rfl
theorem r_word27 (ok : okT T) (h : RT T P) (hp : P.1 72 4 = iN q) (hq : q ≤ T.2) : ∀ c i n, q + i + c = rn isLt T q → c < n → f_286_8 n (jN (gW (fun j => T.1 (q + j)) (min i 9))) (iN i) P = some (if 8 < rn isLt T q - q then -1 else jN (gW (fun j => T.1 (q + j)) (rn isLt T q - q)), P) := by
  have h6 := ok.1
  have hr2 := rn_le (p := isLt) hq
  intro c
  induction c with
  | zero =>
    intro i n hi hn
    obtain ⟨n, rfl⟩ : ∃ z, n = z + 1 := ⟨n - 1, by omega⟩
    unfold f_286_8
    rw [hp, iN_add, r_byte h ok _ (by omega), Option.bind_some, r_isLt ok, Option.bind_some]
    have hs : (decide (q + i < T.2) && isLt (T.1 (q + i))) = false := by
      by_cases hl : q + i < T.2
      · have := rn_st (p := isLt) hq (by omega)
        rw [show rn isLt T q = q + i by omega] at this
        simp [this]
      · simp [hl]
    rw [hs, if_pos (show bI false = 0 from rfl), show rn isLt T q - q = i by omega]
    simp only [show ((8 : Int32) < iN i) = (8 < i) from iN_lll (by omega) (by decide)]
    by_cases h8 : 8 < i
    · rw [if_pos h8, if_pos h8]
    · rw [if_neg h8, if_neg h8, Nat.min_eq_left (by omega)]
  | succ c ih =>
    intro i n hi hn
    obtain ⟨n, rfl⟩ : ∃ z, n = z + 1 := ⟨n - 1, by omega⟩
    have hin := rn_in (p := isLt) hq (j := q + i) (by omega) (by omega)
    have hlet := isLt_T hin
    unfold f_286_8
    rw [hp, iN_add, r_byte h ok _ (by omega), Option.bind_some, r_isLt ok, Option.bind_some, hin]
    rw [if_neg (by rw [bI_0]; simp; omega), Option.bind_some, iN_succ i]
    simp only [show (iN i < (9 : Int32)) = (i < 9) from iN_ltl (by omega) (by decide)]
    have hy : byT T (q + i) = iN (T.1 (q + i)) := by unfold byT; rw [if_pos (by omega)]
    have := ih (i + 1) n (by omega) (by omega)
    by_cases h9 : i < 9
    · rw [if_pos h9, hy, iN_long _ (by omega)]
      rw [Nat.min_eq_left (by omega)] at this
      rw [Nat.min_eq_left (by omega)]
      have e : (27 : Int64) * jN (gW (fun j => T.1 (q + j)) i) + jN (T.1 (q + i)) - 97 + 1 = jN (gW (fun j => T.1 (q + j)) (i + 1)) := by
        rw [show (27 : Int64) = jN 27 from rfl, show (97 : Int64) = jN 97 from rfl, show (1 : Int64) = jN 1 from rfl, jN_mul, jN_add, jN_sub (by omega), jN_add]
        congr 1
        show _ = 27 * gW (fun j => T.1 (q + j)) i + (T.1 (q + i) - 96)
        omega
      rw [e]
      exact this
    · rw [if_neg h9]
      rw [Nat.min_eq_right (by omega)] at this
      rw [Nat.min_eq_right (by omega)]
      exact this
theorem r_isW (h : RR T (.inl q) P) (ok : okT T) (hN : 70000 ≤ N) {a1 a2 a3 a4 a5 a6 a7 a8 : Int32} {x : List Nat} (hv : f_287 P00 a1 a2 a3 a4 a5 a6 a7 a8 = some (jN (gL x))) (hx : wOk x = true) : f_206 N a1 a2 a3 a4 a5 a6 a7 a8 P = some (bI (decide (lw T q = x)), ab_pI P 72 4 (iN q)) := by
  have h6 := ok.1
  have hq := h.qq
  have hr1 := rn_ge (p := isLt) hq.1
  have hr2 := rn_le (p := isLt) hq.1
  unfold wOk at hx
  simp only [Bool.and_eq_true, decide_eq_true_eq] at hx
  have hx2 : ∀ i, i < x.length → 97 ≤ x.getD i 0 ∧ x.getD i 0 ≤ 122 := fun i hi => by
    have := allN_iff.mp hx.2 i hi
    simpa only [Bool.and_eq_true, decide_eq_true_eq] using this
  unfold f_206
  rw [if_pos h.ok]
  have g := h.at'
  have e4 : (ab_pI P 72 4 (iN q)).1 72 4 = iN q := pI_eq
  have e27 := r_word27 ok g.1 e4 hq.1 (rn isLt T q - q) 0 N (by omega) (by omega)
  have e286 : f_286 N P = some (if 8 < rn isLt T q - q then -1 else jN (gW (fun j => T.1 (q + j)) (rn isLt T q - q)), ab_pI P 72 4 (iN q)) := by
    unfold f_286
    rw [r_blank h ok hN, Option.bind_some]
    exact e27
  rw [e286, b2_some, show f_287 (ab_pI P 72 4 (iN q)) a1 a2 a3 a4 a5 a6 a7 a8 = f_287 P00 a1 a2 a3 a4 a5 a6 a7 a8 from rfl, hv, Option.bind_some]
  have hlx : gL x < 27 ^ x.length := gW_lt hx2
  have hp8 : 27 ^ x.length ≤ 27 ^ 8 := Nat.pow_le_pow_right (by decide) hx.1
  have hlet : ∀ i, i < rn isLt T q - q → 97 ≤ T.1 (q + i) ∧ T.1 (q + i) ≤ 122 := fun i hi => isLt_T (rn_in (p := isLt) hq.1 (j := q + i) (by omega) (by omega))
  have key : (lg_cmp (if 8 < rn isLt T q - q then -1 else jN (gW (fun j => T.1 (q + j)) (rn isLt T q - q))) (jN (gL x)) = 0) = (lw T q = x) := by
    rw [propext (lg_cmp_eq _ _)]
    by_cases h8 : 8 < rn isLt T q - q
    · rw [if_pos h8]
      apply propext
      constructor
      · intro e
        have := congrArg Int64.toInt e
        rw [jN_toInt (by omega)] at this
        have h2 : (-1 : Int64).toInt = -1 := by decide
        omega
      · intro e
        have := ((lw_iff hq.1).mp e).1
        omega
    · rw [if_neg h8]
      have hg := gW_lt (f := fun j => T.1 (q + j)) (n := rn isLt T q - q) hlet
      have hp9 : 27 ^ (rn isLt T q - q) ≤ 27 ^ 8 := Nat.pow_le_pow_right (by decide) (by omega)
      rw [jN_eq (by omega) (by omega)]
      apply propext
      constructor
      · intro e
        obtain ⟨c1, c2⟩ := gW_inj (f := fun j => T.1 (q + j)) (g := fun i => x.getD i 0) hlet hx2 e
        exact (lw_iff hq.1).mpr ⟨by omega, fun i hi => c2 i (by omega)⟩
      · intro e
        obtain ⟨c1, c2⟩ := (lw_iff hq.1).mp e
        unfold gL
        rw [show x.length = rn isLt T q - q by omega]
        exact gW_ext (fun i hi => c2 i (by omega))
  by_cases hk : lw T q = x
  · rw [if_pos (by rw [key]; exact hk)]
    simp [hk, bI]
  · rw [if_neg (by rw [key]; exact hk)]
    simp [hk, bI]
theorem r_isWn {f : Nat × Nat} (h : RR T (.inr f) P) (a1 a2 a3 a4 a5 a6 a7 a8 : Int32) : f_206 N a1 a2 a3 a4 a5 a6 a7 a8 P = some (0, P) := by
  unfold f_206
  rw [if_neg h.no]
theorem r_skipW (ok : okT T) : ∀ d a n (P : ab_P), RT T P → P.1 72 4 = iN a → T.2 - a = d → a ≤ T.2 → d < n → f_207 n P = some (ab_pI P 72 4 (iN (rn isLt T a))) := by
  have h6 := ok.1
  intro d
  induction d with
  | zero =>
    intro a n P h hp hd ha hn
    obtain ⟨n, rfl⟩ : ∃ z, n = z + 1 := ⟨n - 1, by omega⟩
    unfold f_207
    rw [hp, r_byte h ok _ (by omega), Option.bind_some, r_isLt ok, Option.bind_some, if_pos (by rw [bI_0]; simp; intro; omega), rn_end (by omega), pI_self hp]
  | succ d ih =>
    intro a n P h hp hd ha hn
    obtain ⟨n, rfl⟩ : ∃ z, n = z + 1 := ⟨n - 1, by omega⟩
    unfold f_207
    rw [hp, r_byte h ok _ (by omega), Option.bind_some, r_isLt ok, Option.bind_some]
    cases hi : isLt (T.1 a) with
    | false =>
      rw [if_pos (by rw [bI_0]; simp), rn_n (by omega) hi, pI_self hp]
    | true =>
      rw [if_neg (by rw [bI_0]; simp; omega), iN_succ, lt_eq, ih (a + 1) n _ (h.keep (fun b j hj => by rw [pI_at, if_neg (by omega)])) pI_eq (by omega) (by omega) (by omega), pI_pI, rn_y (by omega) hi]
theorem r_skipQ (h : RR T (.inl q) P) (hp : P.1 72 4 = iN q) (ok : okT T) (hN : 70000 ≤ N) : f_207 N P = some (ab_pI P 72 4 (iN (rn isLt T q))) ∧ RR T (.inl (sk T (rn isLt T q))) (ab_pI P 72 4 (iN (rn isLt T q))) := by
  have h6 := ok.1
  have hq := h.qq
  exact ⟨r_skipW ok _ q N P h.1 hp rfl hq.1 (by omega), h.at (rn_le hq.1)⟩
end RW1

