/-! a text: signs and numbers -/
def sgnS (T : TX) (c : Nat) (s : RS) : RS := match s with
  | .inl q => if q < T.2 ∧ T.1 q = c then .inl (sk T (q + 1)) else .inr (1, q)
  | .inr f => .inr f
def tkS (T : TX) (c : Nat) (s : RS) : Bool × RS := match s with
  | .inl q => if q < T.2 ∧ T.1 q = c then (true, .inl (sk T (q + 1))) else (false, .inl q)
  | .inr f => (false, .inr f)
def dvA (f : Nat → Nat) : Nat → Nat → Nat → Nat
  | 0, _, v => v
  | d + 1, a, v => if isDg (f a) = true then dvA f d (a + 1) (10 * v + (f a - 48)) else v
def dv (T : TX) (a v : Nat) : Nat := dvA T.1 (T.2 - a) a v
def numS (T : TX) (lo hb : Nat) (s : RS) : Nat × RS := match s with
  | .inl q => if rn isDg T q = q then (0, .inr (1, q)) else if lo ≤ dv T q 0 ∧ dv T q 0 < hb then (dv T q 0, .inl (sk T (rn isDg T q))) else (0, .inr (2, q))
  | .inr f => (0, .inr f)
def butA (q o : Nat) (r : Nat × RS) : Nat × RS := match r.2 with
  | .inl q' => if r.1 = o then (0, .inr (2, q)) else (r.1, .inl q')
  | .inr f => (0, .inr f)
def butS (T : TX) (hb o : Nat) (s : RS) : Nat × RS := match s with
  | .inl q => butA q o (numS T 0 hb (.inl q))
  | .inr f => (0, .inr f)
theorem numS_ok {T : TX} {lo hb q w q' : Nat} (h : numS T lo hb (.inl q) = (w, .inl q')) : lo ≤ w ∧ w < hb := by
  by_cases h0 : rn isDg T q = q
  · rw [show numS T lo hb (.inl q) = (0, .inr (1, q)) from if_pos h0] at h
    cases h
  · by_cases h1 : lo ≤ dv T q 0 ∧ dv T q 0 < hb
    · rw [show numS T lo hb (.inl q) = (dv T q 0, .inl (sk T (rn isDg T q))) from (if_neg h0).trans (if_pos h1)] at h
      cases h
      exact h1
    · rw [show numS T lo hb (.inl q) = (0, .inr (2, q)) from (if_neg h0).trans (if_neg h1)] at h
      cases h
section SG
variable {T : TX} {P : ab_P} {N q a : Nat} {s : RS}
theorem c_sign {c : Nat} (hc : c < 256) (h : CR T s P) (ok : okT T) (hN : 70000 ≤ N) : TT (f_324 N (iN c) P) (fun r => CR T (sgnS T c s) r ∧ fr sTp P r) := by
  have h6 := ok.1
  unfold f_324
  cases s with
  | inr f =>
    rw [if_neg h.no]
    exact TT_some ⟨h, fr.rf⟩
  | inl q =>
    have hq := h.qq
    have f1 : fr sTp P (ab_pI P 1 3 (iN q)) := fr.I (by unfold sTp; omega)
    rw [if_pos h.ok, c_nxt h ok hN, b2_some]
    by_cases hh : q < T.2 ∧ T.1 q = c
    · rw [if_pos (by rw [byT_c ok hc]; exact hh), show sgnS T c (.inl q) = .inl (sk T (q + 1)) from if_pos hh, show (ab_pI P 1 3 (iN q)).1 1 3 = iN q from pI_eq, lt_eq]
      refine TT_some ⟨?_, f1.tr (fr.I (by unfold sTp; omega))⟩
      rw [show iN q + (1 : Int32) = iN (q + 1) from iN_succ q]
      exact h.at'.at (by omega)
    · rw [if_neg (by rw [byT_c ok hc]; exact hh), show sgnS T c (.inl q) = .inr (1, q) from if_neg hh, show (ab_pI P 1 3 (iN q)).1 1 3 = iN q from pI_eq]
      exact TT_bind (c_blame h.at' (k := 1) (p := q) (by decide) (by decide)) (fun r hr => TT_some ⟨hr.1, f1.tr hr.2⟩)
theorem c_takes {c : Nat} (hc : c < 256) (h : CR T s P) (ok : okT T) (hN : 70000 ≤ N) : TT (f_327 N (iN c) P) (fun r => r.1 = bI (tkS T c s).1 ∧ CR T (tkS T c s).2 r.2 ∧ fr sTp P r.2) := by
  have h6 := ok.1
  unfold f_327
  cases s with
  | inr f =>
    rw [if_neg h.no]
    exact TT_some ⟨rfl, h, fr.rf⟩
  | inl q =>
    have hq := h.qq
    have f1 : fr sTp P (ab_pI P 1 3 (iN q)) := fr.I (by unfold sTp; omega)
    rw [if_pos h.ok, c_nxt h ok hN, b2_some]
    by_cases hh : q < T.2 ∧ T.1 q = c
    · rw [if_pos (by rw [byT_c ok hc]; exact hh), show tkS T c (.inl q) = (true, .inl (sk T (q + 1))) from if_pos hh, show (ab_pI P 1 3 (iN q)).1 1 3 = iN q from pI_eq, lt_eq]
      refine TT_some ⟨rfl, ?_, f1.tr (fr.I (by unfold sTp; omega))⟩
      rw [show iN q + (1 : Int32) = iN (q + 1) from iN_succ q]
      exact h.at'.at (by omega)
    · rw [if_neg (by rw [byT_c ok hc]; exact hh), show tkS T c (.inl q) = (false, .inl q) from if_neg hh]
      exact TT_some ⟨rfl, h.at', f1⟩
theorem r_sign {c : Nat} (hc : c < 256) (h : RR T s P) (ok : okT T) (hN : 70000 ≤ N) : TT (f_129 N (iN c) P) (fun r => RR T (sgnS T c s) r ∧ fr sTr P r) := by
  have h6 := ok.1
  unfold f_129
  cases s with
  | inr f =>
    rw [if_neg h.no]
    exact TT_some ⟨h, fr.rf⟩
  | inl q =>
    have hq := h.qq
    have f1 : fr sTr P (ab_pI P 72 4 (iN q)) := fr.I (by unfold sTr; omega)
    rw [if_pos h.ok, r_blank h ok hN, Option.bind_some, r_byq h ok, Option.bind_some]
    by_cases hh : q < T.2 ∧ T.1 q = c
    · rw [if_pos (by rw [byT_c ok hc]; exact hh), show sgnS T c (.inl q) = .inl (sk T (q + 1)) from if_pos hh, show (ab_pI P 72 4 (iN q)).1 72 4 = iN q from pI_eq, lt_eq]
      refine TT_some ⟨?_, f1.tr (fr.I (by unfold sTr; omega))⟩
      rw [show iN q + (1 : Int32) = iN (q + 1) from iN_succ q]
      exact h.at'.at (by omega)
    · rw [if_neg (by rw [byT_c ok hc]; exact hh), show sgnS T c (.inl q) = .inr (1, q) from if_neg hh, show (ab_pI P 72 4 (iN q)).1 72 4 = iN q from pI_eq]
      exact TT_bind (r_wrong h.at' (k := 1) (p := q) (by decide) (by decide)) (fun r hr => TT_some ⟨hr.1, f1.tr hr.2⟩)
theorem r_takes {c : Nat} (hc : c < 256) (h : RR T s P) (ok : okT T) (hN : 70000 ≤ N) : TT (f_127 N (iN c) P) (fun r => r.1 = bI (tkS T c s).1 ∧ RR T (tkS T c s).2 r.2 ∧ fr sTr P r.2) := by
  have h6 := ok.1
  unfold f_127
  cases s with
  | inr f =>
    rw [if_neg h.no]
    exact TT_some ⟨rfl, h, fr.rf⟩
  | inl q =>
    have hq := h.qq
    have f1 : fr sTr P (ab_pI P 72 4 (iN q)) := fr.I (by unfold sTr; omega)
    rw [if_pos h.ok, r_blank h ok hN, Option.bind_some, r_byq h ok, Option.bind_some]
    by_cases hh : q < T.2 ∧ T.1 q = c
    · rw [if_pos (by rw [byT_c ok hc]; exact hh), show tkS T c (.inl q) = (true, .inl (sk T (q + 1))) from if_pos hh, show (ab_pI P 72 4 (iN q)).1 72 4 = iN q from pI_eq, lt_eq]
      refine TT_some ⟨rfl, ?_, f1.tr (fr.I (by unfold sTr; omega))⟩
      rw [show iN q + (1 : Int32) = iN (q + 1) from iN_succ q]
      exact h.at'.at (by omega)
    · rw [if_neg (by rw [byT_c ok hc]; exact hh), show tkS T c (.inl q) = (false, .inl q) from if_neg hh]
      exact TT_some ⟨rfl, h.at', f1⟩
/-! numbers -/
theorem dv_end {v : Nat} (h : T.2 ≤ a) : dv T a v = v := by
  unfold dv
  rw [show T.2 - a = 0 by omega]
  rfl
theorem dv_y {v : Nat} (h : a < T.2) (hp : isDg (T.1 a) = true) : dv T a v = dv T (a + 1) (10 * v + (T.1 a - 48)) := by
  unfold dv
  rw [show T.2 - a = (T.2 - (a + 1)) + 1 by omega]
  show (if isDg (T.1 a) = true then _ else _) = _
  rw [if_pos hp]
theorem dv_n {v : Nat} (h : a < T.2) (hp : isDg (T.1 a) = false) : dv T a v = v := by
  unfold dv
  rw [show T.2 - a = (T.2 - (a + 1)) + 1 by omega]
  show (if isDg (T.1 a) = true then _ else _) = _
  rw [hp, if_neg (by decide)]
theorem isDg_T {c : Nat} (h : isDg c = true) : 48 ≤ c ∧ c ≤ 57 := by
  unfold isDg at h
  simpa using h
theorem isDg_F {c : Nat} (h : isDg c = false) : c < 48 ∨ 57 < c := by
  unfold isDg at h
  simp at h
  omega
theorem c_isDg (P : ab_P) {c : Nat} (hc : c < 256) : f_351 P (iN c) = some (bI (isDg c)) := by
  unfold f_351
  simp only [show (iN c < (48 : Int32)) = (c < 48) from iN_ltl (by omega) (by decide), show ((57 : Int32) < iN c) = (57 < c) from iN_lll (by omega) (by decide)]
  cases h : isDg c with
  | true =>
    have := isDg_T h
    rw [if_neg (by omega), if_neg (by omega)]
    rfl
  | false =>
    have := isDg_F h
    by_cases h1 : c < 48
    · rw [if_pos h1]
      rfl
    · rw [if_neg h1, if_pos (by omega)]
      rfl
theorem c_digits {x1 x2 : Int32} (h : CT T P) (ok : okT T) : ∀ d a v n, T.2 - a = d → a ≤ T.2 → d < n → f_323_36 n x1 x2 (iN (min 1000000 v)) (iN a) (iN a) P = f_323_89 x1 x2 (iN (min 1000000 (dv T a v))) (iN (rn isDg T a)) P := by
  have h6 := ok.1
  intro d
  induction d with
  | zero =>
    intro a v n hd ha hn
    obtain ⟨n, rfl⟩ : ∃ z, n = z + 1 := ⟨n - 1, by omega⟩
    unfold f_323_36
    rw [h.1, if_neg (by rw [iN_lt (by omega) (by omega)]; omega), dv_end (by omega), rn_end (by omega)]
  | succ d ih =>
    intro a v n hd ha hn
    obtain ⟨n, rfl⟩ : ∃ z, n = z + 1 := ⟨n - 1, by omega⟩
    have hc := ok.2 a
    unfold f_323_36
    rw [h.1, if_pos (by rw [iN_lt (by omega) (by omega)]; omega), c_byte h ok (by omega), Option.bind_some, c_isDg P hc, Option.bind_some]
    cases hp : isDg (T.1 a) with
    | false =>
      rw [if_pos (show bI false = 0 from rfl), dv_n (by omega) hp, rn_n (by omega) hp]
    | true =>
      have h48 := isDg_T hp
      rw [if_neg (by decide), Option.bind_some, iN_succ a]
      have e : ab_mn (1000000 : Int32) (iN (min 1000000 v) * 10 + iN (T.1 a) - 48) = iN (min 1000000 (10 * v + (T.1 a - 48))) := by
        rw [iN_lit 10, iN_mul, iN_add, iN_lit 48, iN_sub (by omega), iN_lit 1000000, mn_iN (by decide) (by omega)]
        congr 1
        omega
      rw [e, ih (a + 1) _ n (by omega) (by omega) (by omega), dv_y (by omega) hp, rn_y (by omega) hp]
theorem lt_hb {a2 : Int32} {x hb : Nat} (h : a2.toInt = (hb : Int) - 1) (hx : x < 2147483648) : (a2 < iN x) = ¬ x < hb := by
  rw [Int32.lt_iff_toInt_lt, iN_toInt hx, h]
  exact propext ⟨fun _ => by omega, fun _ => by omega⟩
theorem c_num {lo hb : Nat} {a2 : Int32} (hlo : lo ≤ 1) (h2 : a2.toInt = (hb : Int) - 1) (hb9 : hb ≤ 10000) (h : CR T s P) (ok : okT T) (hN : 70000 ≤ N) : TT (f_323 N (iN lo) a2 P) (fun r => CR T (numS T lo hb s).2 r.2 ∧ (∀ q', (numS T lo hb s).2 = .inl q' → r.1 = iN (numS T lo hb s).1 ∧ ∀ q, s = .inl q → r.2.1 1 4 = iN q) ∧ fr sTp P r.2) := by
  have h6 := ok.1
  unfold f_323
  cases s with
  | inr f =>
    rw [if_neg h.no]
    exact TT_some ⟨h, fun q' e => (by cases e), fr.rf⟩
  | inl q =>
    have hq := h.qq
    have f1 : fr sTp P (ab_pI P 1 3 (iN q)) := fr.I (by unfold sTp; omega)
    rw [if_pos h.ok, c_nxt h ok hN, b2_some, show (ab_pI P 1 3 (iN q)).1 1 3 = iN q from pI_eq, lt_eq]
    have g := (h.at').mk4 (x := iN q)
    have f2 : fr sTp P (ab_pI (ab_pI P 1 3 (iN q)) 1 4 (iN q)) := f1.tr (fr.I (by unfold sTp; omega))
    have e4 : (ab_pI (ab_pI P 1 3 (iN q)) 1 4 (iN q)).1 1 4 = iN q := pI_eq
    have e3 : (ab_pI (ab_pI P 1 3 (iN q)) 1 4 (iN q)).1 1 3 = iN q := by rw [pI_nj (by decide)]; exact pI_eq
    generalize ab_pI (ab_pI P 1 3 (iN q)) 1 4 (iN q) = P1 at g f2 e4 e3 ⊢
    rw [e3]
    have ed := c_digits (x1 := iN lo) (x2 := a2) g.1 ok (T.2 - q) q 0 N rfl hq.1 (by omega)
    rw [show iN (min 1000000 0) = (0 : Int32) from rfl] at ed
    rw [ed]
    have hr1 := rn_ge (p := isDg) hq.1
    have hr2 := rn_le (p := isDg) hq.1
    unfold f_323_89
    rw [e4]
    have eqq : (iN (rn isDg T q) = iN q) = (rn isDg T q = q) := iN_eq (by omega) (by omega)
    by_cases h0 : rn isDg T q = q
    · rw [if_pos (eqq.mpr h0), show numS T lo hb (.inl q) = (0, .inr (1, q)) from if_pos h0]
      refine TT_bind (c_blame g (k := 1) (p := q) (by decide) (by decide)) (fun r hr => TT_some ⟨hr.1, fun q' e => (by cases e), f2.tr hr.2⟩)
    · rw [if_neg (fun e => h0 (eqq.mp e))]
      unfold f_323_109
      have g3 := g.at (b := rn isDg T q) hr2
      have f3 : fr sTp P (ab_pI P1 1 3 (iN (rn isDg T q))) := f2.tr (fr.I (by unfold sTp; omega))
      have e5 : (ab_pI P1 1 3 (iN (rn isDg T q))).1 1 4 = iN q := by rw [pI_nj (by decide)]; exact e4
      rw [lt_eq, e5]
      have q1 : (iN (min 1000000 (dv T q 0)) < iN lo) = (min 1000000 (dv T q 0) < lo) := iN_lt (by omega) (by omega)
      have q2 : (a2 < iN (min 1000000 (dv T q 0))) = ¬ min 1000000 (dv T q 0) < hb := lt_hb h2 (by omega)
      simp only [q1, q2]
      by_cases h1 : lo ≤ dv T q 0 ∧ dv T q 0 < hb
      · rw [show numS T lo hb (.inl q) = (dv T q 0, .inl (sk T (rn isDg T q))) from (if_neg h0).trans (if_pos h1), if_neg (by omega), if_neg (by omega)]
        refine TT_some ⟨g3, fun q' e => ⟨?_, fun q2 e2 => ?_⟩, f3⟩
        · show iN (min 1000000 (dv T q 0)) = iN (dv T q 0)
          rw [Nat.min_eq_right (by omega)]
        · cases e2
          exact e5
      · rw [show numS T lo hb (.inl q) = (0, .inr (2, q)) from (if_neg h0).trans (if_neg h1)]
        have hw := c_blame g3 (k := 2) (p := q) (by decide) (by decide)
        by_cases h4 : min 1000000 (dv T q 0) < lo
        · rw [if_pos h4]
          exact TT_bind hw (fun r hr => TT_some ⟨hr.1, fun q' e => (by cases e), f3.tr hr.2⟩)
        · rw [if_neg h4, if_pos (by omega)]
          exact TT_bind hw (fun r hr => TT_some ⟨hr.1, fun q' e => (by cases e), f3.tr hr.2⟩)
theorem c_but {hb o : Nat} {a1 a3 : Int32} (h2 : a3.toInt = (hb : Int) - 1) (hb9 : hb ≤ 10000) (ho : o < 2147483648) (ha : ∀ q, s = .inl q → a1 = iN o) (h : CR T s P) (ok : okT T) (hN : 70000 ≤ N) : TT (f_350 N a1 0 a3 P) (fun r => CR T (butS T hb o s).2 r.2 ∧ (∀ q', (butS T hb o s).2 = .inl q' → r.1 = iN (butS T hb o s).1) ∧ fr sTp P r.2) := by
  unfold f_350
  refine TT_b2 (c_num (lo := 0) (by decide) h2 hb9 h ok hN) (fun v P1 hv => ?_)
  obtain ⟨b1, b2, b3⟩ := hv
  dsimp only at b1 b2 b3
  cases s with
  | inr f =>
    have e9 : (if v = a1 then (Option.bind (f_290 2 (P1.1 1 4) P1) fun P3 => some (v, P3)) else some (v, P1)) = some (v, P1) := by
      split
      · rw [c_blamed (f := f) b1]
        rfl
      · rfl
    rw [e9]
    exact TT_some ⟨b1, fun q' e => (by cases e), b3⟩
  | inl q =>
    have e1 := ha q rfl
    subst e1
    cases hn : numS T 0 hb (.inl q) with
    | mk w s' =>
      rw [hn] at b1 b2
      cases s' with
      | inr f =>
        have e9 : (if v = iN o then (Option.bind (f_290 2 (P1.1 1 4) P1) fun P3 => some (v, P3)) else some (v, P1)) = some (v, P1) := by
          split
          · rw [c_blamed (f := f) b1]
            rfl
          · rfl
        rw [e9]
        have eb : butS T hb o (.inl q) = (0, .inr f) := by show butA q o (numS T 0 hb (.inl q)) = _; rw [hn]; rfl
        rw [eb]
        exact TT_some ⟨b1, fun q' e => (by cases e), b3⟩
      | inl q' =>
        obtain ⟨c1, c2⟩ := b2 q' rfl
        dsimp only at c1
        have c3 := c2 q rfl
        have hw : w < 10000 := Nat.lt_of_lt_of_le (numS_ok hn).2 hb9
        have eb : butS T hb o (.inl q) = if w = o then (0, .inr (2, q)) else (w, .inl q') := by show butA q o (numS T 0 hb (.inl q)) = _; rw [hn]; rfl
        rw [eb, c1, c3]
        have ew : (iN w = iN o) = (w = o) := iN_eq (by omega) ho
        simp only [ew]
        by_cases hwo : w = o
        · rw [if_pos hwo, if_pos hwo]
          exact TT_bind (c_blame b1 (k := 2) (p := q) (by decide) (by decide)) (fun r hr => TT_some ⟨hr.1, fun q' e => (by cases e), b3.tr hr.2⟩)
        · rw [if_neg hwo, if_neg hwo]
          exact TT_some ⟨b1, fun _ _ => rfl, b3⟩
/-! numbers: the reference -/
theorem r_isDg (ok : okT T) (i : Nat) : f_226 P (byT T i) = some (bI (decide (i < T.2) && isDg (T.1 i))) := by
  unfold byT
  by_cases hi : i < T.2
  · rw [if_pos hi, show f_226 P (iN (T.1 i)) = f_351 P (iN (T.1 i)) from rfl, c_isDg P (ok.2 i)]
    simp [hi]
  · rw [if_neg hi]
    simp [hi]
    rfl
def numR (x1 x2 x3 x4 : Int32) (P : ab_P) : Option (Int32 × ab_P) := Option.bind (f_112 P x4 x1 x2) fun v7 => if v7 = (0 : Int32) then Option.bind (f_120 (2 : Int32) x3 P) fun P8 => if (P8.1 72 5) = (0 : Int32) then some (x4, P8) else some ((0 : Int32), P8) else if (P.1 72 5) = (0 : Int32) then some (x4, P) else some ((0 : Int32), P)
theorem r_digits {x1 x2 x3 : Int32} (ok : okT T) : ∀ d a v n (P : ab_P), RT T P → P.1 72 4 = iN a → T.2 - a = d → a ≤ T.2 → d < n → f_128_44 n x1 x2 x3 (iN (min 100000 v)) P = numR x1 x2 x3 (iN (min 100000 (dv T a v))) (ab_pI P 72 4 (iN (rn isDg T a))) := by
  have h6 := ok.1
  intro d
  induction d with
  | zero =>
    intro a v n P h hp hd ha hn
    obtain ⟨n, rfl⟩ : ∃ z, n = z + 1 := ⟨n - 1, by omega⟩
    unfold f_128_44
    rw [hp, r_byte h ok _ (by omega), Option.bind_some, r_isDg ok, Option.bind_some, if_pos (by rw [bI_0]; simp; intro; omega), dv_end (by omega), rn_end (by omega), pI_self hp]
    rfl
  | succ d ih =>
    intro a v n P h hp hd ha hn
    obtain ⟨n, rfl⟩ : ∃ z, n = z + 1 := ⟨n - 1, by omega⟩
    have hc := ok.2 a
    unfold f_128_44
    rw [hp, r_byte h ok _ (by omega), Option.bind_some, r_isDg ok, Option.bind_some, Option.bind_some]
    cases hi : isDg (T.1 a) with
    | false =>
      rw [if_pos (by rw [bI_0]; simp), dv_n (by omega) hi, rn_n (by omega) hi, pI_self hp]
      rfl
    | true =>
      have h48 := isDg_T hi
      have hy : byT T a = iN (T.1 a) := by unfold byT; rw [if_pos (by omega)]
      rw [if_neg (by rw [bI_0]; simp; omega), hy, iN_succ]
      have e : (10 : Int32) * iN (min 100000 v) + iN (T.1 a) - 48 = iN (10 * min 100000 v + (T.1 a - 48)) := by
        rw [iN_lit 10, iN_mul, iN_add, iN_lit 48, iN_sub (by omega)]
        congr 1
        omega
      have ee := ih (a + 1) (10 * v + (T.1 a - 48)) n (ab_pI P 72 4 (iN (a + 1))) (h.keep (fun b j hj => by rw [pI_at, if_neg (by omega)])) pI_eq (by omega) (by omega) (by omega)
      rw [pI_pI] at ee
      have e1 : ((100000 : Int32) < iN (10 * min 100000 v + (T.1 a - 48))) = (100000 < 10 * min 100000 v + (T.1 a - 48)) := iN_lll (by omega) (by decide)
      rw [e, dv_y (by omega) hi, rn_y (by omega) hi]
      simp only [e1]
      by_cases h9 : 100000 < 10 * min 100000 v + (T.1 a - 48)
      · rw [if_pos h9, lt_eq, show (100000 : Int32) = iN (min 100000 (10 * v + (T.1 a - 48))) by rw [Nat.min_eq_left (by omega)]; rfl]
        exact ee
      · rw [if_neg h9, lt_eq, show 10 * min 100000 v + (T.1 a - 48) = min 100000 (10 * v + (T.1 a - 48)) by omega]
        exact ee
theorem r_in (P : ab_P) {x lo hb : Nat} {a2 : Int32} (h2 : a2.toInt = (hb : Int) - 1) (hx : x < 2147483648) (hl : lo < 2147483648) : f_112 P (iN x) (iN lo) a2 = some (bI (decide (lo ≤ x) && decide (x < hb))) := by
  unfold f_112
  simp only [iN_lt hx hl, lt_hb h2 hx]
  by_cases h1 : lo ≤ x
  · by_cases h3 : x < hb
    · rw [if_neg (by omega), if_neg (fun e => e h3)]
      simp [h1, h3, bI]
    · rw [if_neg (by omega), if_pos h3]
      simp [h3, bI]
  · rw [if_pos (by omega)]
    simp [h1, bI]
theorem r_num {lo hb : Nat} {a2 : Int32} (hlo : lo ≤ 1) (h2 : a2.toInt = (hb : Int) - 1) (hb9 : hb ≤ 10000) (h : RR T s P) (ok : okT T) (hN : 70000 ≤ N) : TT (f_128 N (iN lo) a2 P) (fun r => RR T (numS T lo hb s).2 r.2 ∧ (∀ q', (numS T lo hb s).2 = .inl q' → r.1 = iN (numS T lo hb s).1) ∧ fr sTr P r.2) := by
  have h6 := ok.1
  unfold f_128
  cases s with
  | inr f =>
    rw [if_neg h.no]
    exact TT_some ⟨h, fun q' e => (by cases e), fr.rf⟩
  | inl q =>
    have hq := h.qq
    have f1 : fr sTr P (ab_pI P 72 4 (iN q)) := fr.I (by unfold sTr; omega)
    rw [if_pos h.ok, r_blank h ok hN, Option.bind_some, r_byq h ok, Option.bind_some]
    have g := h.at'
    have e4 : (ab_pI P 72 4 (iN q)).1 72 4 = iN q := pI_eq
    generalize ab_pI P 72 4 (iN q) = P1 at g f1 e4 ⊢
    rw [e4, r_isDg ok, Option.bind_some]
    have hr1 := rn_ge (p := isDg) hq.1
    have hr2 := rn_le (p := isDg) hq.1
    have ed := fun P2 (hT : RT T P2) (hp : P2.1 72 4 = iN q) => r_digits (x1 := iN lo) (x2 := a2) (x3 := iN q) ok (T.2 - q) q 0 N P2 hT hp rfl hq.1 (by omega)
    rw [show iN (min 100000 0) = (0 : Int32) from rfl] at ed
    cases hd : decide (q < T.2) && isDg (T.1 q) with
    | false =>
      have h0 : rn isDg T q = q := by
        by_cases hl : q < T.2
        · refine rn_n hl ?_
          simpa [hl] using hd
        · exact rn_end (by omega)
      have hv0 : dv T q 0 = 0 := by
        by_cases hl : q < T.2
        · refine dv_n hl ?_
          simpa [hl] using hd
        · exact dv_end (by omega)
      rw [if_pos (show bI false = 0 from rfl), show numS T lo hb (.inl q) = (0, .inr (1, q)) from if_pos h0]
      refine TT_bind (r_wrongF g (k := 1) (p := q) (by decide) (by decide)) (fun P2 hrF => ?_)
      have e42 : P2.1 72 4 = iN q := (hrF.2.1 72 4 (by omega)).trans e4
      have hr : RR T (.inr (1, q)) P2 ∧ fr sTr P1 P2 := ⟨hrF.1, hrF.2.mono (fun b j e => by unfold sTr; omega)⟩
      rw [ed P2 hr.1.1 e42, h0, hv0, pI_self e42]
      unfold numR
      have hx : TT (f_112 P2 (iN (min 100000 0)) (iN lo) a2) (fun _ => True) := ⟨_, r_in P2 h2 (by decide) (by omega), trivial⟩
      refine TT_bind hx (fun v7 _ => ?_)
      rw [r_wronged hr.1, Option.bind_some, if_neg hr.1.no]
      refine TT_if (fun _ => TT_some ⟨hr.1, fun q' e => (by cases e), f1.tr hr.2⟩) (fun _ => TT_some ⟨hr.1, fun q' e => (by cases e), f1.tr hr.2⟩)
    | true =>
      have hl : q < T.2 ∧ isDg (T.1 q) = true := by simpa using hd
      have h0 : ¬ rn isDg T q = q := by
        have := rn_ge (p := isDg) (T := T) (a := q + 1) (by omega)
        rw [← rn_y hl.1 hl.2] at this
        omega
      rw [if_neg (by decide), ed P1 g.1 e4]
      have g3 := g.at (b := rn isDg T q) hr2
      have f3 : fr sTr P (ab_pI P1 72 4 (iN (rn isDg T q))) := f1.tr (fr.I (by unfold sTr; omega))
      generalize ab_pI P1 72 4 (iN (rn isDg T q)) = P3 at g3 f3 ⊢
      unfold numR
      rw [r_in P3 h2 (by omega) (by omega), Option.bind_some, g3.ok, if_pos rfl]
      simp only [bI_0]
      by_cases h1 : lo ≤ dv T q 0 ∧ dv T q 0 < hb
      · rw [show numS T lo hb (.inl q) = (dv T q 0, .inl (sk T (rn isDg T q))) from (if_neg h0).trans (if_pos h1), if_neg (by simp; omega)]
        refine TT_some ⟨g3, fun q' e => ?_, f3⟩
        show iN (min 100000 (dv T q 0)) = iN (dv T q 0)
        rw [Nat.min_eq_right (by omega)]
      · rw [show numS T lo hb (.inl q) = (0, .inr (2, q)) from (if_neg h0).trans (if_neg h1), if_pos (by simp; omega)]
        refine TT_bind (r_wrong g3 (k := 2) (p := q) (by decide) (by decide)) (fun r hr => ?_)
        rw [if_neg hr.1.no]
        exact TT_some ⟨hr.1, fun q' e => (by cases e), f3.tr hr.2⟩
theorem r_but {hb o : Nat} {a1 a2 : Int32} (h2 : a1.toInt = (hb : Int) - 1) (hb9 : hb ≤ 10000) (ho : o < 2147483648) (ha : ∀ q, s = .inl q → a2 = iN o) (h : RR T s P) (ok : okT T) (hN : 70000 ≤ N) : TT (f_208 N a1 a2 P) (fun r => RR T (butS T hb o s).2 r.2 ∧ (∀ q', (butS T hb o s).2 = .inl q' → r.1 = iN (butS T hb o s).1) ∧ fr sTr P r.2) := by
  unfold f_208
  cases s with
  | inr f =>
    rw [if_neg h.no]
    exact TT_some ⟨h, fun q' e => (by cases e), fr.rf⟩
  | inl q =>
    have e1 := ha q rfl
    subst e1
    have hq := h.qq
    have f1 : fr sTr P (ab_pI P 72 4 (iN q)) := fr.I (by unfold sTr; omega)
    rw [if_pos h.ok, r_blank h ok hN, Option.bind_some]
    have g := h.at'
    have e4 : (ab_pI P 72 4 (iN q)).1 72 4 = iN q := pI_eq
    generalize ab_pI P 72 4 (iN q) = P1 at g f1 e4 ⊢
    refine TT_b2 (r_num (lo := 0) (by decide) h2 hb9 g ok hN) (fun v P2 hv => ?_)
    obtain ⟨b1, b2, b3⟩ := hv
    dsimp only at b1 b2 b3
    cases hn : numS T 0 hb (.inl q) with
    | mk w s' =>
      rw [hn] at b1 b2
      cases s' with
      | inr f =>
        rw [if_neg (RR.no (f := f) b1)]
        have eb : butS T hb o (.inl q) = (0, .inr f) := by show butA q o (numS T 0 hb (.inl q)) = _; rw [hn]; rfl
        rw [eb]
        exact TT_some ⟨b1, fun q' e => (by cases e), f1.tr b3⟩
      | inl q' =>
        have c1 := b2 q' rfl
        dsimp only at c1
        have hw : w < 10000 := Nat.lt_of_lt_of_le (numS_ok hn).2 hb9
        have eb : butS T hb o (.inl q) = if w = o then (0, .inr (2, q)) else (w, .inl q') := by show butA q o (numS T 0 hb (.inl q)) = _; rw [hn]; rfl
        rw [eb, if_pos (RR.ok (q := q') b1), c1, e4]
        have ew : (iN w = iN o) = (w = o) := iN_eq (by omega) ho
        simp only [ew]
        by_cases hwo : w = o
        · rw [if_pos hwo, if_pos hwo]
          exact TT_bind (r_wrong b1 (k := 2) (p := q) (by decide) (by decide)) (fun r hr => TT_some ⟨hr.1, fun q' e => (by cases e), (f1.tr b3).tr hr.2⟩)
        · rw [if_neg hwo, if_neg hwo]
          exact TT_some ⟨b1, fun _ _ => rfl, f1.tr b3⟩
end SG
