/-! a law's text: codes so far, where -/
abbrev LwS : Type := LW × RS
def emS (c : Nat × Nat) (x : LwS) : LwS := match x.2 with
  | .inl q => ((x.1.1 + 1, fun j => if j = x.1.1 then c else x.1.2 j), .inl q)
  | .inr f => (x.1, .inr f)
def onS (F : RS → RS) (x : LwS) : LwS := (x.1, F x.2)
def wdL (T : TX) (R : Nat → LwS → LwS) (d k : Nat) (w : LW) (q : Nat) : LwS :=
  if k < 8 then emS (1, k) (w, .inl (sk T (rn isLt T q)))
  else if 6 ≤ d then (w, .inr (3, q))
  else emS (if k = 8 then 6 else 7, 0) (onS (sgnS T 93) (R (d + 1) (onS (sgnS T 44) (R (d + 1) (onS (sgnS T 91) (w, .inl (sk T (rn isLt T q))))))))
def unL (T : TX) (R : Nat → LwS → LwS) (d : Nat) (w : LW) (q : Nat) : LwS :=
  if q < T.2 ∧ isDg (T.1 q) = true then emS (0, (numS T 0 1000 (.inl q)).1) (w, (numS T 0 1000 (.inl q)).2)
  else if q < T.2 ∧ T.1 q = 40 then (if 6 ≤ d then (w, .inr (3, q)) else onS (sgnS T 41) (R (d + 1) (w, .inl (sk T (q + 1)))))
  else match wIx (lw T q) wsL 0 with
    | none => (w, .inr (1, q))
    | some k => wdL T R d k w q
def unS (T : TX) (R : Nat → LwS → LwS) (d : Nat) (x : LwS) : LwS := match x.2 with
  | .inr f => (x.1, .inr f)
  | .inl q => unL T R d x.1 q
def opS (T : TX) (c1 c2 t1 t2 : Nat) (U : LwS → LwS) : Nat → LwS → LwS
  | 0, x => x
  | n + 1, x => match x.2 with
    | .inr f => (x.1, .inr f)
    | .inl q => if q < T.2 ∧ T.1 q = c1 then opS T c1 c2 t1 t2 U n (emS (t1, 0) (U (x.1, .inl (sk T (q + 1))))) else if q < T.2 ∧ T.1 q = c2 then opS T c1 c2 t1 t2 U n (emS (t2, 0) (U (x.1, .inl (sk T (q + 1))))) else x
def prS (T : TX) (R : Nat → LwS → LwS) (d : Nat) (x : LwS) : LwS := opS T 42 47 4 5 (unS T R d) 150 (unS T R d x)
def suB (T : TX) (R : Nat → LwS → LwS) (d : Nat) (x : LwS) : LwS := opS T 43 45 2 3 (prS T R d) 150 (prS T R d x)
def suS (T : TX) : Nat → Nat → LwS → LwS
  | 0, _, x => x
  | n + 1, d, x => suB T (suS T n) d x
/-! what holds of the codes -/
def cOk (w : LW) (k : Nat) : Prop := ((w.2 k).1 = 0 ∧ (w.2 k).2 ≤ 999 ∧ hK w.2 k < 32) ∨ ((w.2 k).1 = 1 ∧ (w.2 k).2 < 8 ∧ hK w.2 k < 32) ∨ (2 ≤ (w.2 k).1 ∧ (w.2 k).1 ≤ 7 ∧ 2 ≤ hK w.2 k ∧ hK w.2 k ≤ 32)
def oc (w : LW) (h : Nat) : Prop := hK w.2 w.1 = h ∧ ∀ k, k < w.1 → cOk w k
def LwI (T : TX) (a p h : Nat) (x : LwS) : Prop := ∀ q, x.2 = .inl q → a ≤ q ∧ q ≤ T.2 ∧ x.1.1 + p ≤ q ∧ oc x.1 h
theorem hK_ext {c c' : Nat → Nat × Nat} : ∀ {n : Nat}, (∀ k, k < n → c k = c' k) → hK c n = hK c' n
  | 0, _ => rfl
  | n + 1, h => by
    unfold hK
    rw [hK_ext (n := n) (fun k hk => h k (by omega)), h n (by omega)]
theorem cOk_of {w : LW} {k h : Nat} {c : Nat × Nat} (e1 : w.2 k = c) (e2 : hK w.2 k = h) (hc : ((c.1 = 0 ∧ c.2 ≤ 999 ∧ h < 32) ∨ (c.1 = 1 ∧ c.2 < 8 ∧ h < 32) ∨ (2 ≤ c.1 ∧ c.1 ≤ 7 ∧ 2 ≤ h ∧ h ≤ 32))) : cOk w k := by
  unfold cOk
  rw [e1, e2]
  exact hc
theorem oc_add {w : LW} {h : Nat} {c : Nat × Nat} (o : oc w h) (hc : ((c.1 = 0 ∧ c.2 ≤ 999 ∧ h < 32) ∨ (c.1 = 1 ∧ c.2 < 8 ∧ h < 32) ∨ (2 ≤ c.1 ∧ c.1 ≤ 7 ∧ 2 ≤ h ∧ h ≤ 32))) : oc (w.1 + 1, fun j => if j = w.1 then c else w.2 j) (if c.1 < 2 then h + 1 else h - 1) := by
  have e : ∀ k, k ≤ w.1 → hK (fun j => if j = w.1 then c else w.2 j) k = hK w.2 k := fun k hk => hK_ext (fun j hj => if_neg (by omega))
  have e1 : (fun j => if j = w.1 then c else w.2 j) w.1 = c := if_pos rfl
  refine ⟨?_, fun k hk => ?_⟩
  · show hK (fun j => if j = w.1 then c else w.2 j) (w.1 + 1) = _
    show (if ((fun j => if j = w.1 then c else w.2 j) w.1).1 < 2 then hK (fun j => if j = w.1 then c else w.2 j) w.1 + 1 else hK (fun j => if j = w.1 then c else w.2 j) w.1 - 1) = _
    rw [e1, e w.1 (Nat.le_refl _), o.1]
  · have hk : k < w.1 + 1 := hk
    by_cases ek : k = w.1
    · subst ek
      exact cOk_of e1 ((e w.1 (Nat.le_refl _)).trans o.1) hc
    · exact cOk_of (c := w.2 k) (h := hK w.2 k) (if_neg ek) (e k (by omega)) (o.2 k (by omega))
section LwI
variable {T : TX} {R : Nat → LwS → LwS} {U : LwS → LwS} {a p h d t v k : Nat} {x : LwS} {w : LW} {q : Nat}
theorem LwI.push {c : Nat × Nat} (l : LwI T a (p + 1) h x) (h32 : h < 32) (hc : ∀ q, x.2 = .inl q → (c.1 = 0 ∧ c.2 ≤ 999) ∨ (c.1 = 1 ∧ c.2 < 8)) : LwI T a p (h + 1) (emS c x) := fun q e => by
  unfold emS at e ⊢
  cases hx : x.2 with
  | inr f => rw [hx] at e; cases e
  | inl q1 =>
    rw [hx] at e
    cases e
    obtain ⟨l1, l2, l3, l4⟩ := l q hx
    have hc := hc q hx
    refine ⟨l1, l2, by show x.1.1 + 1 + p ≤ q; omega, ?_⟩
    have := oc_add (c := c) l4 (by omega)
    rw [if_pos (by omega)] at this
    exact this
theorem LwI.op (l : LwI T a (p + 1) (h + 2) x) (h32 : h + 2 ≤ 32) (h2 : 2 ≤ t) (h7 : t ≤ 7) : LwI T a p (h + 1) (emS (t, v) x) := fun q e => by
  unfold emS at e ⊢
  cases hx : x.2 with
  | inr f => rw [hx] at e; cases e
  | inl q1 =>
    rw [hx] at e
    cases e
    obtain ⟨l1, l2, l3, l4⟩ := l q hx
    refine ⟨l1, l2, by show x.1.1 + 1 + p ≤ q; omega, ?_⟩
    have := oc_add (c := (t, v)) l4 (by dsimp only; omega)
    rw [if_neg (by dsimp only; omega)] at this
    exact this
theorem LwI.sgn {c : Nat} (l : LwI T a p h x) : LwI T a p h (onS (sgnS T c) x) := fun q e => by
  unfold onS at e ⊢
  dsimp only at e ⊢
  obtain ⟨q1, e1⟩ := sgnS_l e
  rw [e1] at e
  obtain ⟨l1, l2, l3, l4⟩ := l q1 e1
  by_cases hh : q1 < T.2 ∧ T.1 q1 = c
  · rw [show sgnS T c (.inl q1) = .inl (sk T (q1 + 1)) from if_pos hh] at e
    cases e
    have g1 := rn_ge (p := isB) (T := T) (a := q1 + 1) (by omega)
    have g2 := rn_le (p := isB) (T := T) (a := q1 + 1) (by omega)
    unfold sk
    exact ⟨by omega, g2, by omega, l4⟩
  · rw [show sgnS T c (.inl q1) = .inr (1, q1) from if_neg hh] at e
    cases e
theorem lw_pos (hq : q ≤ T.2) (hw : wIx (lw T q) wsL 0 = some k) : q + 1 ≤ rn isLt T q := by
  have g1 := rn_ge (p := isLt) hq
  by_cases e : rn isLt T q = q
  · have : lw T q = [] := by
      unfold lw
      rw [e, Nat.sub_self]
      rfl
    rw [this] at hw
    rw [show wIx [] wsL 0 = none by decide] at hw
    cases hw
  · omega
theorem numS_q {lo hb q' : Nat} (hq : q ≤ T.2) (e : (numS T lo hb (.inl q)).2 = .inl q') : q + 1 ≤ q' ∧ q' ≤ T.2 := by
  have g1 := rn_ge (p := isDg) hq
  have g2 := rn_le (p := isDg) hq
  by_cases h0 : rn isDg T q = q
  · rw [show numS T lo hb (.inl q) = (0, .inr (1, q)) from if_pos h0] at e
    cases e
  · by_cases h1 : lo ≤ dv T q 0 ∧ dv T q 0 < hb
    · rw [show numS T lo hb (.inl q) = (dv T q 0, .inl (sk T (rn isDg T q))) from (if_neg h0).trans (if_pos h1)] at e
      cases e
      have g3 := rn_ge (p := isB) g2
      have g4 := rn_le (p := isB) g2
      unfold sk
      omega
    · rw [show numS T lo hb (.inl q) = (0, .inr (2, q)) from (if_neg h0).trans (if_neg h1)] at e
      cases e
/-- what a recursion must keep -/
def RIv (T : TX) (R : Nat → LwS → LwS) (d : Nat) : Prop := ∀ a p h x, d < 6 → h ≤ 3 * (d + 1) → LwI T a p h x → LwI T a p (h + 1) (R (d + 1) x)
theorem LwI.un (hR : RIv T R d) (hd : d ≤ 6) (hh : h ≤ 3 * d + 2) (l : LwI T a p h x) : LwI T a p (h + 1) (unS T R d x) := by
  unfold unS
  cases hx : x.2 with
  | inr f => exact fun q e => by cases e
  | inl q =>
    obtain ⟨l1, l2, l3, l4⟩ := l q hx
    dsimp only
    unfold unL
    by_cases h1 : q < T.2 ∧ isDg (T.1 q) = true
    · rw [if_pos h1]
      refine LwI.push (fun q' e => ?_) (by omega) (fun q' e => Or.inl ⟨rfl, ?_⟩)
      · have := numS_q l2 e
        exact ⟨by omega, by omega, by show x.1.1 + (p + 1) ≤ q'; omega, l4⟩
      · obtain ⟨_, _, _, c⟩ := numS_l e
        exact Nat.le_of_lt_succ c
    · rw [if_neg h1]
      by_cases h2 : q < T.2 ∧ T.1 q = 40
      · rw [if_pos h2]
        by_cases h3 : 6 ≤ d
        · rw [if_pos h3]
          exact fun q e => by cases e
        · rw [if_neg h3]
          refine LwI.sgn (hR a p h _ (by omega) (by omega) (fun q' e => ?_))
          cases e
          have g1 := rn_ge (p := isB) (T := T) (a := q + 1) (by omega)
          have g2 := rn_le (p := isB) (T := T) (a := q + 1) (by omega)
          unfold sk
          exact ⟨by omega, g2, by show x.1.1 + p ≤ _; omega, l4⟩
      · rw [if_neg h2]
        cases hw : wIx (lw T q) wsL 0 with
        | none => exact fun q e => by cases e
        | some k =>
          have g0 := lw_pos l2 hw
          have g1 := rn_le (p := isLt) l2
          have g2 := rn_ge (p := isB) g1
          have g3 := rn_le (p := isB) g1
          have base : LwI T a (p + 1) h (x.1, .inl (sk T (rn isLt T q))) := fun q' e => by
            cases e
            unfold sk
            exact ⟨by omega, g3, by show x.1.1 + (p + 1) ≤ _; omega, l4⟩
          dsimp only
          unfold wdL
          by_cases h4 : k < 8
          · rw [if_pos h4]
            exact LwI.push base (by omega) (fun q' e => Or.inr ⟨rfl, h4⟩)
          · rw [if_neg h4]
            by_cases h3 : 6 ≤ d
            · rw [if_pos h3]
              exact fun q e => by cases e
            · rw [if_neg h3]
              exact LwI.op (LwI.sgn (hR _ _ _ _ (by omega) (by omega) (LwI.sgn (hR _ _ _ _ (by omega) (by omega) (LwI.sgn base))))) (by omega) (by split <;> omega) (by split <;> omega)
theorem LwI.ops {c1 c2 t1 t2 : Nat} (h1 : 2 ≤ t1 ∧ t1 ≤ 7) (h2 : 2 ≤ t2 ∧ t2 ≤ 7) (h32 : h + 2 ≤ 32) (hU : ∀ a p x, LwI T a p (h + 1) x → LwI T a p (h + 2) (U x)) : ∀ (n : Nat) (x : LwS) (a p : Nat), LwI T a p (h + 1) x → LwI T a p (h + 1) (opS T c1 c2 t1 t2 U n x)
  | 0, x, a, p, l => l
  | n + 1, x, a, p, l => by
    unfold opS
    cases hx : x.2 with
    | inr f => exact fun q e => by cases e
    | inl q =>
      obtain ⟨l1, l2, l3, l4⟩ := l q hx
      have step : ∀ t, 2 ≤ t ∧ t ≤ 7 → q < T.2 → LwI T a p (h + 1) (emS (t, 0) (U (x.1, .inl (sk T (q + 1))))) := fun t ht hq => LwI.op (hU _ _ _ (fun q' e => by
        cases e
        have g1 := rn_ge (p := isB) (T := T) (a := q + 1) (by omega)
        have g2 := rn_le (p := isB) (T := T) (a := q + 1) (by omega)
        unfold sk
        exact ⟨by omega, g2, by show x.1.1 + (p + 1) ≤ _; omega, l4⟩)) h32 ht.1 ht.2
      dsimp only
      by_cases e1 : q < T.2 ∧ T.1 q = c1
      · rw [if_pos e1]
        exact LwI.ops h1 h2 h32 hU n _ a p (step t1 h1 e1.1)
      · rw [if_neg e1]
        by_cases e2 : q < T.2 ∧ T.1 q = c2
        · rw [if_pos e2]
          exact LwI.ops h1 h2 h32 hU n _ a p (step t2 h2 e2.1)
        · rw [if_neg e2]
          exact l
theorem LwI.pr (hR : RIv T R d) (hd : d ≤ 6) (hh : h ≤ 3 * d + 1) (l : LwI T a p h x) : LwI T a p (h + 1) (prS T R d x) :=
  LwI.ops (by decide) (by decide) (by omega) (fun a p x l => LwI.un hR hd (by omega) l) 150 _ a p (LwI.un hR hd (by omega) l)
theorem LwI.su (hR : RIv T R d) (hd : d ≤ 6) (hh : h ≤ 3 * d) (l : LwI T a p h x) : LwI T a p (h + 1) (suB T R d x) :=
  LwI.ops (by decide) (by decide) (by omega) (fun a p x l => LwI.pr hR hd (by omega) l) 150 _ a p (LwI.pr hR hd (by omega) l)
theorem suS_RI : ∀ (n d : Nat), d ≤ 6 → 7 ≤ d + n → ∀ a p h x, h ≤ 3 * d → LwI T a p h x → LwI T a p (h + 1) (suS T n d x)
  | 0, d, h1, h2, _, _, _, _, _, _ => by omega
  | n + 1, d, h1, h2, a, p, h, x, hh, l => LwI.su (fun a p h x hd6 hh l => suS_RI n (d + 1) (by omega) (by omega) a p h x hh l) h1 hh l
end LwI
