/-! growing; the first day; who holds most -/
theorem iN_div {a b : Nat} (ha : a < 2147483648) (hb : b < 2147483648) (h0 : 0 < b) : iN a / iN b = iN (a / b) := by
  apply Int32.toInt_inj.mp
  have h1 : a / b ≤ a := Nat.div_le_self a b
  rw [Int32.toInt_div, iN_toInt ha, iN_toInt hb, iN_toInt (by omega), ← Int.ofNat_tdiv]
  generalize a / b = q at *
  exact Int.bmod_eq_of_le (by omega) (by omega)
theorem mn_iN {a b : Nat} (ha : a < 2147483648) (hb : b < 2147483648) : ab_mn (iN a) (iN b) = iN (min a b) := by
  unfold ab_mn
  simp only [iN_lt hb ha]
  by_cases h : b < a
  · rw [if_pos h, Nat.min_eq_right (by omega)]
  · rw [if_neg h, Nat.min_eq_left (by omega)]
theorem mx_iN {a b : Nat} (ha : a < 2147483648) (hb : b < 2147483648) : ab_mx (iN a) (iN b) = iN (max a b) := by
  unfold ab_mx
  simp only [iN_lt ha hb]
  by_cases h : a < b
  · rw [if_pos h, Nat.max_eq_right (by omega)]
  · rw [if_neg h, Nat.max_eq_left (by omega)]
/-- a size that is told once more -/
def gN (it z : Nat) : Nat := min 9999 (z + max 1 (z * it / 100))
def gIt (it z : Nat) : Nat → Nat
  | 0 => z
  | j + 1 => gN it (gIt it z j)
theorem gN_le (it z : Nat) : gN it z ≤ 9999 := Nat.min_le_left _ _
theorem gN_ge {it z : Nat} (h : z ≤ 9999) : z ≤ gN it z := by unfold gN; omega
theorem gIt_le {it z : Nat} (h : z ≤ 9999) : ∀ j, gIt it z j ≤ 9999
  | 0 => h
  | _ + 1 => gN_le _ _
theorem gIt_top {it z j : Nat} (h : gIt it z j = 9999) : ∀ c, gIt it z (j + c) = 9999
  | 0 => h
  | c + 1 => by
    show gN it (gIt it z (j + c)) = 9999
    rw [gIt_top h c]
    unfold gN
    omega
theorem gIt_mono {it z : Nat} (h : z ≤ 9999) (j : Nat) : gIt it z j ≤ gIt it z (j + 1) := gN_ge (gIt_le h j)
theorem gIt_ge1 {it z : Nat} (h : z ≤ 9999) (h1 : 1 ≤ z) : ∀ j, 1 ≤ gIt it z j
  | 0 => h1
  | j + 1 => Nat.le_trans (gIt_ge1 h h1 j) (gIt_mono h j)
theorem c_grow {it z : Nat} (hz : z ≤ 9999) (hi : it ≤ 50) : ab_mn (9999 : Int32) (iN z + ab_mx (1 : Int32) (iN z * iN it / (100 : Int32))) = iN (gN it z) := by
  have hm : z * it ≤ 9999 * 50 := Nat.mul_le_mul hz hi
  have hd : z * it / 100 ≤ z * it := Nat.div_le_self _ _
  rw [iN_lit 100, iN_lit 1, iN_lit 9999, iN_mul, iN_div (by omega) (by decide) (by decide), mx_iN (by decide) (by omega), iN_add, mn_iN (by decide) (by omega)]
  rfl
theorem r_less (P : ab_P) (a b : Int32) : f_192 P a b = some (ab_mn a b) := by
  unfold f_192 ab_mn
  by_cases h1 : a < b <;> by_cases h2 : b < a
  · exfalso; grind
  · rw [if_pos h1, if_neg h2]
  · rw [if_neg h1, if_pos h2]
  · rw [if_neg h1, if_neg h2]; congr 1; grind
theorem r_mor (P : ab_P) (a b : Int32) : f_193 P a b = some (ab_mx a b) := by
  unfold f_193 ab_mx
  by_cases h1 : b < a <;> by_cases h2 : a < b
  · exfalso; grind
  · rw [if_pos h1, if_neg h2]
  · rw [if_neg h1, if_pos h2]
  · rw [if_neg h1, if_neg h2]; congr 1; grind
theorem r_grow {P : ab_P} {it z : Nat} (hi : P.1 76 2 = iN it) (hz : z ≤ 9999) (h50 : it ≤ 50) : f_270 P (iN z) = some (iN (gN it z)) := by
  unfold f_270
  rw [hi, r_mor, Option.bind_some, r_less, Option.bind_some, c_grow hz h50]
/-- a claim's size as a number -/
def zL (L : LG) (k : Nat) : Nat := (L.1 2 k).toNatClampNeg
theorem zL_of {L : LG} {pe k : Nat} (hw : WF pe L) (hk : k < L.2.1) : L.1 2 k = iN (zL L k) ∧ 1 ≤ zL L k ∧ zL L k ≤ 9999 := by
  obtain ⟨z, h1, h2, h3⟩ := (hw.2 k hk).2.2.1
  unfold zL
  rw [h3, iN_nat (by omega)]
  exact ⟨rfl, h1, h2⟩
def sSwell (L : LG) (it d : Nat) : Int32 := sumI (fun k => if stL L k then iN (gIt it (zL L k) d) else 0) L.2.1
section GR
variable {i : Nat} {L : LG} {P : ab_P} {it z d k n N pe : Nat}
theorem c_after (hz : z ≤ 9999) (hi : it ≤ 50) (hd : d < 1000) : ∀ c j n, j + c = d → c < n → f_264_11 i P n (iN d) (iN it) (iN (gIt it z j)) (iN j) = some (iN (gIt it z d)) := by
  intro c
  induction c with
  | zero =>
    intro j n hj hn
    obtain ⟨n, rfl⟩ : ∃ q, n = q + 1 := ⟨n - 1, by omega⟩
    have : j = d := by omega
    subst this
    simp only [f_264_11, iN_lt (show j < 2147483648 by omega) (show j < 2147483648 by omega), Nat.lt_irrefl, ↓reduceIte]
  | succ c ih =>
    intro j n hj hn
    obtain ⟨n, rfl⟩ : ∃ q, n = q + 1 := ⟨n - 1, by omega⟩
    have hle := gIt_le (it := it) hz j
    simp only [f_264_11, iN_lt (show j < 2147483648 by omega) (show d < 2147483648 by omega), show j < d by omega, ↓reduceIte, iN_lit 9999, iN_lt (show gIt it z j < 2147483648 by omega) (show 9999 < 2147483648 by decide)]
    by_cases h9 : gIt it z j < 9999
    · rw [if_pos h9, ← iN_lit 9999, c_grow hle hi, iN_succ]
      exact ih (j + 1) n (by omega) (by omega)
    · rw [if_neg h9]
      have h8 : gIt it z j = 9999 := by omega
      have h7 := gIt_top h8 (d - j)
      rw [show j + (d - j) = d by omega] at h7
      rw [h7, h8]
theorem c_sizeAfter (h : CL i L P) (hw : WF pe L) (hk : k < L.2.1) (hi : it ≤ 50) (hd : d < 1000) (hN : 70000 ≤ N) : f_264 i N P (iN k) (iN d) (iN it) = some (iN (gIt it (zL L k) d)) := by
  obtain ⟨e, h1, h2⟩ := zL_of hw hk
  unfold f_264
  rw [c_get2 h hk, Option.bind_some, e]
  exact c_after h2 hi hd d 0 N (by omega) (by omega)
theorem r_grownBy (hit : P.1 76 2 = iN it) (hi : it ≤ 50) (hz : z ≤ 9999) (hd : d < 1000) (hN : 70000 ≤ N) : f_185 N P (iN z) (iN d) = some (iN (gIt it z d)) := by
  refine up (fun n k x => f_185_5 P n (iN d) x (iN k)) d (fun k => iN (gIt it z k)) _ (fun n k hk => ?_) (fun n => ?_) N (by omega)
  · simp only [f_185_5, iN_lt (show k < 2147483648 by omega) (show d < 2147483648 by omega), hk, r_grow hit (gIt_le hz k) hi, ↓reduceIte, Option.bind_some, iN_succ]
    rfl
  · simp only [f_185_5, iN_lt (show d < 2147483648 by omega) (show d < 2147483648 by omega), Nat.lt_irrefl, ↓reduceIte]
theorem c_swell (h : CL i L P) (hw : WF pe L) (hi : it ≤ 50) (hd : d < 1000) (hN : 70000 ≤ N) : f_174 i N P (iN d) (iN it) = some (sSwell L it d) := by
  have h40 := h.1
  refine up (fun n k x => f_174_5 i N P n (iN d) (iN it) x (iN k)) L.2.1 (sumI (fun k => if stL L k then iN (gIt it (zL L k) d) else 0)) _ (fun n k hk => ?_) (fun n => ?_) N (by omega)
  · simp only [f_174_5, c_more h hk, c_stand h (show k < 2147483648 by omega), c_sizeAfter h hw hk hi hd hN, ↓reduceIte, Option.bind_some, bI_0, sumI_s, iN_succ]
    cases hs : stL L k <;> simp
  · simp only [f_174_5, c_end h, ↓reduceIte]; rfl
theorem r_swell (h : RL 477 L P) (hw : WF pe L) (hit : P.1 76 2 = iN it) (hi : it ≤ 50) (hd : d < 1000) (hN : 70000 ≤ N) : f_173 N P (iN d) = some (sSwell L it d) := by
  have h40 := h.1
  refine up (fun n k x => f_173_4 N P n (iN d) x (iN k)) L.2.1 (sumI (fun k => if stL L k then iN (gIt it (zL L k) d) else 0)) _ (fun n k hk => ?_) (fun n => ?_) N (by omega)
  · obtain ⟨e, h1, h2⟩ := zL_of hw hk
    simp only [f_173_4, r_more h hk, r_stand h (show k < 2147483648 by omega), r_of2 h hk, e, r_grownBy hit hi h2 hd hN, ↓reduceIte, Option.bind_some, bI_0, sumI_s, iN_succ]
    cases hs : stL L k <;> simp
  · simp only [f_173_4, r_end h, ↓reduceIte]; rfl
end GR
/-! sums that don't wrap -/
def sumN (f : Nat → Nat) : Nat → Nat
  | 0 => 0
  | n + 1 => sumN f n + f n
theorem sumI_N {f : Nat → Int32} {g : Nat → Nat} : ∀ {n : Nat}, (∀ k, k < n → f k = iN (g k)) → sumI f n = iN (sumN g n)
  | 0, _ => rfl
  | n + 1, h => by
    rw [sumI_s, sumI_N (fun k hk => h k (by omega)), h n (by omega), iN_add]
    rfl
theorem sumN_le {f : Nat → Nat} {b : Nat} : ∀ {n : Nat}, (∀ k, k < n → f k ≤ b) → sumN f n ≤ n * b
  | 0, _ => by simp [sumN]
  | n + 1, h => by
    have := sumN_le (fun k hk => h k (show k < n + 1 by omega)) (f := f) (b := b) (n := n)
    have h2 := h n (by omega)
    rw [Nat.succ_mul]
    show sumN f n + f n ≤ _
    omega
theorem sumN_mono {f g : Nat → Nat} : ∀ {n : Nat}, (∀ k, k < n → f k ≤ g k) → sumN f n ≤ sumN g n
  | 0, _ => Nat.le_refl _
  | n + 1, h => Nat.add_le_add (sumN_mono (fun k hk => h k (by omega))) (h n (by omega))
theorem swell_N {L : LG} {it d : Nat} : sSwell L it d = iN (sumN (fun k => if stL L k then gIt it (zL L k) d else 0) L.2.1) := by
  refine sumI_N (fun k hk => ?_)
  cases stL L k <;> rfl
/-- the first one of c from lo on -/
def fnd (p : Nat → Bool) : Nat → Nat → Option Nat
  | _, 0 => none
  | lo, c + 1 => if p lo then some lo else fnd p (lo + 1) c
theorem fnd_none {p : Nat → Bool} : ∀ {c lo : Nat}, (∀ n, lo ≤ n → n < lo + c → p n = false) → fnd p lo c = none
  | 0, _, _ => rfl
  | c + 1, lo, h => by
    unfold fnd
    rw [h lo (Nat.le_refl _) (by omega)]
    exact fnd_none (fun n h1 h2 => h n (by omega) (by omega))
theorem fnd_some {p : Nat → Bool} : ∀ {c lo x : Nat}, lo ≤ x → x < lo + c → p x = true → (∀ n, lo ≤ n → n < x → p n = false) → fnd p lo c = some x
  | 0, _, _, h1, h2, _, _ => by omega
  | c + 1, lo, x, h1, h2, h3, h4 => by
    unfold fnd
    by_cases e : x = lo
    · subst e; rw [h3]; rfl
    · rw [h4 lo (Nat.le_refl _) (by omega)]
      exact fnd_some (by omega) (by omega) h3 (fun n g1 g2 => h4 n (by omega) g2)
def sBurst (L : LG) (it : Nat) (x : Int32) : Option Nat := fnd (fun n => !decide (sSwell L it n < x)) 1 60
section BU
variable {i : Nat} {L : LG} {P : ab_P} {it z d k n N pe : Nat}
theorem swell_mono (h40 : L.2.1 ≤ 40) (hw : WF pe L) {x : Int32} {a b : Nat} (hab : a ≤ b) (h : ¬ sSwell L it a < x) : ¬ sSwell L it b < x := by
  rw [swell_N] at h ⊢
  have hle : sumN (fun k => if stL L k then gIt it (zL L k) b else 0) L.2.1 ≤ L.2.1 * 9999 := sumN_le (fun k hk => by
    split
    · exact gIt_le (zL_of hw hk).2.2 b
    · omega)
  have hbd : L.2.1 * 9999 ≤ 40 * 9999 := Nat.mul_le_mul_right _ h40
  have hm : sumN (fun k => if stL L k then gIt it (zL L k) a else 0) L.2.1 ≤ sumN (fun k => if stL L k then gIt it (zL L k) b else 0) L.2.1 := sumN_mono (fun k hk => by
    split
    · obtain ⟨c, rfl⟩ : ∃ c, b = a + c := ⟨b - a, by omega⟩
      clear h hle hab
      induction c with
      | zero => exact Nat.le_refl _
      | succ c ih => exact Nat.le_trans ih (gIt_mono (zL_of hw hk).2.2 (a + c))
    · omega)
  intro h2
  apply h
  have h3 : iN (sumN (fun k => if stL L k then gIt it (zL L k) a else 0) L.2.1) ≤ iN (sumN (fun k => if stL L k then gIt it (zL L k) b else 0) L.2.1) := by
    rw [iN_le (by omega) (by omega)]
    exact hm
  grind
theorem c_search (h : CL 43 L P) (hw : WF pe L) (hit : P.1 3 7 = iN it) (hi : it ≤ 50) (x : Int32) (hN : 70000 ≤ N) : ∀ n j lo hi, 1 ≤ lo → lo ≤ hi → hi ≤ 60 → hi - lo + j ≤ 59 → 60 < n + j → ¬ sSwell L it hi < x → (∀ q, 1 ≤ q → q < lo → sSwell L it q < x) → f_62_30 N P n x (iN lo) (iN hi) (iN j) = some (oN (sBurst L it x)) := by
  intro n
  induction n with
  | zero => intro j lo hi h1 h2 h3 h4 h5 h6 h7; omega
  | succ n ih =>
    intro j lo hi' h1 h2 h3 h4 h5 h6 h7
    simp only [f_62_30, iN_lit 60, iN_lt (show j < 2147483648 by omega) (show 60 < 2147483648 by decide), show j < 60 by omega, ↓reduceIte, iN_lt (show lo < 2147483648 by omega) (show hi' < 2147483648 by omega)]
    by_cases hl : lo < hi'
    · have hm : (iN lo + iN hi') / (2 : Int32) = iN ((lo + hi') / 2) := by rw [iN_add, iN_lit 2, iN_div (by omega) (by decide) (by decide)]
      simp only [hl, ↓reduceIte, hm, hit, c_swell h hw hi (show (lo + hi') / 2 < 1000 by omega) hN, Option.bind_some]
      by_cases hc : sSwell L it ((lo + hi') / 2) < x
      · simp only [hc, ↓reduceIte, iN_succ]
        refine ih (j + 1) _ hi' (by omega) (by omega) h3 (by omega) (by omega) h6 (fun q g1 g2 => ?_)
        by_cases g3 : sSwell L it q < x
        · exact g3
        · exact absurd hc (swell_mono h.1 hw (by omega) g3)
      · simp only [hc, ↓reduceIte, iN_succ]
        exact ih (j + 1) lo _ h1 (by omega) (by omega) (by omega) (by omega) hc h7
    · have e : lo = hi' := by omega
      subst e
      rw [if_neg hl]
      have : sBurst L it x = some lo := fnd_some h1 (by omega) (by simp [h6]) (fun q g1 g2 => by simp [h7 q g1 g2])
      rw [this]
      rfl
theorem c_burst (h : CL 43 L P) (hw : WF pe L) (hit : P.1 3 7 = iN it) (hi : it ≤ 50) (x : Int32) (hN : 70000 ≤ N) : f_62 N P x = some (oN (sBurst L it x)) := by
  unfold f_62
  rw [hit, iN_lit 60, c_swell h hw hi (by decide) hN, Option.bind_some]
  by_cases hc : sSwell L it 60 < x
  · rw [if_pos hc]
    have : sBurst L it x = none := fnd_none (fun n h1 h2 => by
      by_cases g3 : sSwell L it n < x
      · simp [g3]
      · exact absurd hc (swell_mono h.1 hw (by omega) g3))
    rw [this]
    rfl
  · rw [if_neg hc]
    exact c_search h hw hit hi x hN N 0 1 60 (by decide) (by decide) (by decide) (by decide) (by omega) hc (fun q g1 g2 => by omega)
theorem r_burst (h : RL 477 L P) (hw : WF pe L) (hit : P.1 76 2 = iN it) (hi : it ≤ 50) (x : Int32) (hN : 70000 ≤ N) : f_63_7 N N x 1 P = some (oN (sBurst L it x), P) := by
  have key : ∀ c lo n, lo + c = 61 → c < n → f_63_7 N n x (iN lo) P = some (oN (fnd (fun n => !decide (sSwell L it n < x)) lo c), P) := by
    intro c
    induction c with
    | zero =>
      intro lo n h1 h2
      obtain ⟨n, rfl⟩ : ∃ q, n = q + 1 := ⟨n - 1, by omega⟩
      simp only [f_63_7, iN_lit 60, iN_lt (show 60 < 2147483648 by decide) (show lo < 2147483648 by omega), show 60 < lo by omega, ↓reduceIte]
      rfl
    | succ c ih =>
      intro lo n h1 h2
      obtain ⟨n, rfl⟩ : ∃ q, n = q + 1 := ⟨n - 1, by omega⟩
      simp only [f_63_7, iN_lit 60, iN_lt (show 60 < 2147483648 by decide) (show lo < 2147483648 by omega), show ¬ 60 < lo by omega, ↓reduceIte, r_swell h hw hit hi (show lo < 1000 by omega) hN, Option.bind_some, fnd]
      by_cases hc : sSwell L it lo < x
      · simp only [hc, ↓reduceIte, iN_succ, decide_true, Bool.not_true, Bool.false_eq_true]
        exact ih (lo + 1) n (by omega) (by omega)
      · simp [hc, oN]
  exact key 60 1 N (by decide) (by omega)
/-! who holds most of what is on one -/
def sMst (L : LG) (a : Int32) : Nat → Int32 × Int32
  | 0 => (-1, 0)
  | n + 1 => if (sMst L a n).2 < sOwed L a (iN n) then (iN n, sOwed L a (iN n)) else sMst L a n
theorem c_master (h : CL 43 L P) (hp : pe ≤ 8) (hpe : P.1 3 5 = iN pe) (a : Int32) (hN : 70000 ≤ N) : f_188_12 N N a (-1) 0 0 P = some (.inl (sMst L a pe).1, P) := by
  refine up (fun n k (x : Int32 × Int32) => f_188_12 N n a x.1 x.2 (iN k) P) pe (sMst L a) _ (fun n k hk => ?_) (fun n => ?_) N (by omega)
  · simp only [f_188_12, hpe, iN_lt (show k < 2147483648 by omega) (show pe < 2147483648 by omega), hk, c_owed h hN, ↓reduceIte, Option.bind_some, iN_succ, sMst]
    by_cases hc : (sMst L a k).2 < sOwed L a (iN k) <;> simp [hc]
  · simp only [f_188_12, hpe, iN_lt (show pe < 2147483648 by omega) (show pe < 2147483648 by omega), Nat.lt_irrefl, ↓reduceIte]
theorem r_master (h : RL 477 L P) (hp : pe ≤ 8) (hpe : P.1 76 0 = iN pe) (a : Int32) (hN : 70000 ≤ N) : f_83_36 N N a (-1) 0 0 P = some ((sMst L a pe).1, P) := by
  have h40 := h.1
  refine up (fun n k (x : Int32 × Int32) => f_83_36 N n a x.1 x.2 (iN k) P) pe (sMst L a) _ (fun n k hk => ?_) (fun n => ?_) N (by omega)
  · simp only [f_83_36, hpe, iN_lt (show k < 2147483648 by omega) (show pe < 2147483648 by omega), hk, ↓reduceIte, sMst]
    refine up (fun n2 k2 x => f_83_53 _ n2 a (sMst L a k).1 (sMst L a k).2 (iN k) x (iN k2) P) L.2.1 (sumI (szs L (fun z => decide (L.1 0 z = a) && decide (L.1 1 z = iN k)))) _ (fun n2 k2 hk2 => ?_) (fun n2 => ?_) N (by omega)
    · simp only [f_83_53, r_more h hk2, r_stand h (show k2 < 2147483648 by omega), r_of0 h hk2, r_of1 h hk2, r_of2 h hk2, ↓reduceIte, Option.bind_some, bI_0, sumI_s, iN_succ]
      by_cases hs : stL L k2 = true <;> by_cases hp : L.1 0 k2 = a <;> by_cases hq : L.1 1 k2 = iN k <;> simp [szs, hs, hp, hq]
    · simp only [f_83_53, r_end h, ↓reduceIte, iN_succ]
      show (if (sMst L a k).2 < sOwed L a (iN k) then f_83_36 N n a (iN k) (sOwed L a (iN k)) (iN (k + 1)) P else _) = _
      by_cases hc : (sMst L a k).2 < sOwed L a (iN k) <;> simp [hc]
  · simp only [f_83_36, hpe, iN_lt (show pe < 2147483648 by omega) (show pe < 2147483648 by omega), Nat.lt_irrefl, ↓reduceIte]
/-! who is at 0 -/
def orI (p : Nat → Bool) : Nat → Int32
  | 0 => 0
  | n + 1 => orI p n ||| (if p n then (1 : Int32) <<< (iN n &&& 31) else 0)
def sSquare (L : LG) (pe : Nat) : Int32 := orI (fun p => decide (sWorth L (iN p) false = 0)) pe
theorem c_square (h : CL 43 L P) (hp : pe ≤ 8) (hpe : P.1 3 5 = iN pe) (hN : 70000 ≤ N) : f_78 N P = some (sSquare L pe) := by
  refine up (fun n k x => f_78_4 N P n x (iN k)) pe (orI (fun p => decide (sWorth L (iN p) false = 0))) _ (fun n k hk => ?_) (fun n => ?_) N (by omega)
  · simp only [f_78_4, hpe, iN_lt (show k < 2147483648 by omega) (show pe < 2147483648 by omega), hk, c_worth0 h hN, ↓reduceIte, Option.bind_some, iN_succ, orI]
    by_cases hc : sWorth L (iN k) false = 0 <;> simp [hc]
  · simp only [f_78_4, hpe, iN_lt (show pe < 2147483648 by omega) (show pe < 2147483648 by omega), Nat.lt_irrefl, ↓reduceIte]
    rfl
theorem r_square (h : RL 477 L P) (hw : WF pe L) (hpe : P.1 76 0 = iN pe) (hN : 70000 ≤ N) : f_79_9 N N 0 0 P = some (sSquare L pe, P) := by
  have hp := hw.1
  refine up (fun n k x => f_79_9 N n x (iN k) P) pe (orI (fun p => decide (sWorth L (iN p) false = 0))) _ (fun n k hk => ?_) (fun n => ?_) N (by omega)
  · simp only [f_79_9, hpe, iN_lt (show k < 2147483648 by omega) (show pe < 2147483648 by omega), hk, r_worth0 h hw hN, ↓reduceIte, Option.bind_some, iN_succ, orI]
    by_cases hc : sWorth L (iN k) false = 0 <;> simp [hc]
  · simp only [f_79_9, hpe, iN_lt (show pe < 2147483648 by omega) (show pe < 2147483648 by omega), Nat.lt_irrefl, ↓reduceIte]
    rfl
end BU
