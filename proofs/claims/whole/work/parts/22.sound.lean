/-! what is thrown: caught here, or not -/
set_option maxRecDepth 100000 in
theorem ab_cast3 : ∀ E, E < 3 → Cond.castable (ab_en E) (ab_en E) ∈ ab_N := by decide +kernel
section AB8
variable {p : Program} {l : Launch} {e : Env} {R : Room} {s : State} {m : MethodId} {args : Array Value} {below : List Frame} {meth : Method} {c : Code} {H : Heap} {locs : List Loc} {cells slots : Nat} {Q : State → Prop}
variable {cc : ByteArray} {pc len : Nat} {r : List Nat} {ls : Array Slot} {D : va_G} {cy : Nat → ClassId} {h0 nL : Nat} {ad sa : Nat → Nat} {xs : Nat × (Nat → Int32)} {loc loc' st st' : List ab_V} {M M' : ab_M} {vc : Prop} {y : MethodName}
def ab_ps (s : State) (args : Array Value) (own : String) (E pc : Nat) (z : ExceptionTableEntry) : Prop := covers z pc = false ∨ (z.catchType ≠ 0 ∧ ∃ nm : String, (Cond.classLink own z.catchType nm).before args s = true ∧ va_Nc (ab_en E) nm s)
theorem ab_hnd_none {E : Nat} (hG : ∀ w ∈ ab_G, w.before args s = true) (hN : ∀ E1 E2 : Nat, E1 < 3 → E2 < 3 → E1 ≠ E2 → va_Nc (ab_en E1) (ab_en E2) s) (hE : E < 3) : ∀ (hh ha : List (Nat × Nat × Nat × Nat)), ab_hok y hh ha → ab_hnd ha pc E = none → ∀ z ∈ tableOf hh, ab_ps s args y.cls E pc z
  | [], _, _, _ => fun z hz => by cases hz
  | h :: hr, [], ho, _ => ho.elim
  | h :: hr, a :: ar, ho, hn => by
    obtain ⟨o1, o2, o3, o4, o5, o6, o7⟩ := ho
    unfold ab_hnd at hn
    split at hn
    · cases hn
    · rename_i hc
      intro z hz
      rcases List.mem_cons.mp hz with rfl | hz
      · by_cases hcv : covers ⟨h.1, h.2.1, h.2.2.1, h.2.2.2⟩ pc = true
        · refine Or.inr ⟨o5, ab_en a.2.2.2, hG _ o6, hN E _ hE o4 (fun e9 => hc ?_)⟩
          simp only [covers, Bool.and_eq_true, decide_eq_true_eq] at hcv
          exact ⟨by rw [← o1]; exact hcv.1, by rw [← o2]; exact hcv.2, e9.symm⟩
        · exact Or.inl (by simpa using hcv)
      · exact ab_hnd_none hG hN hE hr ar o7 hn z hz
theorem ab_hnd_some {E w : Nat} (hG : ∀ w ∈ ab_G, w.before args s = true) (hN : ∀ E1 E2 : Nat, E1 < 3 → E2 < 3 → E1 ≠ E2 → va_Nc (ab_en E1) (ab_en E2) s) (hE : E < 3) : ∀ (hh ha : List (Nat × Nat × Nat × Nat)), ab_hok y hh ha → ab_hnd ha pc E = some w →
    ∃ (pre : List ExceptionTableEntry) (x : ExceptionTableEntry) (suf : List ExceptionTableEntry), tableOf hh = pre ++ x :: suf ∧ (∀ z ∈ pre, ab_ps s args y.cls E pc z) ∧ covers x pc = true ∧ x.catchType ≠ 0 ∧ (Cond.classLink y.cls x.catchType (ab_en E)).before args s = true ∧ x.handlerPc = w
  | [], [], _, hn => by cases hn
  | [], _ :: _, ho, _ => ho.elim
  | h :: hr, [], ho, _ => ho.elim
  | h :: hr, a :: ar, ho, hn => by
    obtain ⟨o1, o2, o3, o4, o5, o6, o7⟩ := ho
    unfold ab_hnd at hn
    split at hn
    · rename_i hc
      cases hn
      refine ⟨[], ⟨h.1, h.2.1, h.2.2.1, h.2.2.2⟩, tableOf hr, rfl, (fun z hz => by cases hz), ?_, o5, ?_, o3⟩
      · simp only [covers, Bool.and_eq_true, decide_eq_true_eq]
        exact ⟨by rw [o1]; exact hc.1, by rw [o2]; exact hc.2.1⟩
      · rw [← hc.2.2]
        exact hG _ o6
    · rename_i hc
      obtain ⟨pre, x, suf, q1, q2, q3, q4, q5, q6⟩ := ab_hnd_some hG hN hE hr ar o7 hn
      refine ⟨⟨h.1, h.2.1, h.2.2.1, h.2.2.2⟩ :: pre, x, suf, by show _ :: tableOf hr = _; rw [q1]; rfl, fun z hz => ?_, q3, q4, q5, q6⟩
      rcases List.mem_cons.mp hz with rfl | hz
      · by_cases hcv : covers ⟨h.1, h.2.1, h.2.2.1, h.2.2.2⟩ pc = true
        · refine Or.inr ⟨o5, ab_en a.2.2.2, hG _ o6, hN E _ hE o4 (fun e9 => hc ?_)⟩
          simp only [covers, Bool.and_eq_true, decide_eq_true_eq] at hcv
          exact ⟨by rw [← o1]; exact hcv.1, by rw [← o2]; exact hcv.2, e9.symm⟩
        · exact Or.inl (by simpa using hcv)
      · exact q2 z hz
abbrev ab_iae : String := "java/lang/IllegalArgumentException"
abbrev ab_ise : String := "java/lang/IllegalStateException"
abbrev ab_sup : List String := ["java/lang/RuntimeException", "java/lang/Exception"]
set_option maxRecDepth 100000 in
theorem ab_tw0 : ∀ w ∈ Cond.classLink RX11 383 nxN :: Cond.initialized nxN :: nx_at RX11 387, w ∈ ab_G ∨ w ∈ ab_N := by decide +kernel
set_option maxRecDepth 100000 in
theorem ab_tw1 : ∀ w ∈ Cond.classLink RX11 392 ab_iae :: Cond.initialized ab_iae :: vx_atS RX11 396 ab_iae ab_sup, w ∈ ab_G ∨ w ∈ ab_N := by decide +kernel
set_option maxRecDepth 100000 in
theorem ab_tw2 : ∀ w ∈ Cond.classLink RX11 397 ab_ise :: Cond.initialized ab_ise :: vx_atS RX11 401 ab_ise ab_sup, w ∈ ab_G ∨ w ∈ ab_N := by decide +kernel
set_option maxRecDepth 100000 in
theorem ab_tg0 : ∀ w ∈ Cond.classLink RX11 383 nxN :: Cond.initialized nxN :: nx_at RX11 387, vx_ot w = true := by decide +kernel
set_option maxRecDepth 100000 in
theorem ab_tg1 : ∀ w ∈ Cond.classLink RX11 392 ab_iae :: Cond.initialized ab_iae :: vx_atS RX11 396 ab_iae ab_sup, vx_ot w = true := by decide +kernel
set_option maxRecDepth 100000 in
theorem ab_tg2 : ∀ w ∈ Cond.classLink RX11 397 ab_ise :: Cond.initialized ab_ise :: vx_atS RX11 401 ab_ise ab_sup, vx_ot w = true := by decide +kernel
theorem ab_wordB (C : ab_Cx l p D cy h0 sa xs y cc nL s m args meth c) {w : Cond} (h : w ∈ ab_G ∨ w ∈ ab_N) : w.before args s = true := by
  obtain ⟨hx, hb, hml, hown, hG, hK, hh0, hnm, hlk, hst, hZ⟩ := id C
  rcases h with h | h
  · exact hG w h
  · have hn := ab_N_isN h
    have hv := hZ.1 w h
    refine va_Nw.use ?_ hv
    revert hn
    cases w <;> first | (intro _; rfl) | (intro hn; cases hn)
/-- a throw of a new thing -/
theorem ab_thr {q E : Nat} {z9 : Nat × Nat × Nat × Nat} {mc ms : Nat} {Qc : Array Value → State → Outcome → State → Prop} {XC : String → State → State → Prop} (C : ab_Cx l p D cy h0 sa xs y cc nL s m args meth c) (hs : ab_sit[q]? = some z9) (hE : E = z9.2.2.2) (hy : y.cls = RX11)
    (d0 : decode cc pc = .ok (.new z9.1, 3)) (d3 : decode cc (pc + 3) = .ok (.dup, 1)) (d4 : decode cc (pc + 4) = .ok (.ldc_w z9.2.1, 3)) (d7 : decode cc (pc + 7) = .ok (.invokespecial z9.2.2.1, 3)) (d10 : decode cc (pc + 10) = .ok (.athrow, 1))
    (hout : ∀ x ∈ c.exceptionTable.toList, covers x (pc + 10) = false) (hR : 10 ≤ R.frames ∧ 200 ≤ R.locals) (hRc : cells + 1 ≤ R.cells) (hRs : slots + 6 ≤ R.slots) (hc : cells + 1 ≤ mc) (hs6 : slots + 6 ≤ ms)
    (F : ab_Fr D cy h0 ad sa M s H locs ls nL loc st) (hx : ∀ t : State, s.vm.Alike t.vm → H.size ≤ t.heap.size → (∀ q : Nat, q < H.size → t.heap[q]? = H[q]?) → XC (ab_en E) s t) :
    W p l e R s m args below meth c H locs cells slots (vx_MQ below Qc XC args s mc ms (ab_A h0)) (F0 m pc ls []) := by
  obtain ⟨hx9, hb, hml, hown, hG, hK, hh0, hnm, hlk, hst, hZ⟩ := id C
  obtain ⟨-, -, -, -, -, -, hmsg, ⟨hzU, hzN⟩, -, -, -⟩ := id hZ
  have hownR : s.vm.findClass RX11 = some m.cls := by rw [← hy]; exact hown
  have hsz : ls.size = c.maxLocals := F.2.1.1.trans hml.symm
  have hf : ∀ z ∈ locs, ab_A h0 z.base := F.1.2.2.1.2.2
  rcases q with _ | _ | _ | _ | q
  · cases hs
    subst hE
    obtain ⟨a, ha⟩ := hmsg (RX11, 385, "no such person") (by simp)
    exact nx_throwW hx9 hb hst hownR (ab_wordB C (ab_tw0 _ (by simp))) (ab_wordB C (ab_tw0 _ (by simp))) ha (fun w hw => ab_wordB C (ab_tw0 w (List.mem_cons_of_mem _ (List.mem_cons_of_mem _ hw)))) ab_tg0 hzU hzN F.1.2.2.1 hsz d0 d3 d4 d7 d10 hout (by omega) (by show 0 + 82 ≤ _; omega) hRc hRs hlk hx hf hc hs6
  · cases hs
    subst hE
    obtain ⟨a, ha⟩ := hmsg (RX11, 390, "no such claim") (by simp)
    exact nx_throwW hx9 hb hst hownR (ab_wordB C (ab_tw0 _ (by simp))) (ab_wordB C (ab_tw0 _ (by simp))) ha (fun w hw => ab_wordB C (ab_tw0 w (List.mem_cons_of_mem _ (List.mem_cons_of_mem _ hw)))) ab_tg0 hzU hzN F.1.2.2.1 hsz d0 d3 d4 d7 d10 hout (by omega) (by show 0 + 82 ≤ _; omega) hRc hRs hlk hx hf hc hs6
  · cases hs
    subst hE
    obtain ⟨a, ha⟩ := hmsg (RX11, 394, "not within what is told") (by simp)
    exact vx_throwSW (cls := ab_iae) (names := ab_sup) hx9 hb hst hownR (by decide +kernel) (by decide +kernel) (ab_wordB C (ab_tw1 _ (by simp))) (ab_wordB C (ab_tw1 _ (by simp))) ha (fun w hw => ab_wordB C (ab_tw1 w (List.mem_cons_of_mem _ (List.mem_cons_of_mem _ hw)))) ab_tg1 hzU hzN F.1.2.2.1 hsz d0 d3 d4 d7 d10 hout (by show 2 + 3 < _; omega) (by show 0 + (13 * (2 + 1) + 43) ≤ _; omega) hRc hRs hlk hx hf hc hs6
  · cases hs
    subst hE
    obtain ⟨a, ha⟩ := hmsg (RX11, 399, "too many claims stand") (by simp)
    exact vx_throwSW (cls := ab_ise) (names := ab_sup) hx9 hb hst hownR (by decide +kernel) (by decide +kernel) (ab_wordB C (ab_tw2 _ (by simp))) (ab_wordB C (ab_tw2 _ (by simp))) ha (fun w hw => ab_wordB C (ab_tw2 w (List.mem_cons_of_mem _ (List.mem_cons_of_mem _ hw)))) ab_tg2 hzU hzN F.1.2.2.1 hsz d0 d3 d4 d7 d10 hout (by show 2 + 3 < _; omega) (by show 0 + (13 * (2 + 1) + 43) ≤ _; omega) hRc hRs hlk hx hf hc hs6
  · cases hs
end AB8
