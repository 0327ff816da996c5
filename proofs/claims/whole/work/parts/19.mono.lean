/-! nothing is unmade by a run -/
theorem ab_le.rf {M : ab_M} : ab_le M M := ⟨Nat.le_refl _, Nat.le_refl _, Nat.le_refl _, fun _ _ => rfl⟩
theorem ab_le.tr {M M1 M2 : ab_M} (a : ab_le M M1) (b : ab_le M1 M2) : ab_le M M2 := ⟨Nat.le_trans a.1 b.1, Nat.le_trans a.2.1 b.2.1, Nat.le_trans a.2.2.1 b.2.2.1, fun id hi => (b.2.2.2 id (Nat.lt_of_lt_of_le hi a.1)).trans (a.2.2.2 id hi)⟩
theorem ab_le.ok {M M1 : ab_M} (a : ab_le M M1) {v : ab_V} (h : ab_ok M v) : ab_ok M1 v := by
  cases v with
  | inl w => cases w <;> first | exact h | trivial
  | inr q =>
    obtain ⟨k, n, mm, id⟩ := q
    intro h30
    obtain ⟨h1, h2⟩ := h h30
    exact ⟨Nat.lt_of_lt_of_le h1 a.1, (a.2.2.2 id h1).trans h2⟩
theorem ab_big_mono {G : ab_PG} {xs : Nat × (Nat → Int32)} : ∀ (f d i pc : Nat) (rows : List ab_Row) (loc st : List ab_V) (M : ab_M) (x : ab_X) (M' : ab_M), ab_big G xs f d i pc rows loc st M x M' → ab_le M M' := by
  intro f
  induction f with
  | zero => intro d i pc rows loc st M x M' h; exact h.elim
  | succ f ih =>
    intro d i pc rows loc st M x M' h
    cases rows with
    | nil =>
      obtain ⟨rows, -, -, h⟩ := h
      exact ih _ _ _ _ _ _ _ _ _ h
    | cons row rest =>
      obtain ⟨ins, len, r⟩ := row
      simp only [ab_big] at h
      split at h
      · exact ih _ _ _ _ _ _ _ _ _ h
      · split at h
        · rcases h with ⟨-, h⟩ | ⟨-, h⟩ <;> exact ih _ _ _ _ _ _ _ _ _ h
        · exact h.elim
      · split at h
        · rcases h with ⟨-, h⟩ | ⟨-, h⟩ <;> exact ih _ _ _ _ _ _ _ _ _ h
        · exact h.elim
      · split at h
        · exact ih _ _ _ _ _ _ _ _ _ h
        · exact ih _ _ _ _ _ _ _ _ _ h.2
        · exact h.elim
      · split at h
        · exact ih _ _ _ _ _ _ _ _ _ h
        · exact ih _ _ _ _ _ _ _ _ _ h.2
        · exact h.elim
      · split at h
        · obtain ⟨tgt, -, h⟩ := h
          exact ih _ _ _ _ _ _ _ _ _ h
        · exact h.elim
      · split at h
        · rw [h.2.2]; exact ab_le.rf
        · exact h.elim
      · split at h
        · rw [h.2.2]; exact ab_le.rf
        · exact h.elim
      · split at h
        · rw [h.2.2]; exact ab_le.rf
        · exact h.elim
      · split at h
        · rw [h.2.2.2]; exact ⟨Nat.le_refl _, Nat.le_succ _, Nat.le_add_right _ _, fun _ _ => rfl⟩
        · obtain ⟨d', -, -, -, z, x1, M1, -, -, h1, h2⟩ := h
          have a := ih _ _ _ _ _ _ _ _ _ h1
          split at h2
          · exact a.tr (ih _ _ _ _ _ _ _ _ _ h2)
          · obtain ⟨-, zi, -, h2⟩ := h2
            split at h2
            · exact a.tr (ih _ _ _ _ _ _ _ _ _ (h2 0))
            · rw [h2.2]; exact a
        · split at h
          · rename_i hs
            exact (show ab_le _ _ from ab_step_mono hs).tr (ih _ _ _ _ _ _ _ _ _ h.2)
          · exact h.elim
/-- more fuel, more depth: the same -/
theorem ab_big_up {G : ab_PG} {xs : Nat × (Nat → Int32)} : ∀ (f d i pc : Nat) (rows : List ab_Row) (loc st : List ab_V) (M : ab_M) (x : ab_X) (M' : ab_M), ab_big G xs f d i pc rows loc st M x M' → ∀ f' d', f ≤ f' → d ≤ d' → ab_big G xs f' d' i pc rows loc st M x M' := by
  intro f
  induction f with
  | zero => intro d i pc rows loc st M x M' h; exact h.elim
  | succ f ih =>
    intro d i pc rows loc st M x M' h f1 d1 hf hd
    obtain ⟨f', rfl⟩ : ∃ f', f1 = f' + 1 := ⟨f1 - 1, by omega⟩
    have hf' : f ≤ f' := by omega
    cases rows with
    | nil =>
      obtain ⟨rows, a, b, h⟩ := h
      exact ⟨rows, a, b, ih _ _ _ _ _ _ _ _ _ h _ _ hf' hd⟩
    | cons row rest =>
      obtain ⟨ins, len, r⟩ := row
      simp only [ab_big] at h ⊢
      split at h
      · exact ih _ _ _ _ _ _ _ _ _ h _ _ hf' hd
      · split at h
        · exact h.imp (fun h => ⟨h.1, ih _ _ _ _ _ _ _ _ _ h.2 _ _ hf' hd⟩) (fun h => ⟨h.1, ih _ _ _ _ _ _ _ _ _ h.2 _ _ hf' hd⟩)
        · exact h.elim
      · split at h
        · exact h.imp (fun h => ⟨h.1, ih _ _ _ _ _ _ _ _ _ h.2 _ _ hf' hd⟩) (fun h => ⟨h.1, ih _ _ _ _ _ _ _ _ _ h.2 _ _ hf' hd⟩)
        · exact h.elim
      · split at h
        · exact ih _ _ _ _ _ _ _ _ _ h _ _ hf' hd
        · exact ⟨h.1, ih _ _ _ _ _ _ _ _ _ h.2 _ _ hf' hd⟩
        · exact h.elim
      · split at h
        · exact ih _ _ _ _ _ _ _ _ _ h _ _ hf' hd
        · exact ⟨h.1, ih _ _ _ _ _ _ _ _ _ h.2 _ _ hf' hd⟩
        · exact h.elim
      · split at h
        · obtain ⟨tgt, a, h⟩ := h
          exact ⟨tgt, a, ih _ _ _ _ _ _ _ _ _ h _ _ hf' hd⟩
        · exact h.elim
      · exact h
      · exact h
      · exact h
      · split at h
        · exact h
        · obtain ⟨d', rfl, b1, b2, z, x1, M1, b3, b4, h1, h2⟩ := h
          obtain ⟨d2, rfl⟩ : ∃ d2, d1 = d2 + 1 := ⟨d1 - 1, by omega⟩
          refine ⟨d2, rfl, b1, b2, z, x1, M1, b3, b4, ih _ _ _ _ _ _ _ _ _ h1 _ _ hf' (by omega), ?_⟩
          split at h2
          · exact ih _ _ _ _ _ _ _ _ _ h2 _ _ hf' hd
          · obtain ⟨c1, zi, c2, h2⟩ := h2
            refine ⟨c1, zi, c2, ?_⟩
            split at h2
            · exact fun q => ih _ _ _ _ _ _ _ _ _ (h2 q) _ _ hf' hd
            · exact h2
        · split at h
          · rename_i hs
            exact ⟨h.1, ih _ _ _ _ _ _ _ _ _ h.2 _ _ hf' hd⟩
          · exact h.elim
