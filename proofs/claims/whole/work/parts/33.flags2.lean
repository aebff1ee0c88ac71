theorem fok_up {F : Nat → Nat → Bool} (h : Fok F) (k j : Nat) : Fok (up2 F k j true) := by
  intro a b ha hb
  unfold up2
  split
  · split
    · rfl
    · exact h a b ha hb
  · exact h a b ha hb
theorem fr_fin {m d q a b c k : Nat} {F : Nat → Nat → Bool} (hf : frL[d]? = some (ow m, q, a, b, c)) (hF : Fok F) (hk : k < 200) (hs : shc k = a) (hc : c = 2 ∨ c = 3) : F k b = true := by
  rcases fr_ok _ (List.mem_of_getElem? hf) with e | ⟨e1, e2, e3⟩
  · exact absurd (hs.trans e) shc_not90
  · dsimp only at e3
    exact hF k b hk (by rw [hs, ← e3]; exact hc)
theorem st1_get {E : Xe} {m pc n a b c d q : Nat} {v : Int32} {ls st : List Value} {F F' : Nat → Nat → Bool} {I : Nat → Nat → Int32} {R : Nat → Nat → Option Nat} {g : Fr} (hf : frL[d]? = some (ow m, q, a, b, c)) (hF : Fok F) (h : st1 E (.getfield q, n, a, b, c, d, v) pc ls st (200, F', I, R) = some g) : st1 E (.getfield q, n, a, b, c, d, v) pc ls st (200, F, I, R) = some (setF F g) := by
  simp only [st1] at h ⊢
  split at h
  · rename_i k r
    split at h
    · rename_i hc
      rw [if_pos hc]
      simp only [Bool.and_eq_true] at hc
      have hfk := fr_fin hf hF (blt_lt hc.1) (Nat.eq_of_beq_eq_true hc.2)
      by_cases c2 : c = 2 ∨ c = 3
      · have hq := hfk c2
        rcases c2 with e | e
        · subst e
          simp [hq] at h ⊢
          obtain ⟨-, rfl⟩ := h
          rfl
        · subst e
          simp [hq] at h ⊢
          obtain ⟨-, rfl⟩ := h
          rfl
      · have n2 : ¬ c = 2 := fun z => c2 (Or.inl z)
        have n3 : ¬ c = 3 := fun z => c2 (Or.inr z)
        simp only [if_neg n2, if_neg n3] at h ⊢
        split at h
        · rename_i e
          rw [if_pos e]
          cases h
          rfl
        · rename_i e
          rw [if_neg e]
          split at h
          · rename_i e
            rw [if_pos e]
            cases h
            rfl
          · rename_i e
            rw [if_neg e]
            split at h
            · rename_i e
              rw [if_pos e]
              split at h
              · cases h
                rfl
              · cases h
            · split at h <;> cases h
    · cases h
  · rename_i k r
    split at h
    · rename_i hc
      rw [if_pos hc]
      split at h
      · rename_i e
        rw [if_pos e]
        cases h
        rfl
      · rename_i e
        rw [if_neg e]
        split at h
        · rename_i e
          rw [if_pos e]
          cases h
          rfl
        · cases h
    · cases h
  · cases h
theorem st1_put {E : Xe} {pc n a b c d q : Nat} {v : Int32} {ls st : List Value} {F F' : Nat → Nat → Bool} {I : Nat → Nat → Int32} {R : Nat → Nat → Option Nat} {g : Fr} (hF : Fok F) (h : st1 E (.putfield q, n, a, b, c, d, v) pc ls st (200, F', I, R) = some g) : ∃ F1, Fok F1 ∧ st1 E (.putfield q, n, a, b, c, d, v) pc ls st (200, F, I, R) = some (setF F1 g) := by
  simp only [st1] at h ⊢
  repeat' split at h
  all_goals first
    | (cases h; done)
    | (cases h; refine ⟨F, hF, ?_⟩; simp_all [setF]; done)
    | (rename_i k r h1 h2 h3 h4 h5; cases h; refine ⟨up2 F k b true, fok_up hF k b, ?_⟩; rw [if_pos h1, if_neg h2, if_neg h3, if_pos h4, if_pos h5]; rfl)
    | (rename_i k r h1 h2 h3 h4; cases h; refine ⟨up2 F k b true, fok_up hF k b, ?_⟩; rw [if_pos h1, if_neg h2, if_pos h3, if_pos h4]; rfl)
