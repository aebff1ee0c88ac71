/-! FAULTS 1 to 4: both sides keep the least of what was noted, by place, then kind. S: what was noted -/
def isMn (S : Nat → Nat → Prop) (q k : Nat) : Prop := S q k ∧ ∀ q' k', S q' k' → q < q' ∨ (q = q' ∧ k ≤ k')
def adS (S : Nat → Nat → Prop) (q k : Nat) : Nat → Nat → Prop := fun q' k' => S q' k' ∨ (q' = q ∧ k' = k)
def NtC (S : Nat → Nat → Prop) (A : St) : Prop := ((∀ q k, ¬ S q k) ∧ A 57 3 = 0) ∨ ∃ q k, 1 ≤ k ∧ k < 10 ∧ q ≤ 1300 ∧ isMn S q k ∧ A 57 3 = Int32.ofNat k ∧ A 57 4 = Int32.ofNat q
def NtR (S : Nat → Nat → Prop) (B : St) : Prop := ((∀ q k, ¬ S q k) ∧ B 82 22 = 0 ∧ B 82 5 = 4001) ∨ ∃ q k, 1 ≤ k ∧ k < 10 ∧ q ≤ 1300 ∧ isMn S q k ∧ B 82 22 = Int32.ofNat k ∧ B 82 5 = Int32.ofNat q
section
variable {S : Nat → Nat → Prop} {A B : St} {q k q0 k0 : Nat}
theorem isMn.new (h : isMn S q0 k0) (hlt : q < q0 ∨ (q = q0 ∧ k ≤ k0)) : isMn (adS S q k) q k := by
  refine ⟨Or.inr ⟨rfl, rfl⟩, fun q' k' z => ?_⟩
  rcases z with z | ⟨rfl, rfl⟩
  · have := h.2 q' k' z
    omega
  · exact Or.inr ⟨rfl, Nat.le_refl _⟩
theorem isMn.old (h : isMn S q0 k0) (hlt : q0 < q ∨ (q0 = q ∧ k0 ≤ k)) : isMn (adS S q k) q0 k0 := by
  refine ⟨Or.inl h.1, fun q' k' z => ?_⟩
  rcases z with z | ⟨rfl, rfl⟩
  · exact h.2 q' k' z
  · exact hlt
theorem isMn.one (h : ∀ q k, ¬ S q k) : isMn (adS S q k) q k := by
  refine ⟨Or.inr ⟨rfl, rfl⟩, fun q' k' z => ?_⟩
  rcases z with z | ⟨rfl, rfl⟩
  · exact absurd z (h q' k')
  · exact Or.inr ⟨rfl, Nat.le_refl _⟩
theorem x83_n (h : NtC S A) (h1 : 1 ≤ k) (h2 : k < 10) (h3 : q ≤ 1300) : ∃ A', x83 A (Int32.ofNat q) (Int32.ofNat k) = some A' ∧ NtC (adS S q k) A' := by
  have new : isMn (adS S q k) q k → NtC (adS S q k) (up2 (up2 A 57 3 (Int32.ofNat k)) 57 4 (Int32.ofNat q)) := fun z => Or.inr ⟨q, k, h1, h2, h3, z, by rw [up2_j _ _ _ _ _ (by decide), up2_s], up2_s _ _ _ _⟩
  unfold x83
  rcases h with ⟨e1, e2⟩ | ⟨q0, k0, e1, e2, e3, e4, e5, e6⟩
  · rw [if_pos e2]
    exact ⟨_, rfl, new (isMn.one e1)⟩
  · rw [e5, e6, if_neg (fun z => by have := (i32_e (x := 0) (b := 0) rfl (by omega) (by decide)).mp z; omega)]
    by_cases c1 : q < q0
    · rw [if_pos ((i32_lt (by omega) (by omega)).mpr c1)]
      exact ⟨_, rfl, new (e4.new (Or.inl c1))⟩
    · rw [if_neg (fun z => c1 ((i32_lt (by omega) (by omega)).mp z))]
      by_cases c2 : q = q0
      · rw [if_pos (by rw [c2])]
        by_cases c3 : k0 ≤ k
        · rw [if_pos ((i32_le (by omega) (by omega)).mpr c3)]
          exact ⟨_, rfl, Or.inr ⟨q0, k0, e1, e2, e3, e4.old (Or.inr ⟨c2.symm, c3⟩), e5, e6⟩⟩
        · rw [if_neg (fun z => c3 ((i32_le (by omega) (by omega)).mp z))]
          exact ⟨_, rfl, new (e4.new (Or.inr ⟨c2, by omega⟩))⟩
      · rw [if_neg (by rw [i32_eq (by omega) (by omega)]; exact c2)]
        exact ⟨_, rfl, Or.inr ⟨q0, k0, e1, e2, e3, e4.old (Or.inl (by omega)), e5, e6⟩⟩
theorem x217_n (h : NtR S B) (h1 : 1 ≤ k) (h2 : k < 10) (h3 : q ≤ 1300) : ∃ B', x217 B (Int32.ofNat k) (Int32.ofNat q) = some B' ∧ NtR (adS S q k) B' := by
  have new : isMn (adS S q k) q k → NtR (adS S q k) (up2 (up2 B 82 22 (Int32.ofNat k)) 82 5 (Int32.ofNat q)) := fun z => Or.inr ⟨q, k, h1, h2, h3, z, by rw [up2_j _ _ _ _ _ (by decide), up2_s], up2_s _ _ _ _⟩
  unfold x217
  rcases h with ⟨e1, e2, e3⟩ | ⟨q0, k0, e1, e2, e3, e4, e5, e6⟩
  · rw [e3, if_pos (show Int32.ofNat q < 4001 by show Int32.ofNat q < Int32.ofNat 4001; rw [i32_lt (by omega) (by decide)]; omega)]
    exact ⟨_, rfl, new (isMn.one e1)⟩
  · rw [e5, e6]
    by_cases c1 : q < q0
    · rw [if_pos ((i32_lt (by omega) (by omega)).mpr c1)]
      exact ⟨_, rfl, new (e4.new (Or.inl c1))⟩
    · rw [if_neg (fun z => c1 ((i32_lt (by omega) (by omega)).mp z))]
      by_cases c2 : q = q0
      · rw [if_pos (by rw [c2])]
        by_cases c3 : k0 ≤ k
        · rw [if_pos ((i32_le (by omega) (by omega)).mpr c3)]
          exact ⟨_, rfl, Or.inr ⟨q0, k0, e1, e2, e3, e4.old (Or.inr ⟨c2.symm, c3⟩), e5, e6⟩⟩
        · rw [if_neg (fun z => c3 ((i32_le (by omega) (by omega)).mp z))]
          exact ⟨_, rfl, new (e4.new (Or.inr ⟨c2, by omega⟩))⟩
      · rw [if_neg (by rw [i32_eq (by omega) (by omega)]; exact c2)]
        exact ⟨_, rfl, Or.inr ⟨q0, k0, e1, e2, e3, e4.old (Or.inl (by omega)), e5, e6⟩⟩
/-- the same was noted on both sides: the same fault is told -/
theorem note_same (hA : NtC S A) (hB : NtR S B) : A 57 3 = B 82 22 ∧ (A 57 3 ≠ 0 → A 57 4 = B 82 5) := by
  rcases hA with ⟨a1, a2⟩ | ⟨q, k, a1, a2, a3, a4, a5, a6⟩
  · rcases hB with ⟨b1, b2, b3⟩ | ⟨q', k', b1, b2, b3, b4, b5, b6⟩
    · exact ⟨by rw [a2, b2], fun z => absurd a2 z⟩
    · exact absurd b4.1 (a1 _ _)
  · rcases hB with ⟨b1, b2, b3⟩ | ⟨q', k', b1, b2, b3, b4, b5, b6⟩
    · exact absurd a4.1 (b1 _ _)
    · have e1 := a4.2 q' k' b4.1
      have e2 := b4.2 q k a4.1
      have e3 : q = q' := by omega
      have e4 : k = k' := by omega
      subst e3
      subst e4
      exact ⟨by rw [a5, b5], fun _ => by rw [a6, b6]⟩
end
