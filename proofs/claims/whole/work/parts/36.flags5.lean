/-- a run in the world wT is one in the real world behind the constructors -/
theorem Rn.fl {E : Xe} {m pc : Nat} {ls st : List Value} {I I1 : Nat → Nat → Int32} {R R1 : Nat → Nat → Option Nat} {o : Outcome} {F : Nat → Nat → Bool} (hm : m < nM) (hF : Fok F) (h : Rn E m (pc, ls, st, wT I R) o (wT I1 R1)) : ∃ F1, Fok F1 ∧ Rn E m (pc, ls, st, (200, F, I, R)) o (200, F1, I1, R1) := by
  obtain ⟨f, h⟩ := h
  obtain ⟨-, F1, h2, h3⟩ := ex_fl f m pc ls st F _ I R o _ hm hF h
  exact ⟨F1, h2, f, h3⟩
