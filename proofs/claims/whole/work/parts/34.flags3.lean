theorem st1_fl {E : Xe} {m pc : Nat} {e : En} {ls st : List Value} {F F' : Nat → Nat → Bool} {I : Nat → Nat → Int32} {R : Nat → Nat → Option Nat} {g : Fr} (ha : auxE m pc e = true) (hF : Fok F) (h : st1 E e pc ls st (200, F', I, R) = some g) : g.2.2.2.1 = 200 ∧ ∃ F1, Fok F1 ∧ st1 E e pc ls st (200, F, I, R) = some (setF F1 g) := by
  have hw := st1_w ha h
  dsimp only at hw
  have hn : g.2.2.2.1 = 200 := by
    have := hw.2 (Nat.le_refl _)
    omega
  refine ⟨hn, ?_⟩
  obtain ⟨i, n, a, b, c, d, v⟩ := e
  by_cases hg : isGP i = false
  · exact ⟨F, hF, by rw [st1_F (F' := F') hg, h]; rfl⟩
  · cases i <;> first | exact absurd rfl hg | skip
    case getfield q =>
      simp only [auxE, Bool.and_eq_true, decide_eq_true_eq] at ha
      exact ⟨F, hF, st1_get ha.2 hF h⟩
    case putfield q => exact st1_put hF h
    case new q =>
      simp only [st1] at h
      split at h
      · cases h
        exact absurd hn (by dsimp only; omega)
      · cases h
    case newarray q =>
      simp only [st1] at h
      split at h
      · split at h
        · cases h
        · split at h
          · cases h
            exact absurd hn (by dsimp only; omega)
          · cases h
      · cases h
theorem cl1_F {e : En} {st : List Value} {N : Nat} {F F' : Nat → Nat → Bool} {I : Nat → Nat → Int32} {R : Nat → Nat → Option Nat} : cl1 e st (N, F, I, R) = cl1 e st (N, F', I, R) := rfl
theorem cl1_j {m pc j : Nat} {e : En} {st as r : List Value} {w : Wd} (ha : auxE m pc e = true) (hcl : isCl e.1 = true) (hc6 : ¬ Nat.ble 6 e.2.2.2.2.1 = true) (hx : cl1 e st w = some (j, as, r)) : j < nM := by
  obtain ⟨i, n, a, b, c, d, v⟩ := e
  dsimp only at hcl hc6
  have hc5 : c < 6 := by
    rcases Nat.lt_or_ge c 6 with z | z
    · exact z
    · exact absurd (Nat.ble_eq_true_of_le z) hc6
  have hja : j = a := by
    by_cases h0 : c = 0 ∨ c = 3
    · exact (cl1_s h0 hx).1
    · exact (cl1_v (fun z => h0 (Or.inl z)) (fun z => h0 (Or.inr z)) hx).1
  have hmem : ∃ q, mrL[d]? = some (ow m, q, a, b, c) := by
    cases i <;> first | (cases hcl; done) | skip
    all_goals (simp only [auxE, Bool.and_eq_true, decide_eq_true_eq] at ha)
    · exact ⟨_, ha.1.2⟩
    · exact ⟨_, ha.1.2⟩
    · exact ⟨_, ha.1.1.1.2⟩
  obtain ⟨q, hq⟩ := hmem
  rcases mr_ok _ (List.mem_of_getElem? hq) with z | z
  · dsimp only at z; omega
  · rw [hja]; exact z.1
def Fx (E : Xe) (f : Nat) : Prop := ∀ (m pc : Nat) (ls st : List Value) (F F' : Nat → Nat → Bool) (I : Nat → Nat → Int32) (R : Nat → Nat → Option Nat) (o : Outcome) (w1 : Wd), m < nM → Fok F → ex E f m (pc, ls, st, (200, F', I, R)) = some (o, w1) → w1.1 = 200 ∧ ∃ F1, Fok F1 ∧ ex E f m (pc, ls, st, (200, F, I, R)) = some (o, (w1.1, F1, w1.2.2))
