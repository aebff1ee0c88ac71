/-! THE START by evaluation: an interpreter that doesn't ask for the script -/
def xE0 : Xe := (0, fun _ => 0)
def cln : List Value → Bool
  | .retAddr 0 :: _ => false
  | _ :: .retAddr 0 :: _ => false
  | _ => true
theorem st1_E {E : Xe} {e : En} {pc : Nat} {ls st : List Value} {w : Wd} (h : cln st = true) : st1 E e pc ls st w = st1 xE0 e pc ls st w := by
  obtain ⟨i, n, a, b, c, d, v⟩ := e
  have hx : ∀ k, k ≠ 0 → xlen E k = xlen xE0 k ∧ xval E k = xval xE0 k := by
    intro k hk
    unfold xlen xval
    simp only [if_neg hk, and_self]
  cases i
  case iaload =>
    rcases st with _ | ⟨v1, _ | ⟨v2, r⟩⟩
    · rfl
    · cases v1 <;> rfl
    · cases v1 <;> try rfl
      cases v2 <;> try rfl
      rename_i i k
      have hk : k ≠ 0 := fun z => by subst z; cases h
      show (if isXI k = true then (if i < 0 ∨ xlen E k ≤ i.toNatClampNeg then none else some (pc + n, ls, .int (xval E k i.toNatClampNeg) :: r, w)) else none) = _
      rw [(hx k hk).1, (hx k hk).2]
      rfl
  case baload =>
    rcases st with _ | ⟨v1, _ | ⟨v2, r⟩⟩
    · rfl
    · cases v1 <;> rfl
    · cases v1 <;> try rfl
      cases v2 <;> try rfl
      rename_i i k
      have hk : k ≠ 0 := fun z => by subst z; cases h
      show (if isXB k = true then (if i < 0 ∨ xlen E k ≤ i.toNatClampNeg then none else some (pc + n, ls, .int (xval E k i.toNatClampNeg) :: r, w)) else none) = _
      rw [(hx k hk).1, (hx k hk).2]
      rfl
  case arraylength =>
    rcases st with _ | ⟨v1, r⟩
    · rfl
    · cases v1 <;> try rfl
      rename_i k
      have hk : k ≠ 0 := fun z => by subst z; cases h
      show (if (isXI k || isXB k) = true then some (pc + n, ls, .int (Int32.ofNat (xlen E k)) :: r, w) else none) = _
      rw [(hx k hk).1]
      rfl
  all_goals rfl
def exK : Nat → Nat → Fr → Option (Outcome × Wd)
  | 0, _, _ => none
  | f + 1, m, (pc, ls, st, w) => match (cdO m)[pc]? with
    | none => none
    | some e => if cln st = true then exB xE0 (exK f) m pc ls st w e else none
theorem exB_E {E : Xe} {rec : Nat → Fr → Option (Outcome × Wd)} {m pc : Nat} {ls st : List Value} {w : Wd} {e : En} (h : cln st = true) : exB E rec m pc ls st w e = exB xE0 rec m pc ls st w e := by
  unfold exB
  simp only [st1_E (E := E) h]
theorem exK_ok {E : Xe} : ∀ f m fr r, exK f m fr = some r → ex E f m fr = some r := by
  intro f
  induction f with
  | zero => intro m fr r h; rw [exK] at h; cases h
  | succ f ih =>
    intro m fr r h
    obtain ⟨pc, ls, st, w⟩ := fr
    rw [exK] at h
    cases hc : (cdO m)[pc]? with
    | none => rw [hc] at h; cases h
    | some e =>
      rw [hc] at h
      dsimp only at h
      by_cases z : cln st = true
      · rw [if_pos z] at h
        rw [ex_some hc, exB_E z]
        exact exB_mono ih h
      · rw [if_neg z] at h; cases h
