/-! LAYER 2: RUNS OF THE INTERPRETER, the fuel forgotten -/
/-- one turn of the interpreter, what comes behind it left open -/
def exB (E : Xe) (rec : Nat → Fr → Option (Outcome × Wd)) (m pc : Nat) (ls st : List Value) (w : Wd) (e : En) : Option (Outcome × Wd) :=
      if isRt e.1 then (match rt1 m e.1 st with
        | some v => some (.returned v, w)
        | none => none)
      else if isCl e.1 then
        (if Nat.ble 6 e.2.2.2.2.1 then (match pr1 e.2.2.2.2.1 st with
          | some r => rec m (pc + 3, ls, r, w)
          | none => none)
        else match cl1 e st w with
        | none => none
        | some (j, as, r) => match rec j (0, loc0 j as, [], w) with
          | none => none
          | some (.returned v, w1) => rec m (pc + 3, ls, v.toList ++ r, w1)
          | some (.threw k, w1) => if Nat.beq e.2.2.2.2.1 1 && Nat.blt k w1.1 && isR as then (match hnd m pc k with
            | some h => rec m (h, ls, [.ref k], w1)
            | none => if Nat.beq m mText then none else some (.threw k, w1)) else none)
      else match e.1, st with
        | .athrow, .ref k :: _ => if Nat.blt k w.1 then (match hnd m pc k with
          | some h => rec m (h, ls, [.ref k], w)
          | none => if Nat.beq m mText then none else some (.threw k, w)) else none
        | _, _ => match st1 E e pc ls st w with
          | some g => rec m g
          | none => none
theorem ex_some {E : Xe} {f m pc : Nat} {ls st : List Value} {w : Wd} {e : En} (h : (cdO m)[pc]? = some e) : ex E (f + 1) m (pc, ls, st, w) = exB E (ex E f) m pc ls st w e := by
  rw [ex, h]
  rfl
theorem ex_none {E : Xe} {f m pc : Nat} {ls st : List Value} {w : Wd} (h : (cdO m)[pc]? = none) : ex E (f + 1) m (pc, ls, st, w) = none := by
  rw [ex, h]
theorem exB_mono {E : Xe} {r1 r2 : Nat → Fr → Option (Outcome × Wd)} (hr : ∀ m fr r, r1 m fr = some r → r2 m fr = some r) {m pc : Nat} {ls st : List Value} {w : Wd} {e : En} {r : Outcome × Wd} (h : exB E r1 m pc ls st w e = some r) : exB E r2 m pc ls st w e = some r := by
  unfold exB at h ⊢
  split at h
  · rename_i h1
    rw [if_pos h1]
    exact h
  · rename_i h1
    rw [if_neg h1]
    split at h
    · rename_i h2
      rw [if_pos h2]
      split at h
      · rename_i h3
        rw [if_pos h3]
        split at h
        · exact hr _ _ _ h
        · cases h
      · rename_i h3
        rw [if_neg h3]
        split at h
        · cases h
        · rename_i j as r' hp
          cases hq : r1 j (0, loc0 j as, [], w) with
          | none => rw [hq] at h; cases h
          | some q2 =>
            rw [hq] at h
            rw [hr _ _ _ hq]
            obtain ⟨o, w1⟩ := q2
            cases o with
            | returned v => exact hr _ _ _ h
            | threw k =>
              dsimp only at h ⊢
              split at h
              · rename_i h4
                rw [if_pos h4]
                split at h
                · exact hr _ _ _ h
                · exact h
              · cases h
    · rename_i h2
      rw [if_neg h2]
      split at h
      · split at h
        · rename_i h5
          rw [if_pos h5]
          split at h
          · exact hr _ _ _ h
          · exact h
        · cases h
      · rename_i h3
        split at h
        · exact hr _ _ _ h
        · cases h
