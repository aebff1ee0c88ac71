theorem ex_mono1 {E : Xe} : ∀ (f m : Nat) (fr : Fr) (r : Outcome × Wd), ex E f m fr = some r → ex E (f + 1) m fr = some r := by
  intro f
  induction f with
  | zero => intro m fr r h; simp [ex] at h
  | succ f ih =>
    intro m fr r h
    obtain ⟨pc, ls, st, w⟩ := fr
    cases hc : (cdO m)[pc]? with
    | none => rw [ex_none hc] at h; cases h
    | some e =>
      rw [ex_some hc] at h ⊢
      exact exB_mono ih h
theorem ex_mono {E : Xe} {m : Nat} {fr : Fr} {r : Outcome × Wd} : ∀ {f g : Nat}, f ≤ g → ex E f m fr = some r → ex E g m fr = some r := by
  intro f g hfg h
  induction hfg with
  | refl => exact h
  | step _ ih => exact ex_mono1 _ _ _ _ ih
/-- method m, from the frame fr, comes to o and the world w1 -/
def Rn (E : Xe) (m : Nat) (fr : Fr) (o : Outcome) (w1 : Wd) : Prop := ∃ f, ex E f m fr = some (o, w1)
theorem Rn.one {E : Xe} {m : Nat} {fr : Fr} {o o' : Outcome} {w w' : Wd} (h : Rn E m fr o w) (h' : Rn E m fr o' w') : o = o' ∧ w = w' := by
  obtain ⟨f, h⟩ := h
  obtain ⟨g, h'⟩ := h'
  have a := ex_mono (Nat.le_max_left f g) h
  have b := ex_mono (Nat.le_max_right f g) h'
  rw [a] at b
  cases b
  exact ⟨rfl, rfl⟩
def isAt (i : Instr) : Bool := match i with
  | .athrow => true
  | _ => false
/-- n turns of plain instructions -/
def sN (E : Xe) (m : Nat) : Nat → Fr → Option Fr
  | 0, fr => some fr
  | n + 1, (pc, ls, st, w) => match (cdO m)[pc]? with
    | some e => if isRt e.1 || (isCl e.1 || isAt e.1) then none else match st1 E e pc ls st w with
      | some g => sN E m n g
      | none => none
    | none => none
theorem Rn.st {E : Xe} {m pc : Nat} {ls st : List Value} {w : Wd} {e : En} {g : Fr} {o : Outcome} {w1 : Wd} (hc : (cdO m)[pc]? = some e) (hn : ¬ (isRt e.1 || (isCl e.1 || isAt e.1)) = true) (h : st1 E e pc ls st w = some g) (K : Rn E m g o w1) : Rn E m (pc, ls, st, w) o w1 := by
  obtain ⟨f, K⟩ := K
  refine ⟨f + 1, ?_⟩
  rw [ex_some hc]
  simp only [Bool.or_eq_true, not_or] at hn
  unfold exB
  rw [if_neg hn.1, if_neg hn.2.1]
  split
  · rename_i h1
    rw [h1] at hn
    exact absurd rfl hn.2.2
  · rw [h]
    exact K
theorem Rn.run {E : Xe} {m : Nat} {o : Outcome} {w1 : Wd} : ∀ (n : Nat) {fr g : Fr}, sN E m n fr = some g → Rn E m g o w1 → Rn E m fr o w1 := by
  intro n
  induction n with
  | zero => intro fr g h K; cases h; exact K
  | succ n ih =>
    intro fr g h K
    obtain ⟨pc, ls, st, w⟩ := fr
    unfold sN at h
    split at h
    · rename_i e hc
      split at h
      · cases h
      · rename_i hn
        split at h
        · rename_i g' hg
          exact Rn.st hc hn hg (ih h K)
        · cases h
    · cases h
theorem Rn.ret {E : Xe} {m pc : Nat} {ls st : List Value} {w : Wd} {e : En} {v : Option Value} (hc : (cdO m)[pc]? = some e) (hn : isRt e.1 = true) (h : rt1 m e.1 st = some v) : Rn E m (pc, ls, st, w) (.returned v) w := by
  refine ⟨1, ?_⟩
  rw [ex_some hc]
  unfold exB
  rw [if_pos hn, h]
theorem Rn.pr {E : Xe} {m pc : Nat} {ls st r : List Value} {w : Wd} {e : En} {o : Outcome} {w1 : Wd} (hc : (cdO m)[pc]? = some e) (hn : isCl e.1 = true) (h6 : Nat.ble 6 e.2.2.2.2.1 = true) (h : pr1 e.2.2.2.2.1 st = some r) (K : Rn E m (pc + 3, ls, r, w) o w1) : Rn E m (pc, ls, st, w) o w1 := by
  obtain ⟨f, K⟩ := K
  refine ⟨f + 1, ?_⟩
  rw [ex_some hc]
  unfold exB
  have hr : ¬ isRt e.1 = true := by
    intro z
    revert hn z
    cases e.1 <;> simp [isRt, isCl]
  rw [if_neg hr, if_pos hn, if_pos h6, h]
  exact K
theorem Rn.call {E : Xe} {m pc j : Nat} {ls st as r : List Value} {w w1 w2 : Wd} {e : En} {v : Option Value} {o : Outcome} (hc : (cdO m)[pc]? = some e) (hn : isCl e.1 = true) (h6 : Nat.ble 6 e.2.2.2.2.1 = false) (h : cl1 e st w = some (j, as, r)) (hj : Rn E j (0, loc0 j as, [], w) (.returned v) w1) (K : Rn E m (pc + 3, ls, v.toList ++ r, w1) o w2) : Rn E m (pc, ls, st, w) o w2 := by
  obtain ⟨f, K⟩ := K
  obtain ⟨g, hj⟩ := hj
  refine ⟨max f g + 1, ?_⟩
  rw [ex_some hc]
  unfold exB
  have hr : ¬ isRt e.1 = true := by
    intro z
    revert hn z
    cases e.1 <;> simp [isRt, isCl]
  rw [if_neg hr, if_pos hn, if_neg (by rw [h6]; decide), h]
  dsimp only
  rw [ex_mono (Nat.le_max_right f g) hj]
  exact ex_mono (Nat.le_max_left f g) K
