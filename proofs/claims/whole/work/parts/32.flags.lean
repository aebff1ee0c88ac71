/-! FLAGS: behind the constructors a run does not see which flags of finals are set, if all that can be read are -/
def Fok (F : Nat → Nat → Bool) : Prop := ∀ k j, k < 200 → (fK (shc k) j = 2 ∨ fK (shc k) j = 3) → F k j = true
def setF (F : Nat → Nat → Bool) (g : Fr) : Fr := (g.1, g.2.1, g.2.2.1, (g.2.2.2.1, F, g.2.2.2.2.2))
def isGP (i : Instr) : Bool := match i with
  | .getfield _ => true
  | .putfield _ => true
  | .new _ => true
  | .newarray _ => true
  | _ => false
theorem st1_F {E : Xe} {i : Instr} {pc n a b c d : Nat} {v : Int32} {ls st : List Value} {N : Nat} {F F' : Nat → Nat → Bool} {I : Nat → Nat → Int32} {R : Nat → Nat → Option Nat} (h : isGP i = false) : st1 E (i, n, a, b, c, d, v) pc ls st (N, F, I, R) = (st1 E (i, n, a, b, c, d, v) pc ls st (N, F', I, R)).map (setF F) := by
  cases i
  case getfield => cases h
  case putfield => cases h
  case new => cases h
  case newarray => cases h
  all_goals (simp only [st1] <;> (repeat' split) <;> first | rfl | (simp_all; done))
