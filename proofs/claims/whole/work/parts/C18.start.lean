/-! THE START: both constructors, by evaluation -/
def wA : Wd := (1, clr (fun _ _ => false) 0 false, clr (fun _ _ => 0) 0 0, clr (fun _ _ => none) 0 none)
def gW : Option (Outcome × Wd) → Wd
  | some (_, w) => w
  | none => wZ
def isOk (N : Nat) : Option (Outcome × Wd) → Bool
  | some (.returned none, w) => Nat.beq w.1 N
  | _ => false
theorem isOk_of {N : Nat} {x : Option (Outcome × Wd)} (h : isOk N x = true) : x = some (.returned none, (N, (gW x).2.1, (gW x).2.2.1, (gW x).2.2.2)) := by
  rcases x with _ | ⟨o, n, F, I, R⟩
  · cases h
  · rcases o with v | k
    · cases v with
      | none =>
        have : n = N := Nat.eq_of_beq_eq_true h
        subst this
        rfl
      | some v => cases h
    · cases h
def w1 : Wd := gW (exK 20000 1 (0, loc0 1 [.ref 0], [], wA))
def wB : Wd := (83, clr w1.2.1 82 false, clr w1.2.2.1 82 0, clr w1.2.2.2 82 none)
def w2 : Wd := gW (exK 20000 182 (0, loc0 182 [.ref 82], [], wB))
set_option maxRecDepth 100000 in
theorem ok_1 : isOk 82 (exK 20000 1 (0, loc0 1 [.ref 0], [], wA)) = true := by decide +kernel
set_option maxRecDepth 100000 in
theorem ok_2 : isOk 200 (exK 20000 182 (0, loc0 182 [.ref 82], [], wB)) = true := by decide +kernel
