/-! THE START: what stands there -/
def rowF (F : Nat → Bool) : List Nat → Nat → Bool
  | [], _ => true
  | x :: r, j => (if Nat.beq x 2 || Nat.beq x 3 then F j else true) && rowF F r (j + 1)
theorem rowF_of {F : Nat → Bool} : ∀ (r : List Nat) (b : Nat), rowF F r b = true → ∀ j, (r.getD j 0 = 2 ∨ r.getD j 0 = 3) → F (b + j) = true := by
  intro r
  induction r with
  | nil => intro b _ j h; rcases h with h | h <;> cases h
  | cons x r ih =>
    intro b h j hj
    rw [rowF, Bool.and_eq_true] at h
    cases j with
    | zero =>
      have hx : (Nat.beq x 2 || Nat.beq x 3) = true := by
        rcases hj with hj | hj
        · have : x = 2 := hj
          subst this; rfl
        · have : x = 3 := hj
          subst this; rfl
      rw [if_pos hx] at h
      exact h.1
    | succ j =>
      have := ih (b + 1) h.2 j hj
      rwa [show b + (j + 1) = b + 1 + j by omega]
def p7 (c : Nat) : Nat := if c ≤ 1 then 0 else 1
def S0 (F : Nat → Nat → Bool) (I : St) (R : Nat → Nat → Option Nat) : Bool :=
  (decide (R 0 8 = some 3) && decide (R 0 9 = some 18) && decide (R 82 3 = some 126) && decide (R 82 4 = some 85)) &&
  (decide (I 1 3 = 0) && decide (I 82 1 = 0) && decide (I 0 10 = I 82 5) && decide (I 68 13 = 0) && decide (I 82 33 = 0)) &&
  (decide (I 61 0 = I 82 6) && (List.range 16).all (fun i => decide (tget I 62 (Int32.ofNat i) 0 = I 167 i)) && (List.range 16).all (fun i => decide (tget I 64 (Int32.ofNat i) 0 = I 168 i)) && (List.range 7).all (fun i => decide (tget I 66 (Int32.ofNat i) 0 = I 169 i) && decide (tget I 66 (Int32.ofNat i) 1 = I 170 i))) &&
  (decide (I 4 3 = 7) && decide (I 126 5 = 7) && decide (I 126 7 = 0) && decide (I 8 3 = 0) && decide (I 126 6 = 0) && decide (I 10 3 = 0) && decide (I 126 8 = 0) && decide (I 126 11 = 0)) &&
  (decide (I 5 0 = -1) && decide (I 134 0 = -1) && (List.range 7).all (fun c => (Nat.beq c 0 || (decide (I 5 (6 * c) = Int32.ofNat (p7 c)) && decide (I 134 c = Int32.ofNat (p7 c)))) && decide (I 5 (6 * c + 2) = 0) && decide (I 5 (6 * c + 3) = 0) && decide (I 5 (6 * c + 4) = 0) && decide (I 5 (6 * c + 5) = 0))) &&
  (List.range 200).all (fun k => rowF (F k) (fKL.getD (shc k) []) 0)
set_option maxRecDepth 100000 in
theorem s0 : S0 w2.2.1 w2.2.2.1 w2.2.2.2 = true := by decide +kernel
