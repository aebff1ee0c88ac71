/-! THE WORLD BEHIND THE CONSTRUCTORS: all cells made, all finals set; TABLES -/
def wT (I : Nat → Nat → Int32) (R : Nat → Nat → Option Nat) : Wd := (200, fun _ _ => true, I, R)
theorem Rn.br {E : Xe} {m pc : Nat} {ls st : List Value} {w : Wd} {e : En} {g1 g2 : Fr} {o : Outcome} {w1 : Wd} {c : Prop} [Decidable c] (hc : (cdO m)[pc]? = some e) (hn : ¬ (isRt e.1 || (isCl e.1 || isAt e.1)) = true) (h : st1 E e pc ls st w = if c then some g1 else some g2) (K1 : c → Rn E m g1 o w1) (K2 : ¬ c → Rn E m g2 o w1) : Rn E m (pc, ls, st, w) o w1 := by
  by_cases hz : c
  · rw [if_pos hz] at h
    exact Rn.st hc hn h (K1 hz)
  · rw [if_neg hz] at h
    exact Rn.st hc hn h (K2 hz)
theorem tb_ok : ∀ k, k < 200 → shc k = 1 → sf k 2 < 200 ∧ shc (sf k 2) = 100 ∧ shl (sf k 2) = sf k 0 * sf k 1 ∧ sf k 0 * sf k 1 < 100000 ∧ 1 ≤ sf k 1 ∧ fK 1 0 = 2 ∧ fK 1 1 = 2 ∧ fK 1 2 = 3 ∧ fK 1 3 = 0 := by decide +kernel
section
variable {E : Xe} {I : Nat → Nat → Int32} {R : Nat → Nat → Option Nat} {k pc n d q : Nat} {ls r : List Value} {v : Int32}
theorem gf_2 {a b : Nat} (hk : k < 200) (hs : shc k = a) : st1 E (.getfield q, n, a, b, 2, d, v) pc ls (.ref k :: r) (wT I R) = some (pc + n, ls, .int (Int32.ofNat (sf k b)) :: r, wT I R) := by
  have h1 : Nat.blt k 200 = true := by simpa [Nat.blt_eq] using hk
  simp [st1, wT, h1, hs]
theorem gf_3 {a b : Nat} (hk : k < 200) (hs : shc k = a) : st1 E (.getfield q, n, a, b, 3, d, v) pc ls (.ref k :: r) (wT I R) = some (pc + n, ls, .ref (sf k b) :: r, wT I R) := by
  have h1 : Nat.blt k 200 = true := by simpa [Nat.blt_eq] using hk
  simp [st1, wT, h1, hs]
theorem gf_0 {a b : Nat} (hk : k < 200) (hs : shc k = a) : st1 E (.getfield q, n, a, b, 0, d, v) pc ls (.ref k :: r) (wT I R) = some (pc + n, ls, .int (I k b) :: r, wT I R) := by
  have h1 : Nat.blt k 200 = true := by simpa [Nat.blt_eq] using hk
  simp [st1, wT, h1, hs]
end
/-- a table's cell -/
def tget (I : Nat → Nat → Int32) (k : Nat) (i j : Int32) : Int32 := if i < 0 ∨ Int32.ofNat (sf k 0) ≤ i ∨ j < 0 ∨ Int32.ofNat (sf k 1) ≤ j then 0 else I (sf k 2) (i * Int32.ofNat (sf k 1) + j).toNatClampNeg
theorem tsize_ok {E : Xe} {I : Nat → Nat → Int32} {R : Nat → Nat → Option Nat} {k : Nat} (hk : k < 200) (hs : shc k = 1) : Rn E 9 (0, loc0 9 [.ref k], [], wT I R) (.returned (some (.int (I k 3)))) (wT I R) := by
  refine Rn.st rfl (by decide) rfl ?_
  refine Rn.st rfl (by decide) (gf_0 hk hs) ?_
  exact Rn.ret rfl rfl rfl
