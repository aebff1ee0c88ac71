section
variable {E : Xe} {I : Nat → Nat → Int32} {R : Nat → Nat → Option Nat} {k pc n d q : Nat} {ls r : List Value} {v x i : Int32}
theorem pf_0 {a b : Nat} (hk : k < 200) (hs : shc k = a) : st1 E (.putfield q, n, a, b, 0, d, v) pc ls (.int x :: .ref k :: r) (wT I R) = some (pc + n, ls, r, wT (up2 I k b x) R) := by
  have h1 : Nat.blt k 200 = true := by simpa [Nat.blt_eq] using hk
  simp [st1, wT, h1, hs]
theorem as_i {a b c : Nat} (hk : k < 200) (hs : shc k = 100) (h0 : ¬ i < 0) (h1 : i.toNatClampNeg < shl k) : st1 E (.iastore, n, a, b, c, d, v) pc ls (.int x :: .int i :: .ref k :: r) (wT I R) = some (pc + n, ls, r, wT (up2 I k i.toNatClampNeg x) R) := by
  have h2 : Nat.blt k 200 = true := by simpa [Nat.blt_eq] using hk
  have h3 : ¬ (i < 0 ∨ shl k ≤ i.toNatClampNeg) := by rintro (z | z); exact h0 z; omega
  simp only [st1, wT, h2, hs, Bool.true_and]
  rw [if_pos (show Nat.beq 100 100 = true from rfl), if_neg h3]
end
def tset (I : Nat → Nat → Int32) (k : Nat) (i j x : Int32) : Nat → Nat → Int32 := if i < 0 ∨ Int32.ofNat (sf k 0) ≤ i ∨ j < 0 ∨ Int32.ofNat (sf k 1) ≤ j then I else up2 I (sf k 2) (i * Int32.ofNat (sf k 1) + j).toNatClampNeg x
theorem tset_ok {E : Xe} {I : Nat → Nat → Int32} {R : Nat → Nat → Option Nat} {k : Nat} (hk : k < 200) (hs : shc k = 1) (i j x : Int32) : Rn E 8 (0, loc0 8 [.ref k, .int i, .int j, .int x], [], wT I R) (.returned none) (wT (tset I k i j x) R) := by
  obtain ⟨c1, c2, c3, c4, c5, -⟩ := tb_ok k hk hs
  unfold tset
  refine Rn.run 1 rfl ?_
  refine Rn.br rfl (by decide) rfl (fun h => ?_) (fun h0 => ?_)
  · rw [if_pos (Or.inl h)]
    exact Rn.ret rfl rfl rfl
  refine Rn.run 2 rfl ?_
  refine Rn.st rfl (by decide) (gf_2 hk hs) ?_
  refine Rn.br rfl (by decide) rfl (fun h => ?_) (fun q1 => ?_)
  · rw [if_pos (Or.inr (Or.inl h))]
    exact Rn.ret rfl rfl rfl
  refine Rn.run 1 rfl ?_
  refine Rn.br rfl (by decide) rfl (fun h => ?_) (fun h2 => ?_)
  · rw [if_pos (Or.inr (Or.inr (Or.inl h)))]
    exact Rn.ret rfl rfl rfl
  refine Rn.run 2 rfl ?_
  refine Rn.st rfl (by decide) (gf_2 hk hs) ?_
  refine Rn.br rfl (by decide) rfl (fun h3 => ?_) (fun h => ?_)
  rotate_left
  · rw [if_pos (Or.inr (Or.inr (Or.inr (Int32.not_lt.mp h))))]
    exact Rn.ret rfl rfl rfl
  have q3 : ¬ Int32.ofNat (sf k 1) ≤ j := Int32.not_le.mpr h3
  rw [if_neg (by rintro (h | h | h | h) <;> contradiction)]
  obtain ⟨x1, x2, x3, x4, x5⟩ := idx_ok c4 c5 h0 q1 h2 q3
  refine Rn.run 1 rfl ?_
  refine Rn.st rfl (by decide) (gf_3 hk hs) ?_
  refine Rn.run 2 rfl ?_
  refine Rn.st rfl (by decide) (gf_2 hk hs) ?_
  refine Rn.run 4 rfl ?_
  refine Rn.st rfl (by decide) (as_i c1 c2 x4 (by rw [c3]; exact x5)) ?_
  exact Rn.ret rfl rfl rfl
def tresize (I : Nat → Nat → Int32) (k : Nat) (n : Int32) : Nat → Nat → Int32 := up2 I k 3 (if n < 0 then 0 else if Int32.ofNat (sf k 0) < n then Int32.ofNat (sf k 0) else n)
theorem tresize_ok {E : Xe} {I : Nat → Nat → Int32} {R : Nat → Nat → Option Nat} {k : Nat} (hk : k < 200) (hs : shc k = 1) (n : Int32) : Rn E 5 (0, loc0 5 [.ref k, .int n], [], wT I R) (.returned none) (wT (tresize I k n) R) := by
  unfold tresize
  refine Rn.run 2 rfl ?_
  refine Rn.br rfl (by decide) rfl (fun h0 => ?_) (fun h => ?_)
  rotate_left
  · rw [if_pos (Int32.not_le.mp h)]
    refine Rn.run 2 rfl ?_
    refine Rn.st rfl (by decide) (pf_0 hk hs) ?_
    exact Rn.ret rfl rfl rfl
  rw [if_neg (Int32.not_lt.mpr h0)]
  refine Rn.run 2 rfl ?_
  refine Rn.st rfl (by decide) (gf_2 hk hs) ?_
  refine Rn.br rfl (by decide) rfl (fun h1 => ?_) (fun h => ?_)
  · rw [if_neg (Int32.not_lt.mpr h1)]
    refine Rn.run 1 rfl ?_
    refine Rn.st rfl (by decide) (pf_0 hk hs) ?_
    exact Rn.ret rfl rfl rfl
  · rw [if_pos (Int32.not_le.mp h)]
    refine Rn.run 1 rfl ?_
    refine Rn.st rfl (by decide) (gf_2 hk hs) ?_
    refine Rn.run 1 rfl ?_
    refine Rn.st rfl (by decide) (pf_0 hk hs) ?_
    exact Rn.ret rfl rfl rfl
theorem tadd_ok {E : Xe} {I : Nat → Nat → Int32} {R : Nat → Nat → Option Nat} {k : Nat} (hk : k < 200) (hs : shc k = 1) : Rn E 7 (0, loc0 7 [.ref k], [], wT I R) (.returned (some (.int (if I k 3 < Int32.ofNat (sf k 0) then I k 3 else -1)))) (wT (if I k 3 < Int32.ofNat (sf k 0) then up2 I k 3 (I k 3 + 1) else I) R) := by
  refine Rn.run 1 rfl ?_
  refine Rn.st rfl (by decide) (gf_0 hk hs) ?_
  refine Rn.run 1 rfl ?_
  refine Rn.st rfl (by decide) (gf_2 hk hs) ?_
  refine Rn.br rfl (by decide) rfl (fun h => ?_) (fun h => ?_)
  rotate_left
  · rw [if_neg h, if_neg h]
    refine Rn.run 1 rfl ?_
    exact Rn.ret rfl rfl rfl
  rw [if_pos h, if_pos h]
  refine Rn.run 2 rfl ?_
  refine Rn.st rfl (by decide) (gf_0 hk hs) ?_
  refine Rn.run 2 rfl ?_
  refine Rn.st rfl (by decide) (pf_0 hk hs) ?_
  refine Rn.run 1 rfl ?_
  refine Rn.st rfl (by decide) (gf_0 hk hs) ?_
  refine Rn.run 2 rfl ?_
  have e : up2 I k 3 (I k 3 + 1) k 3 - 1 = I k 3 := by
    simp [up2]
  rw [e]
  exact Rn.ret rfl rfl rfl
theorem tholds_ok {E : Xe} {I : Nat → Nat → Int32} {R : Nat → Nat → Option Nat} {k : Nat} (hk : k < 200) (hs : shc k = 1) (i : Int32) : Rn E 124 (0, loc0 124 [.ref k, .int i], [], wT I R) (.returned (some (.int (if i < 0 ∨ I k 3 ≤ i then 0 else 1)))) (wT I R) := by
  refine Rn.run 1 rfl ?_
  refine Rn.br rfl (by decide) rfl (fun h => ?_) (fun h0 => ?_)
  · rw [if_pos (Or.inl h)]
    refine Rn.run 1 rfl ?_
    exact Rn.ret rfl rfl rfl
  refine Rn.run 2 rfl ?_
  refine Rn.st rfl (by decide) (gf_0 hk hs) ?_
  refine Rn.br rfl (by decide) rfl (fun h => ?_) (fun h1 => ?_)
  · rw [if_pos (Or.inr h)]
    refine Rn.run 1 rfl ?_
    exact Rn.ret rfl rfl rfl
  rw [if_neg (by rintro (h | h) <;> contradiction)]
  refine Rn.run 2 rfl ?_
  exact Rn.ret rfl rfl rfl
def tset2 (I : Nat → Nat → Int32) (k : Nat) (i x y : Int32) : Nat → Nat → Int32 := tset (tset I k i 0 x) k i 1 y
theorem tcol : ∀ k, k < 200 → shc k = 1 → sf k 1 < 100 := by decide +kernel
theorem tsetP_ok {E : Xe} {I : Nat → Nat → Int32} {R : Nat → Nat → Option Nat} {k : Nat} (hk : k < 200) (hs : shc k = 1) (h2 : 2 ≤ sf k 1) (i x y : Int32) : Rn E 122 (0, loc0 122 [.ref k, .int i, .int x, .int y], [], wT I R) (.returned none) (wT (tset2 I k i x y) R) := by
  obtain ⟨c1, c2, c3, c4, c5, -⟩ := tb_ok k hk hs
  have c6 := tcol k hk hs
  have d0 : ¬ Int32.ofNat (sf k 1) ≤ 0 := by
    rw [Int32.le_iff_toInt_le, i32_of (by omega)]
    show ¬ ((sf k 1 : Nat) : Int) ≤ 0
    omega
  have d1 : ¬ Int32.ofNat (sf k 1) ≤ 1 := by
    rw [Int32.le_iff_toInt_le, i32_of (by omega)]
    show ¬ ((sf k 1 : Nat) : Int) ≤ 1
    omega
  have e0 : ¬ (0 : Int32) < 0 := by decide
  have e1 : ¬ (1 : Int32) < 0 := by decide
  unfold tset2 tset
  refine Rn.run 1 rfl ?_
  refine Rn.br rfl (by decide) rfl (fun h => ?_) (fun h0 => ?_)
  · rw [if_pos (Or.inl h), if_pos (Or.inl h)]
    exact Rn.ret rfl rfl rfl
  refine Rn.run 2 rfl ?_
  refine Rn.st rfl (by decide) (gf_2 hk hs) ?_
  refine Rn.br rfl (by decide) rfl (fun h => ?_) (fun q1 => ?_)
  · rw [if_pos (Or.inr (Or.inl h)), if_pos (Or.inr (Or.inl h))]
    exact Rn.ret rfl rfl rfl
  refine Rn.run 1 rfl ?_
  refine Rn.st rfl (by decide) (gf_2 hk hs) ?_
  refine Rn.run 1 rfl ?_
  refine Rn.br rfl (by decide) rfl (fun h9 => ?_) (fun h9 => ?_)
  rotate_left
  · exact absurd (Int32.not_lt.mp h9) d1
  rw [if_neg (by rintro (h | h | h | h) <;> contradiction), if_neg (by rintro (h | h | h | h) <;> contradiction)]
  obtain ⟨x1, x2, x3, x4, x5⟩ := idx_ok c4 c5 h0 q1 e0 d0
  obtain ⟨y1, y2, y3, y4, y5⟩ := idx_ok c4 c5 h0 q1 e1 d1
  refine Rn.run 1 rfl ?_
  refine Rn.st rfl (by decide) (gf_3 hk hs) ?_
  refine Rn.run 2 rfl ?_
  refine Rn.st rfl (by decide) (gf_2 hk hs) ?_
  refine Rn.run 4 rfl ?_
  refine Rn.st rfl (by decide) (as_i c1 c2 x4 (by rw [c3]; exact x5)) ?_
  refine Rn.run 1 rfl ?_
  refine Rn.st rfl (by decide) (gf_3 hk hs) ?_
  refine Rn.run 2 rfl ?_
  refine Rn.st rfl (by decide) (gf_2 hk hs) ?_
  refine Rn.run 4 rfl ?_
  refine Rn.st rfl (by decide) (as_i c1 c2 y4 (by rw [c3]; exact y5)) ?_
  exact Rn.ret rfl rfl rfl
