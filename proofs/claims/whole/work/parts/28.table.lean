theorem al_i {E : Xe} {I : Nat → Nat → Int32} {R : Nat → Nat → Option Nat} {k pc n a b c d : Nat} {ls r : List Value} {v i : Int32} (hk : k < 200) (hs : shc k = 100) (h0 : ¬ i < 0) (h1 : i.toNatClampNeg < shl k) : st1 E (.iaload, n, a, b, c, d, v) pc ls (.int i :: .ref k :: r) (wT I R) = some (pc + n, ls, .int (I k i.toNatClampNeg) :: r, wT I R) := by
  have h2 : Nat.blt k 200 = true := by simpa [Nat.blt_eq] using hk
  have h3 : ¬ (i < 0 ∨ shl k ≤ i.toNatClampNeg) := by rintro (z | z); exact h0 z; omega
  simp only [st1, wT, h2, hs, Bool.true_and]
  rw [if_pos (show Nat.beq 100 100 = true from rfl), if_neg h3]
theorem i32_of {n : Nat} (h : n < 2147483648) : (Int32.ofNat n).toInt = n := Int32.toInt_ofNat_of_lt h
theorem bm {x : Int} (h1 : -2147483648 ≤ x) (h2 : x < 2147483648) : x.bmod (2 ^ 32) = x := by
  rw [Int.bmod_def]
  omega
theorem idx_ok {a b : Nat} (hab : a * b < 100000) (hb : 1 ≤ b) {i j : Int32} (h0 : ¬ i < 0) (h1 : ¬ Int32.ofNat a ≤ i) (h2 : ¬ j < 0) (h3 : ¬ Int32.ofNat b ≤ j) : (i * Int32.ofNat b + j).toNatClampNeg = i.toNatClampNeg * b + j.toNatClampNeg ∧ i.toNatClampNeg < a ∧ j.toNatClampNeg < b ∧ ¬ (i * Int32.ofNat b + j) < 0 ∧ (i * Int32.ofNat b + j).toNatClampNeg < a * b := by
  have ha : a < 100000 := Nat.lt_of_le_of_lt (Nat.le_mul_of_pos_right a hb) hab
  rw [Int32.lt_iff_toInt_lt] at h0 h2
  rw [Int32.le_iff_toInt_le] at h1 h3
  have z0 : (0 : Int32).toInt = 0 := rfl
  rw [z0] at h0 h2
  rw [i32_of (by omega)] at h1
  have hbb : b < 2147483648 := by
    rcases Nat.lt_or_ge b 2147483648 with z | z
    · exact z
    · rcases Nat.eq_zero_or_pos a with e | e
      · subst e
        exfalso
        simp at h1
        omega
      · have := Nat.le_mul_of_pos_left b e
        omega
  rw [i32_of hbb] at h3
  have hi : i.toInt = (i.toInt.toNat : Int) := by omega
  have hj : j.toInt = (j.toInt.toNat : Int) := by omega
  have e1 : i.toNatClampNeg = i.toInt.toNat := rfl
  have e2 : j.toNatClampNeg = j.toInt.toNat := rfl
  have l1 : i.toInt.toNat < a := by omega
  have l2 : j.toInt.toNat < b := by omega
  have l3 : i.toInt.toNat * b + j.toInt.toNat < a * b := by
    have : (i.toInt.toNat + 1) * b ≤ a * b := Nat.mul_le_mul_right b l1
    rw [Nat.add_mul, Nat.one_mul] at this
    omega
  have em : (i * Int32.ofNat b).toInt = ((i.toInt.toNat * b : Nat) : Int) := by
    rw [Int32.toInt_mul, i32_of hbb, hi, ← Int.natCast_mul]
    exact bm (by omega) (by omega)
  have et : (i * Int32.ofNat b + j).toInt = ((i.toInt.toNat * b + j.toInt.toNat : Nat) : Int) := by
    rw [Int32.toInt_add, em, hj, ← Int.natCast_add]
    exact bm (by omega) (by omega)
  have e3 : (i * Int32.ofNat b + j).toNatClampNeg = i.toInt.toNat * b + j.toInt.toNat := by
    show (i * Int32.ofNat b + j).toInt.toNat = _
    rw [et]
    rfl
  refine ⟨by rw [e3, e1, e2], by rw [e1]; exact l1, by rw [e2]; exact l2, ?_, by rw [e3]; exact l3⟩
  rw [Int32.lt_iff_toInt_lt, et, z0]
  omega
theorem tget_ok {E : Xe} {I : Nat → Nat → Int32} {R : Nat → Nat → Option Nat} {k : Nat} (hk : k < 200) (hs : shc k = 1) (i j : Int32) : Rn E 36 (0, loc0 36 [.ref k, .int i, .int j], [], wT I R) (.returned (some (.int (tget I k i j)))) (wT I R) := by
  obtain ⟨c1, c2, c3, c4, c5, -⟩ := tb_ok k hk hs
  unfold tget
  refine Rn.st rfl (by decide) rfl ?_
  refine Rn.br rfl (by decide) rfl (fun h => ?_) (fun h0 => ?_)
  · rw [if_pos (Or.inl h)]
    refine Rn.st rfl (by decide) rfl ?_
    exact Rn.ret rfl rfl rfl
  refine Rn.st rfl (by decide) rfl ?_
  refine Rn.st rfl (by decide) rfl ?_
  refine Rn.st rfl (by decide) (gf_2 hk hs) ?_
  refine Rn.br rfl (by decide) rfl (fun h1 => ?_) (fun q1 => ?_)
  · rw [if_pos (Or.inr (Or.inl h1))]
    refine Rn.st rfl (by decide) rfl ?_
    exact Rn.ret rfl rfl rfl
  refine Rn.st rfl (by decide) rfl ?_
  refine Rn.br rfl (by decide) rfl (fun h => ?_) (fun h2 => ?_)
  · rw [if_pos (Or.inr (Or.inr (Or.inl h)))]
    refine Rn.st rfl (by decide) rfl ?_
    exact Rn.ret rfl rfl rfl
  refine Rn.st rfl (by decide) rfl ?_
  refine Rn.st rfl (by decide) rfl ?_
  refine Rn.st rfl (by decide) (gf_2 hk hs) ?_
  refine Rn.br rfl (by decide) rfl (fun h3 => ?_) (fun h => ?_)
  rotate_left
  · rw [if_pos (Or.inr (Or.inr (Or.inr (Int32.not_lt.mp h))))]
    refine Rn.st rfl (by decide) rfl ?_
    exact Rn.ret rfl rfl rfl
  have q3 : ¬ Int32.ofNat (sf k 1) ≤ j := Int32.not_le.mpr h3
  rw [if_neg (by rintro (h | h | h | h) <;> contradiction)]
  obtain ⟨x1, x2, x3, x4, x5⟩ := idx_ok c4 c5 h0 q1 h2 q3
  refine Rn.st rfl (by decide) rfl ?_
  refine Rn.st rfl (by decide) (gf_3 hk hs) ?_
  refine Rn.st rfl (by decide) rfl ?_
  refine Rn.st rfl (by decide) rfl ?_
  refine Rn.st rfl (by decide) (gf_2 hk hs) ?_
  refine Rn.st rfl (by decide) rfl ?_
  refine Rn.st rfl (by decide) rfl ?_
  refine Rn.st rfl (by decide) rfl ?_
  refine Rn.st rfl (by decide) (al_i c1 c2 x4 (by rw [c3]; exact x5)) ?_
  exact Rn.ret rfl rfl rfl
