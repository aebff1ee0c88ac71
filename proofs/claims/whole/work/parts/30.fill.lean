/-! Arrays.fill, Table.fill -/
theorem i32_le {a b : Nat} (ha : a < 2147483648) (hb : b < 2147483648) : Int32.ofNat a ≤ Int32.ofNat b ↔ a ≤ b := by
  rw [Int32.le_iff_toInt_le, i32_of ha, i32_of hb]
  omega
theorem i32_lt {a b : Nat} (ha : a < 2147483648) (hb : b < 2147483648) : Int32.ofNat a < Int32.ofNat b ↔ a < b := by
  rw [Int32.lt_iff_toInt_lt, i32_of ha, i32_of hb]
  omega
theorem i32_cl {a : Nat} (ha : a < 2147483648) : (Int32.ofNat a).toNatClampNeg = a := Int32.toNatClampNeg_ofNat_of_lt ha
theorem i32_nn {a : Nat} (ha : a < 2147483648) : ¬ Int32.ofNat a < 0 := by
  rw [Int32.lt_iff_toInt_lt, i32_of ha]
  show ¬ (a : Int) < 0
  omega
theorem i32_s {a : Nat} : Int32.ofNat a + 1 = Int32.ofNat (a + 1) := (Int32.ofNat_add a 1).symm
def fillF (I : Nat → Nat → Int32) (c i : Nat) (x : Int32) : Nat → Nat → Int32 := fun a b => if a = c ∧ i ≤ b ∧ b < shl c then x else I a b
theorem fillF_step {I : Nat → Nat → Int32} {c i : Nat} {x : Int32} (h : i < shl c) : fillF (up2 I c i x) c (i + 1) x = fillF I c i x := by
  funext a b
  unfold fillF up2
  by_cases ha : a = c
  · subst ha
    by_cases hb : b = i
    · subst hb
      rw [if_neg (by omega), if_pos rfl, if_pos rfl, if_pos ⟨rfl, Nat.le_refl _, h⟩]
    · by_cases hc : i ≤ b ∧ b < shl a
      · rw [if_pos ⟨rfl, by omega, hc.2⟩, if_pos ⟨rfl, hc⟩]
      · rw [if_neg (by omega), if_pos rfl, if_neg hb, if_neg (fun z => hc z.2)]
  · rw [if_neg (fun z => ha z.1), if_neg ha, if_neg (fun z => ha z.1)]
theorem fillF_end {I : Nat → Nat → Int32} {c : Nat} {x : Int32} : fillF I c (shl c) x = I := by
  funext a b
  unfold fillF
  rw [if_neg (by omega)]
theorem afill_loop {E : Xe} {R : Nat → Nat → Option Nat} {c : Nat} (hc : c < 200) (hs : shc c = 100) (hl : shl c < 2147483648) (x : Int32) : ∀ (n i : Nat) (I : Nat → Nat → Int32), i + n = shl c → Rn E 28 (5, [.ref c, .int x, .int (Int32.ofNat i), .int (Int32.ofNat (shl c))], [], wT I R) (.returned none) (wT (fillF I c i x) R) := by
  intro n
  induction n with
  | zero =>
    intro i I h
    obtain rfl : i = shl c := by omega
    rw [fillF_end]
    refine Rn.run 2 rfl ?_
    refine Rn.br rfl (by decide) rfl (fun h1 => ?_) (fun h1 => ?_)
    · exact Rn.ret rfl rfl rfl
    · exact absurd ((i32_le hl hl).mpr (Nat.le_refl _)) h1
  | succ n ih =>
    intro i I h
    refine Rn.run 2 rfl ?_
    refine Rn.br rfl (by decide) rfl (fun h1 => ?_) (fun h1 => ?_)
    · exact absurd ((i32_le hl (by omega)).mp h1) (by omega)
    · refine Rn.run 3 rfl ?_
      refine Rn.st rfl (by decide) (as_i hc hs (i32_nn (by omega)) (by rw [i32_cl (by omega)]; omega)) ?_
      refine Rn.run 2 rfl ?_
      rw [i32_cl (by omega)]
      have K := ih (i + 1) (up2 I c i x) (by omega)
      rw [fillF_step (by omega), ← i32_s] at K
      exact K
theorem shl_s : ∀ k, k < 200 → shl k < 100000 := by decide +kernel
theorem arl {E : Xe} {I : Nat → Nat → Int32} {R : Nat → Nat → Option Nat} {k pc n a b c d : Nat} {ls r : List Value} {v : Int32} (hk : k < 200) (hs : 100 ≤ shc k) : st1 E (.arraylength, n, a, b, c, d, v) pc ls (.ref k :: r) (wT I R) = some (pc + n, ls, .int (Int32.ofNat (shl k)) :: r, wT I R) := by
  have h1 : Nat.blt k 200 = true := by simpa [Nat.blt_eq] using hk
  have h2 : Nat.ble 100 (shc k) = true := Nat.ble_eq.mpr hs
  simp [st1, wT, h1, h2]
theorem afill_ok {E : Xe} {I : Nat → Nat → Int32} {R : Nat → Nat → Option Nat} {c : Nat} (hc : c < 200) (hs : shc c = 100) (x : Int32) : Rn E 28 (0, loc0 28 [.ref c, .int x], [], wT I R) (.returned none) (wT (fillF I c 0 x) R) := by
  have hl := shl_s c hc
  refine Rn.run 3 rfl ?_
  refine Rn.st rfl (by decide) (arl hc (by omega)) ?_
  refine Rn.run 1 rfl ?_
  exact afill_loop hc hs (by omega) x (shl c) 0 I (by omega)
theorem tfill_ok {E : Xe} {I : Nat → Nat → Int32} {R : Nat → Nat → Option Nat} {k : Nat} (hk : k < 200) (hs : shc k = 1) (x : Int32) : Rn E 27 (0, loc0 27 [.ref k, .int x], [], wT I R) (.returned none) (wT (fillF I (sf k 2) 0 x) R) := by
  obtain ⟨c1, c2, c3, c4, c5, -⟩ := tb_ok k hk hs
  refine Rn.run 1 rfl ?_
  refine Rn.st rfl (by decide) (gf_3 hk hs) ?_
  refine Rn.run 1 rfl ?_
  refine Rn.call rfl rfl rfl rfl (afill_ok c1 c2 x) ?_
  exact Rn.ret rfl rfl rfl
