/-! THE START of a text: the first seven classes, the class's side -/
theorem l4_n {P : Nat} (hP : P = 3 ∨ P = 18) : ∀ d c n (I : St), c + d = 7 → I (P + 1) 3 = Int32.ofNat c → I (P + 3) 3 = 0 → ∃ J, l4_50 P (n + d + 1) (Int32.ofNat c) I = some J ∧ J (P + 1) 3 = 7 ∧ (∀ a b, (a ≠ P + 1 ∨ b ≠ 3) → (a ≠ P + 2 ∨ b < 6 * c) → J a b = I a b) ∧ ∀ x, c ≤ x → x < 7 → J (P + 2) (6 * x) = (if x = 0 then -1 else if x = 1 then 0 else 1) ∧ J (P + 2) (6 * x + 1) = Int32.ofNat (68 + x) ∧ J (P + 2) (6 * x + 2) = 0 ∧ J (P + 2) (6 * x + 3) = 0 ∧ J (P + 2) (6 * x + 4) = 0 ∧ J (P + 2) (6 * x + 5) = 0 := by
  have hsf : sf (P + 1) 0 = 19 := by rcases hP with rfl | rfl <;> decide
  have hP2 : 3 ≤ P ∧ P ≤ 18 := by omega
  replace hP : Hid (P = 3 ∨ P = 18) := hP
  intro d
  induction d with
  | zero =>
    intro c n I hc h1 h3
    obtain rfl : c = 7 := by omega
    refine ⟨I, ?_, h1, fun _ _ _ _ => rfl, fun x z1 z2 => by omega⟩
    rw [l4_50, if_pos (by decide)]
  | succ d ih =>
    intro c n I hc h1 h3
    have c1 : ¬ (7 : Int32) ≤ Int32.ofNat c := by
      show ¬ Int32.ofNat 7 ≤ _
      rw [i32_le (by decide) (by omega)]
      omega
    obtain ⟨t1, t2⟩ := tadd_n (I := I) (k := P + 1) (n := c) h1 (by omega) (by omega)
    have e6 : x6 P I (68 + Int32.ofNat c) = some (Int32.ofNat c, up2 (up2 (up2 (up2 (up2 (up2 (up2 I (P + 1) 3 (Int32.ofNat (c + 1))) (P + 2) (6 * c) 0) (P + 2) (6 * c + 1) (Int32.ofNat (68 + c))) (P + 2) (6 * c + 2) 0) (P + 2) (6 * c + 3) 0) (P + 2) (6 * c + 4) 0) (P + 2) (6 * c + 5) 0) := by
      have e68 : (68 : Int32) + Int32.ofNat c = Int32.ofNat (68 + c) := i32_a 68 c
      unfold x6
      rw [t1, t2, e68]
      simp (disch := omega) only [Lt, tP1 hP, up2_o, h3]
    have eq3 : (if Int32.ofNat c = 0 then some (-1) else if Int32.ofNat c = 1 then some 0 else some 1 : Option Int32) = some (if c = 0 then -1 else if c = 1 then 0 else 1) := by
      have : ∀ y, y < 7 → (if Int32.ofNat y = 0 then some (-1) else if Int32.ofNat y = 1 then some 0 else some 1 : Option Int32) = some (if y = 0 then -1 else if y = 1 then 0 else 1) := by decide
      exact this c (by omega)
    rw [show n + (d + 1) + 1 = (n + d + 1) + 1 by omega, l4_50, if_neg c1, e6, Option.bind_some, eq3, Option.bind_some, i32_s]
    dsimp only
    generalize hv : (if c = 0 then -1 else if c = 1 then 0 else 1 : Int32) = v
    simp (disch := omega) only [tP1 hP]
    generalize hJ0 : up2 (up2 (up2 (up2 (up2 (up2 (up2 (up2 I (P + 1) 3 (Int32.ofNat (c + 1))) (P + 2) (6 * c) 0) (P + 2) (6 * c + 1) (Int32.ofNat (68 + c))) (P + 2) (6 * c + 2) 0) (P + 2) (6 * c + 3) 0) (P + 2) (6 * c + 4) 0) (P + 2) (6 * c + 5) 0) (P + 2) (6 * c) v = J0
    obtain ⟨J, j1, j2, j3, j4⟩ := ih (c + 1) n J0 (by omega) (by rw [← hJ0]; simp (disch := omega) only [up2_o, up2_e]) (by rw [← hJ0]; simp (disch := omega) only [up2_o]; exact h3)
    refine ⟨J, j1, j2, fun a b z1 z2 => ?_, fun x z1 z2 => ?_⟩
    · rw [j3 a b z1 (by omega), ← hJ0]
      simp (disch := omega) only [up2_o]
    · rcases Nat.lt_or_ge c x with y | y
      · exact j4 x (by omega) z2
      · obtain rfl : x = c := by omega
        rw [hv, j3 _ _ (by omega) (by omega), j3 _ _ (by omega) (by omega), j3 _ _ (by omega) (by omega), j3 _ _ (by omega) (by omega), j3 _ _ (by omega) (by omega), j3 _ _ (by omega) (by omega), ← hJ0]
        simp (disch := omega) only [up2_o, up2_e]
        exact ⟨trivial, trivial, trivial, trivial, trivial, trivial⟩
