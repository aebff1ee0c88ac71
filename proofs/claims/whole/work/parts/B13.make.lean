/-! A NEW OBJECT OR ARRAY, on both sides -/
section
variable {P Z n k s : Nat} {E F G p oa os hk : Nat → Nat} {A0 B0 A B A' B' : St} {VV : Nat → Nat → Option VEn} {NO U EV dp m i c x o : Nat} {fr : Nat → FrT} {t : Nat × Nat} {l : Nat × Nat × Nat}
theorem l139_n {b1 b2 b3 fi : Int32} {U sz : Nat} (hb : b2 = Int32.ofNat sz) (hU : U + sz ≤ 3000) : ∀ d j f (I : St), j + d = sz → d < f → ∃ J, l139_65 b1 b2 b3 (Int32.ofNat U) fi f (Int32.ofNat j) I = some J ∧ (∀ a b, (a ≠ 73 ∨ b < 2 * (U + j) ∨ 2 * (U + sz) ≤ b) → J a b = I a b) ∧ ∀ q, j ≤ q → q < sz → J 73 (2 * (U + q)) = fi ∧ J 73 (2 * (U + q) + 1) = 0 := by
  subst hb
  intro d
  induction d with
  | zero =>
    intro j f I h1 h2
    obtain ⟨f, rfl⟩ : ∃ g, f = g + 1 := ⟨f - 1, by omega⟩
    exact ⟨I, by rw [l139_65, if_pos ((i32_le (by omega) (by omega)).mpr (by omega))], fun _ _ _ => rfl, fun q y1 y2 => by omega⟩
  | succ d ih =>
    intro j f I h1 h2
    obtain ⟨f, rfl⟩ : ∃ g, f = g + 1 := ⟨f - 1, by omega⟩
    obtain ⟨J, j1, j2, j3⟩ := ih (j + 1) f (up2 (up2 I 73 (2 * (U + j)) fi) 73 (2 * (U + j) + 1) 0) (by omega) (by omega)
    refine ⟨J, ?_, fun a b y => ?_, fun q y1 y2 => ?_⟩
    · rw [l139_65, if_neg (by rw [i32_le (by omega) (by omega)]; omega), i32_a, i32_s]
      unfold tset2
      simp (disch := omega) only [m72]
      exact j1
    · rw [j2 a b (by omega), up2_o (by omega), up2_o (by omega)]
    · by_cases z : q = j
      · subst z
        rw [j2 _ _ (by omega), j2 _ _ (by omega), up2_o (by omega), up2_s, up2_s]
        exact ⟨rfl, rfl⟩
      · exact j3 q (by omega) y2
theorem l244_n {b3 : Int32} {U sz : Nat} (hU : U + sz ≤ 3000) : ∀ d j f (I : St), I 82 48 = Int32.ofNat U → j + d = sz → d < f → ∃ J, l244_83 (Int32.ofNat sz) b3 f (Int32.ofNat j) I = some J ∧ (∀ a b, ((a ≠ 185 ∧ a ≠ 186) ∨ b < U + j ∨ U + sz ≤ b) → J a b = I a b) ∧ ∀ q, j ≤ q → q < sz → J 185 (U + q) = 0 ∧ J 186 (U + q) = 0 := by
  intro d
  induction d with
  | zero =>
    intro j f I h0 h1 h2
    obtain ⟨f, rfl⟩ : ∃ g, f = g + 1 := ⟨f - 1, by omega⟩
    exact ⟨I, by rw [l244_83, if_pos ((i32_le (by omega) (by omega)).mpr (by omega))], fun _ _ _ => rfl, fun q y1 y2 => by omega⟩
  | succ d ih =>
    intro j f I h0 h1 h2
    obtain ⟨f, rfl⟩ : ∃ g, f = g + 1 := ⟨f - 1, by omega⟩
    obtain ⟨J, j1, j2, j3⟩ := ih (j + 1) f (up2 (up2 I 185 (U + j) 0) 186 (U + j) 0) (by rw [up2_o (by omega), up2_o (by omega)]; exact h0) (by omega) (by omega)
    have hi : inb (Int32.ofNat (U + j)) 3001 := (i32_inb (by omega)).mpr (by omega)
    refine ⟨J, ?_, fun a b y => ?_, fun q y1 y2 => ?_⟩
    · rw [l244_83, if_neg (by rw [i32_le (by omega) (by omega)]; omega), h0, i32_a, i32_s, if_pos hi, if_pos hi, i32_cl (by omega)]
      exact j1
    · rw [j2 a b (by omega), up2_o (by omega), up2_o (by omega)]
    · by_cases z : q = j
      · subst z
        rw [j2 _ _ (by omega), j2 _ _ (by omega), up2_o (by omega), up2_s, up2_s]
        exact ⟨rfl, rfl⟩
      · exact j3 q (by omega) y2
theorem mkA_y {v w fi : Int32} {NO U sz : Nat} (h1 : A 70 3 = Int32.ofNat NO) (h2 : A 72 3 = Int32.ofNat U) (hs : NO + U + 1 + sz ≤ 3000) (hf : fi = if v = -3 then -1 else 0) : ∃ A', x139 A v (Int32.ofNat sz) w = some (Int32.ofNat NO, A') ∧ A' 70 3 = Int32.ofNat (NO + 1) ∧ A' 72 3 = Int32.ofNat (U + sz) ∧ A' 71 (4 * NO) = v ∧ A' 71 (4 * NO + 1) = Int32.ofNat U ∧ A' 71 (4 * NO + 2) = Int32.ofNat sz ∧ A' 71 (4 * NO + 3) = w ∧ (∀ q, q < sz → A' 73 (2 * (U + q)) = fi ∧ A' 73 (2 * (U + q) + 1) = 0) ∧ ∀ a b, ((a ≠ 70 ∧ a ≠ 72) ∨ b ≠ 3) → (a ≠ 71 ∨ b < 4 * NO ∨ 4 * NO + 4 ≤ b) → (a ≠ 73 ∨ b < 2 * U ∨ 2 * (U + sz) ≤ b) → A' a b = A a b := by
  have hr : tresize A 72 (Int32.ofNat (U + sz)) = up2 A 72 3 (Int32.ofNat (U + sz)) := tres_n (by show U + sz ≤ 3000; omega) (by decide)
  obtain ⟨J, j1, j2, j3⟩ := l139_n (b1 := v) (b2 := Int32.ofNat sz) (b3 := w) (fi := fi) (U := U) rfl (by omega) sz 0 100000 (up2 A 72 3 (Int32.ofNat (U + sz))) (by omega) (by omega)
  obtain ⟨y1, y2⟩ := tadd_n (I := J) (k := 70) (n := NO) (by rw [j2 _ _ (by omega), up2_o (by omega)]; exact h1) (by show NO < 3000; omega) (by decide)
  refine ⟨up2 (up2 (up2 (up2 (up2 J 70 3 (Int32.ofNat (NO + 1))) 71 (4 * NO) v) 71 (4 * NO + 1) (Int32.ofNat U)) 71 (4 * NO + 2) (Int32.ofNat sz)) 71 (4 * NO + 3) w, ?_, ?_, ?_, ?_, ?_, ?_, up2_s _ _ _ _, fun q hq => ?_, fun a b z1 z2 z3 => ?_⟩
  · have e2999 : (2999 : Int32) - Int32.ofNat NO - Int32.ofNat U = Int32.ofNat (2999 - NO - U) := by
      rw [show (2999 : Int32) = Int32.ofNat 2999 from rfl, i32_sb (by omega), i32_sb (by omega)]
    unfold x139
    rw [if_neg (by rw [i32_l1 (x := 0) (b := 0) rfl (by omega) (by decide)]; omega), h1, h2, e2999, if_pos ((i32_le (by omega) (by omega)).mpr (by omega)), i32_a, hr]
    have e : (if v = -3 then some (-1 : Int32) else some 0) = some fi := by rw [hf]; split <;> rfl
    rw [show Int32.ofNat 0 = (0 : Int32) from rfl] at j1
    rw [e, Option.bind_some, j1, Option.bind_some, y1, y2]
    unfold Lt
    simp (disch := omega) only [m70]
  · simp (disch := omega) only [up2_o, up2_s]
  · rw [up2_o (by omega), up2_o (by omega), up2_o (by omega), up2_o (by omega), up2_o (by omega), j2 _ _ (by omega), up2_s]
  · simp (disch := omega) only [up2_o, up2_s]
  · simp (disch := omega) only [up2_o, up2_s]
  · simp (disch := omega) only [up2_o, up2_s]
  · rw [up2_o (by omega), up2_o (by omega), up2_o (by omega), up2_o (by omega), up2_o (by omega), up2_o (by omega), up2_o (by omega), up2_o (by omega), up2_o (by omega), up2_o (by omega)]
    exact j3 q (by omega) hq
  · rw [up2_o (by omega), up2_o (by omega), up2_o (by omega), up2_o (by omega), up2_o (by omega), j2 a b (by omega), up2_o (by omega)]
theorem mkA_n {v w : Int32} {NO U sz : Nat} (h1 : A 70 3 = Int32.ofNat NO) (h2 : A 72 3 = Int32.ofNat U) (h3 : NO + U ≤ 3000) (hz : sz < 2147483648) (hs : 3000 < NO + U + 1 + sz) : x139 A v (Int32.ofNat sz) w = some (-1, A) := by
  unfold x139
  rw [if_neg (by rw [i32_l1 (x := 0) (b := 0) rfl (by omega) (by decide)]; omega), h1, h2]
  by_cases y : NO + U = 3000
  · have e : (2999 : Int32) - Int32.ofNat NO - Int32.ofNat U = -1 := by
      have : (2999 : Int32) = Int32.ofNat 3000 - 1 := by decide
      rw [this, ← y, ← i32_a]
      generalize Int32.ofNat NO = a
      generalize Int32.ofNat U = b
      have : a + b - 1 - a - b = -1 := by
        rw [Int32.sub_eq_add_neg, Int32.sub_eq_add_neg, Int32.sub_eq_add_neg]
        have e1 : a + b + -1 + -a + -b = (a + -a) + (b + -b) + -1 := by ac_rfl
        rw [e1, Int32.add_right_neg, Int32.add_right_neg]; decide
      exact this
    rw [e, if_neg]
    rw [Int32.le_iff_toInt_le, Int32.toInt_ofNat_of_lt hz]
    have : (-1 : Int32).toInt = -1 := by decide
    omega
  · have e2999 : (2999 : Int32) - Int32.ofNat NO - Int32.ofNat U = Int32.ofNat (2999 - NO - U) := by
      rw [show (2999 : Int32) = Int32.ofNat 2999 from rfl, i32_sb (by omega), i32_sb (by omega)]
    rw [e2999, if_neg (by rw [i32_le (by omega) (by omega)]; omega)]
theorem mkB_y {v : Int32} {NO U sz : Nat} (h1 : B 82 40 = Int32.ofNat NO) (h2 : B 82 48 = Int32.ofNat U) (h3 : B 82 41 = Int32.ofNat (NO + U)) (hs : NO + U + 1 + sz ≤ 3000) : ∃ B', x244 B v (Int32.ofNat sz) = some (Int32.ofNat (NO + 1), B') ∧ B' 82 40 = Int32.ofNat (NO + 1) ∧ B' 82 48 = Int32.ofNat (U + sz) ∧ B' 82 41 = Int32.ofNat (NO + 1 + (U + sz)) ∧ B' 181 NO = v ∧ B' 182 NO = Int32.ofNat U ∧ B' 183 NO = Int32.ofNat sz ∧ B' 184 NO = 0 ∧ (∀ q, q < sz → B' 185 (U + q) = 0 ∧ B' 186 (U + q) = 0) ∧ ∀ a b, (a ≠ 82 ∨ (b ≠ 40 ∧ b ≠ 41 ∧ b ≠ 48)) → (a < 181 ∨ 184 < a ∨ b ≠ NO) → ((a ≠ 185 ∧ a ≠ 186) ∨ b < U ∨ U + sz ≤ b) → B' a b = B a b := by
  have hi : inb (Int32.ofNat NO) 3001 := (i32_inb (by omega)).mpr (by omega)
  have hc : (Int32.ofNat NO).toNatClampNeg = NO := i32_cl (by omega)
  generalize hJ : up2 (up2 (up2 (up2 (up2 (up2 B 82 41 (Int32.ofNat (NO + U) + (1 + Int32.ofNat sz))) 82 40 (Int32.ofNat (NO + 1))) 181 NO v) 182 NO (Int32.ofNat U)) 183 NO (Int32.ofNat sz)) 184 NO 0 = J
  have fJ : ∀ a b, (a ≠ 82 ∨ (b ≠ 40 ∧ b ≠ 41)) → (a < 181 ∨ 184 < a ∨ b ≠ NO) → J a b = B a b := fun a b y1 y2 => by rw [← hJ, up2_o (by omega), up2_o (by omega), up2_o (by omega), up2_o (by omega), up2_o (by omega), up2_o (by omega)]
  obtain ⟨J', j1, j2, j3⟩ := l244_n (b3 := Int32.ofNat NO) (U := U) (sz := sz) (by omega) sz 0 100000 J (by rw [fJ _ _ (by omega) (by omega)]; exact h2) (by omega) (by omega)
  have e3 : Int32.ofNat (NO + U) + 1 + Int32.ofNat sz = Int32.ofNat (NO + U + 1 + sz) := by rw [i32_s, i32_a]
  have e4 : Int32.ofNat (NO + U) + (1 + Int32.ofNat sz) = Int32.ofNat (NO + 1 + (U + sz)) := by
    rw [show (1 : Int32) = Int32.ofNat 1 from rfl, i32_a, i32_a]; congr 1; omega
  refine ⟨up2 J' 82 48 (Int32.ofNat (U + sz)), ?_, ?_, up2_s _ _ _ _, ?_, ?_, ?_, ?_, ?_, fun q hq => ?_, fun a b z1 z2 z3 => ?_⟩
  · have e48 : up2 (up2 (up2 B 82 41 (Int32.ofNat (NO + U) + (1 + Int32.ofNat sz))) 82 40 (Int32.ofNat NO + 1)) 181 NO v 82 48 = Int32.ofNat U := by rw [up2_o (by omega), up2_o (by omega), up2_o (by omega)]; exact h2
    rw [show Int32.ofNat 0 = (0 : Int32) from rfl] at j1
    rw [i32_s] at e48
    unfold x244 Lt
    simp only [h3, e3, h1, if_pos hi, hc, i32_s, e48, hJ, j1, Option.bind_some]
    rw [i32_a, if_pos ((i32_l3 (x := 3000) (b := 3000) rfl (by omega) (by decide)).mpr hs), j2 _ _ (by omega), fJ _ _ (by omega) (by omega), h2, i32_a]
  · rw [up2_o (by omega), j2 _ _ (by omega), ← hJ]; simp (disch := omega) only [up2_o, up2_s]
  · rw [up2_o (by omega), j2 _ _ (by omega), ← hJ]; simp (disch := omega) only [up2_o, up2_s]; exact e4
  · rw [up2_o (by omega), j2 _ _ (by omega), ← hJ]; simp (disch := omega) only [up2_o, up2_s]
  · rw [up2_o (by omega), j2 _ _ (by omega), ← hJ]; simp (disch := omega) only [up2_o, up2_s]
  · rw [up2_o (by omega), j2 _ _ (by omega), ← hJ]; simp (disch := omega) only [up2_o, up2_s]
  · rw [up2_o (by omega), j2 _ _ (by omega), ← hJ]; simp (disch := omega) only [up2_o, up2_s]
  · rw [up2_o (by omega), up2_o (by omega)]; exact j3 q (by omega) hq
  · rw [up2_o (by omega), j2 a b (by omega), fJ a b (by omega) (by omega)]
theorem mkB_n {v : Int32} {NO U sz : Nat} (h3 : B 82 41 = Int32.ofNat (NO + U)) (h4 : NO + U ≤ 3000) (hz : sz ≤ 3000) (hs : 3000 < NO + U + 1 + sz) : x244 B v (Int32.ofNat sz) = some (0, up2 B 82 34 6) := by
  unfold x244
  rw [h3, i32_s, i32_a, if_neg (by rw [i32_l3 (x := 3000) (b := 3000) rfl (by omega) (by decide)]; omega)]
end
