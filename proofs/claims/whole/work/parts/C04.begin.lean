/-! run(): its start, and the whole -/
/-- a local at a run's start is a ref -/
def isRf (own rf kc j : Nat) : Bool := decide (j < own) || (decide (j < own + kc) && rf.testBit (j - own))
section
variable {P Z n k s : Nat} {E F G p : Nat → Nat} {A B A0 B0 : St} {m own rf kc : Nat}
theorem l126_s (hP : Hid (P = 3 ∨ P = 18)) {b2 : Int32} (hs : s ≤ 16) : ∀ d j f (I : St), j + d = s → d < f → I (P + 5) 3 = Int32.ofNat s → ∃ J, l126_22 P b2 f (Int32.ofNat j) I = some J ∧ (∀ a b, (a ≠ 75 ∨ b < 2 * j ∨ 2 * s ≤ b) → J a b = I a b) ∧ ∀ q, j ≤ q → q < s → J 75 (2 * q) = (if I (P + 6) (4 * q + 3) = 2 then -1 else 0) ∧ J 75 (2 * q + 1) = 0 := by
  have hP2 : 3 ≤ P ∧ P ≤ 18 := by rcases hP with y | y <;> omega
  intro d
  induction d with
  | zero =>
    intro j f I h1 h2 h3
    obtain ⟨f, rfl⟩ : ∃ x, f = x + 1 := ⟨f - 1, by omega⟩
    exact ⟨I, by rw [l126_22, h3, if_pos ((i32_le (by omega) (by omega)).mpr (by omega))], fun _ _ _ => rfl, fun q y1 y2 => by omega⟩
  | succ d ih =>
    intro j f I h1 h2 h3
    obtain ⟨f, rfl⟩ : ∃ x, f = x + 1 := ⟨f - 1, by omega⟩
    generalize hv : (if I (P + 6) (4 * j + 3) = 2 then (-1 : Int32) else 0) = v
    obtain ⟨J, j1, j2, j3⟩ := ih (j + 1) f (up2 (up2 I 75 (2 * j) v) 75 (2 * j + 1) 0) (by omega) (by omega) (by rw [up2_o (by omega), up2_o (by omega)]; exact h3)
    refine ⟨J, ?_, fun a b y => by rw [j2 a b (by omega), up2_o (by omega), up2_o (by omega)], fun q y1 y2 => ?_⟩
    · rw [l126_22, h3, if_neg (by rw [i32_le (by omega) (by omega)]; omega)]
      have e : (if (tget I (P + 5) (Int32.ofNat j) 3) = 2 then some (-1 : Int32) else some 0) = some v := by
        simp (disch := omega) only [tP5 hP]
        rw [← hv]; split <;> rfl
      rw [e, Option.bind_some, i32_s]
      unfold tset2
      simp (disch := omega) only [m74]
      exact j1
    · by_cases z : q = j
      · subst z
        rw [j2 _ _ (by omega), j2 _ _ (by omega), up2_o (by omega), up2_s, up2_s]
        exact ⟨hv.symm, rfl⟩
      · have := j3 q (by omega) y2
        rw [up2_o (by omega), up2_o (by omega)] at this
        exact this
theorem l126_l (hP : Hid (P = 3 ∨ P = 18)) (hm : m < 24) (ho : own ≤ 1) (hc : kc ≤ 6) (hk : ∀ i, i < kc → A (P + 8) (16 * m + 10 + i) = if rf.testBit i then 2 else 1) : ∀ d j f (I : St), j + d = own + kc → d < f → I 68 7 = 0 → (∀ b, I (P + 8) b = A (P + 8) b) → ∃ J, l126_159 P (Int32.ofNat m) (Int32.ofNat own) (Int32.ofNat (own + kc)) f (Int32.ofNat j) I = some J ∧ (∀ a b, (a ≠ 81 ∨ b < 2 * j ∨ 2 * (own + kc) ≤ b) → J a b = I a b) ∧ ∀ q, j ≤ q → q < own + kc → J 81 (2 * q) = (if isRf own rf kc q = true then -1 else I 67 (2 * q)) ∧ J 81 (2 * q + 1) = I 67 (2 * q + 1) := by
  have hP2 : 3 ≤ P ∧ P ≤ 18 := by rcases hP with y | y <;> omega
  intro d
  induction d with
  | zero =>
    intro j f I h1 h2 h3 h4
    obtain ⟨f, rfl⟩ : ∃ x, f = x + 1 := ⟨f - 1, by omega⟩
    exact ⟨I, by rw [l126_159, if_pos ((i32_le (by omega) (by omega)).mpr (by omega))], fun _ _ _ => rfl, fun q y1 y2 => by omega⟩
  | succ d ih =>
    intro j f I h1 h2 h3 h4
    obtain ⟨f, rfl⟩ : ∃ x, f = x + 1 := ⟨f - 1, by omega⟩
    generalize hv : (if isRf own rf kc j = true then (-1 : Int32) else I 67 (2 * j)) = v
    obtain ⟨J, j1, j2, j3⟩ := ih (j + 1) f (up2 (up2 I 81 (2 * j) v) 81 (2 * j + 1) (I 67 (2 * j + 1))) (by omega) (by omega) (by rw [up2_o (by omega), up2_o (by omega)]; exact h3) (fun b => by rw [up2_o (by omega), up2_o (by omega)]; exact h4 b)
    refine ⟨J, ?_, fun a b y => by rw [j2 a b (by omega), up2_o (by omega), up2_o (by omega)], fun q y1 y2 => ?_⟩
    · have e1 : (if Int32.ofNat j < Int32.ofNat own then some (1 : Int32) else if (x89 P I (Int32.ofNat m) (Int32.ofNat j - Int32.ofNat own)) = 2 then some 1 else some 0) = some (if isRf own rf kc j = true then 1 else 0) := by
        by_cases y : j < own
        · rw [if_pos ((i32_lt (by omega) (by omega)).mpr y)]
          unfold isRf; rw [decide_eq_true y, Bool.true_or, if_pos rfl]
        · rw [if_neg (by rw [i32_lt (by omega) (by omega)]; exact y), i32_sb (by omega), x89_k hP hm (by omega), h4, hk _ (by omega)]
          unfold isRf; rw [decide_eq_false y, Bool.false_or, decide_eq_true (by omega : j < own + kc), Bool.true_and]
          cases rf.testBit (j - own) <;> rfl
      rw [l126_159, if_neg (by rw [i32_le (by omega) (by omega)]; omega), e1, Option.bind_some]
      have e2 : (if (if isRf own rf kc j = true then (1 : Int32) else 0) = 0 then some (tget I 66 (Int32.ofNat j) 0) else some (-1)) = some v := by
        simp (disch := omega) only [m66]
        rw [← hv]
        cases isRf own rf kc j <;> rfl
      rw [e2, Option.bind_some]
      unfold x128 tset2
      rw [h3, show (0 : Int32) = Int32.ofNat 0 from rfl, i32_m32, show 32 * 0 + j = j by omega, i32_s, show Int32.ofNat 0 = (0 : Int32) from rfl]
      simp (disch := omega) only [m80, m66]
      exact j1
    · by_cases z : q = j
      · subst z
        rw [j2 _ _ (by omega), j2 _ _ (by omega), up2_o (by omega), up2_s, up2_s]
        exact ⟨hv.symm, rfl⟩
      · have := j3 q (by omega) y2
        rw [up2_o (by omega), up2_o (by omega), up2_o (by omega), up2_o (by omega)] at this
        exact this
theorem l237_s {b1 : Int32} : ∀ d j f (I : St), j + d = 16 → d < f → ∃ J, l237_65 Z b1 f (Int32.ofNat j) I = some J ∧ (∀ a b, ((a ≠ 187 ∧ a ≠ 188) ∨ b < j) → J a b = I a b) ∧ ∀ q, j ≤ q → q < 16 → J 187 q = 0 ∧ J 188 q = 0 := by
  intro d
  induction d with
  | zero =>
    intro j f I h1 h2
    obtain ⟨f, rfl⟩ : ∃ x, f = x + 1 := ⟨f - 1, by omega⟩
    exact ⟨I, by rw [l237_65, if_pos ((i32_l2 (x := 16) (b := 16) rfl (by omega) (by decide)).mpr (by omega))], fun _ _ _ => rfl, fun q y1 y2 => by omega⟩
  | succ d ih =>
    intro j f I h1 h2
    obtain ⟨f, rfl⟩ : ∃ x, f = x + 1 := ⟨f - 1, by omega⟩
    have hi : inb (Int32.ofNat j) 16 := (i32_inb (by omega)).mpr (by omega)
    have hc : (Int32.ofNat j).toNatClampNeg = j := i32_cl (by omega)
    obtain ⟨J, j1, j2, j3⟩ := ih (j + 1) f (up2 (up2 I 187 j 0) 188 j 0) (by omega) (by omega)
    refine ⟨J, ?_, fun a b y => by rw [j2 a b (by omega), up2_o (by omega), up2_o (by omega)], fun q y1 y2 => ?_⟩
    · rw [l237_65, if_neg (by rw [i32_l2 (x := 16) (b := 16) rfl (by omega) (by decide)]; omega), i32_s]
      simp only [if_pos hi, hc]
      exact j1
    · by_cases z : q = j
      · subst z
        rw [j2 _ _ (by omega), j2 _ _ (by omega), up2_o (by omega), up2_s, up2_s]; exact ⟨rfl, rfl⟩
      · exact j3 q (by omega) y2
theorem l237_l (hZ2 : 85 ≤ Z ∧ Z ≤ 126) (hm : m < 24) (ho : own ≤ 1) (hc : kc ≤ 6) (hrf : rf < 64) (h18 : B (Z + 18) m = Int32.ofNat kc) (h19 : B (Z + 19) m = Int32.ofNat rf) : ∀ d j f (I : St), j + d = 16 → d < f → I 82 63 = Int32.ofNat m → (∀ a b, (a = Z + 18 ∨ a = Z + 19) → I a b = B a b) → ∃ J, l237_145 Z (Int32.ofNat own) f (Int32.ofNat j) I = some J ∧ (∀ a b, ((a ≠ 196 ∧ a ≠ 197) ∨ b < j ∨ 16 ≤ b) → J a b = I a b) ∧ ∀ q, j ≤ q → q < own + kc → J 196 q = (if isRf own rf kc q = true then 0 else I 169 q) ∧ J 197 q = I 170 q := by
  intro d
  induction d with
  | zero =>
    intro j f I h1 h2 h3 h4
    obtain ⟨f, rfl⟩ : ∃ x, f = x + 1 := ⟨f - 1, by omega⟩
    exact ⟨I, by rw [l237_145, if_pos ((i32_l2 (x := 16) (b := 16) rfl (by omega) (by decide)).mpr (by omega))], fun _ _ _ => rfl, fun q y1 y2 => by omega⟩
  | succ d ih =>
    intro j f I h1 h2 h3 h4
    obtain ⟨f, rfl⟩ : ∃ x, f = x + 1 := ⟨f - 1, by omega⟩
    have him : inb (Int32.ofNat m) 24 := (i32_inb (by omega)).mpr (by omega)
    have hcm : (Int32.ofNat m).toNatClampNeg = m := i32_cl (by omega)
    have hij : inb (Int32.ofNat j) 384 := (i32_inb (by omega)).mpr (by omega)
    have hcj : (Int32.ofNat j).toNatClampNeg = j := i32_cl (by omega)
    have h7 : (7 ≤ Int32.ofNat j) = (7 ≤ j) := propext (i32_l2 (x := 7) (b := 7) rfl (by omega) (by decide))
    have e18 : I (Z + 18) m = Int32.ofNat kc := by rw [h4 _ _ (Or.inl rfl)]; exact h18
    have e19 : I (Z + 19) m = Int32.ofNat rf := by rw [h4 _ _ (Or.inr rfl)]; exact h19
    -- is it a ref
    have eb : ∀ o, o = own → j ≥ o → (if (Int32.ofNat kc + Int32.ofNat own) ≤ Int32.ofNat j then some (0 : Int32) else if (((Int32.ofNat rf) >>> ((Int32.ofNat j - Int32.ofNat own) &&& 31)) &&& 1) = 1 then some 1 else some 0) = some (if isRf own rf kc j = true then 1 else 0) := by
      intro o ho' hjo
      have y : ¬ j < own := by omega
      unfold isRf
      rw [decide_eq_false y, Bool.false_or, i32_a, i32_sb (by omega)]
      by_cases y2 : j < own + kc
      · rw [if_neg (by rw [i32_le (by omega) (by omega)]; omega), i32_tb (by omega) (by omega), decide_eq_true y2, Bool.true_and]
        cases rf.testBit (j - own) <;> rfl
      · rw [if_pos ((i32_le (by omega) (by omega)).mpr (by omega)), decide_eq_false y2, Bool.false_and]; rfl
    have eq8 : (if Int32.ofNat own = 1 then if Int32.ofNat j = 0 then some (1 : Int32) else if Int32.ofNat j < Int32.ofNat own then some 0 else if inb (I 82 63) 24 then if ((I (Z + 18) (I 82 63).toNatClampNeg) + Int32.ofNat own) ≤ Int32.ofNat j then some 0 else if inb (I 82 63) 24 then if (((I (Z + 19) (I 82 63).toNatClampNeg) >>> ((Int32.ofNat j - Int32.ofNat own) &&& 31)) &&& 1) = 1 then some 1 else some 0 else none else none else if Int32.ofNat j < Int32.ofNat own then some 0 else if inb (I 82 63) 24 then if ((I (Z + 18) (I 82 63).toNatClampNeg) + Int32.ofNat own) ≤ Int32.ofNat j then some 0 else if inb (I 82 63) 24 then if (((I (Z + 19) (I 82 63).toNatClampNeg) >>> ((Int32.ofNat j - Int32.ofNat own) &&& 31)) &&& 1) = 1 then some 1 else some 0 else none else none) = some (if isRf own rf kc j = true then 1 else 0) := by
      simp only [h3, if_pos him, hcm, e18, e19]
      by_cases y : own = 1
      · rw [if_pos (by rw [y]; rfl)]
        by_cases y2 : j = 0
        · rw [if_pos (by rw [y2]; rfl)]
          unfold isRf; rw [decide_eq_true (by omega : j < own), Bool.true_or, if_pos rfl]
        · rw [if_neg (by rw [i32_e (x := 0) (b := 0) rfl (by omega) (by decide)]; exact y2), if_neg (by rw [i32_lt (by omega) (by omega)]; omega)]
          exact eb own rfl (by omega)
      · rw [if_neg (by rw [i32_e (x := 1) (b := 1) rfl (by omega) (by decide)]; exact y), if_neg (by rw [i32_lt (by omega) (by omega)]; omega)]
        exact eb own rfl (by omega)
    rw [l237_145, if_neg (by rw [i32_l2 (x := 16) (b := 16) rfl (by omega) (by decide)]; omega), eq8, Option.bind_some, i32_s]
    simp only [h7]
    by_cases y7 : 7 ≤ j
    · obtain ⟨J, j1, j2, j3⟩ := ih (j + 1) f (up2 (up2 I 196 j 0) 197 j 0) (by omega) (by omega) (by rw [up2_o (by omega), up2_o (by omega)]; exact h3) (fun a b y => by rw [up2_o (by omega), up2_o (by omega)]; exact h4 a b y)
      refine ⟨J, ?_, fun a b y => by rw [j2 a b (by omega), up2_o (by omega), up2_o (by omega)], fun q y1 y2 => by omega⟩
      rw [if_pos y7, Option.bind_some]
      simp only [if_pos hij, hcj, if_pos y7]
      exact j1
    · have hi7 : inb (Int32.ofNat j) 7 := (i32_inb (by omega)).mpr (by omega)
      generalize hv : (if isRf own rf kc j = true then (0 : Int32) else I 169 j) = v
      obtain ⟨J, j1, j2, j3⟩ := ih (j + 1) f (up2 (up2 I 196 j v) 197 j (I 170 j)) (by omega) (by omega) (by rw [up2_o (by omega), up2_o (by omega)]; exact h3) (fun a b y => by rw [up2_o (by omega), up2_o (by omega)]; exact h4 a b y)
      refine ⟨J, ?_, fun a b y => by rw [j2 a b (by omega), up2_o (by omega), up2_o (by omega)], fun q y1 y2 => ?_⟩
      · have e2 : (if (if isRf own rf kc j = true then (1 : Int32) else 0) = 0 then if inb (Int32.ofNat j) 7 then some (I 169 (Int32.ofNat j).toNatClampNeg) else none else some 0) = some v := by
          simp only [if_pos hi7, hcj]
          rw [← hv]
          cases isRf own rf kc j <;> rfl
        rw [if_neg y7, e2, Option.bind_some]
        simp (disch := omega) only [if_pos hij, hcj, if_neg y7, if_pos hi7, Lt, up2_o]
        exact j1
      · by_cases z : q = j
        · subst z
          rw [j2 _ _ (by omega), j2 _ _ (by omega), up2_o (by omega), up2_s, up2_s]
          exact ⟨hv.symm, rfl⟩
        · have := j3 q (by omega) y2
          rw [up2_o (by omega), up2_o (by omega), up2_o (by omega), up2_o (by omega)] at this
          exact this
end
