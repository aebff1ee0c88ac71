/-! A METHOD checked; all of them -/
def knd (rf i : Nat) : Nat := if rf.testBit i then 2 else 1
/-- locals at a method's start -/
def inl (own rf : Nat) : Nat → Nat × Nat × Nat
  | 0 => if own = 1 then stl 2 0 (0, 0, 65535) else (0, 0, 65535)
  | c + 1 => stl (knd rf c) (own + c) (inl own rf c)
theorem knd_12 {rf i : Nat} : knd rf i = 1 ∨ knd rf i = 2 := by unfold knd; split <;> simp
theorem l0_ok : Lok (0, 0, 65535) := ⟨by decide, by decide, by decide⟩
theorem wvl_0 : ∀ j, j < 16 → wvl (0, 0, 65535) j = 4 := by decide
theorem inl_ok {own rf : Nat} (ho : own ≤ 1) : ∀ c, c ≤ 6 → Lok (inl own rf c) := by
  intro c
  induction c with
  | zero => intro _; rw [inl]; split; exact stl_ok l0_ok (by decide); exact l0_ok
  | succ c ih => intro hc; rw [inl]; exact stl_ok (ih (by omega)) (by omega)
theorem wvl_inl {own rf : Nat} (ho : own ≤ 1) : ∀ c, c ≤ 6 → ∀ j, j < 16 → wvl (inl own rf c) j = if j < own then 2 else if j < own + c then knd rf (j - own) else 4 := by
  intro c
  induction c with
  | zero =>
    intro _ j hj
    rw [inl]
    by_cases y : own = 1
    · rw [if_pos y, wvl_stl (Or.inr rfl) hj, wvl_0 j hj]
      by_cases y2 : j = 0
      · rw [if_pos y2, if_pos (by omega)]
      · rw [if_neg y2, if_neg (by omega), if_neg (by omega)]
    · rw [if_neg y, wvl_0 j hj, if_neg (by omega), if_neg (by omega)]
  | succ c ih =>
    intro hc j hj
    rw [inl, wvl_stl knd_12 hj, ih (by omega) j hj]
    by_cases y : j = own + c
    · subst y
      rw [if_pos rfl, if_neg (by omega), if_pos (by omega), show own + c - own = c by omega]
    · rw [if_neg y]
      by_cases y1 : j < own
      · rw [if_pos y1, if_pos y1]
      · rw [if_neg y1, if_neg y1]
        by_cases y2 : j < own + c
        · rw [if_pos y2, if_pos (by omega)]
        · rw [if_neg y2, if_neg (by omega)]
theorem inl_ful {own rf c : Nat} (ho : own ≤ 1) (hc : c ≤ 6) : Lful (inl own rf c) := fun j hj => by
  rw [wvl_inl ho c hc j hj]
  split
  · decide
  · split
    · rcases knd_12 (rf := rf) (i := j - own) with y | y <;> rw [y] <;> decide
    · decide
section
variable {P Z n k s m z : Nat} {E F G p : Nat → Nat} {A B : St}
theorem x99_l (hP : Hid (P = 3 ∨ P = 18)) (hP2 : 3 ≤ P ∧ P ≤ 18) (hm : m < 24) (h3 : A 58 3 = Int32.ofNat m) {own c rf : Nat} (ho : own ≤ 1) (hc : c ≤ 6) (h2 : A (P + 8) (16 * m + 2) = Int32.ofNat own) (h4 : A (P + 8) (16 * m + 4) = Int32.ofNat c) (hk : ∀ i, i < c → A (P + 8) (16 * m + 10 + i) = if rf.testBit i then 2 else 1) : ∃ A', x99 P A = some A' ∧ Cs (0, 0) A' ∧ Lc (inl own rf c) A' ∧ ∀ a b, (a ≠ 58 ∨ b < 7 ∨ 11 < b) → A' a b = A a b := by
  generalize hA1 : up2 (up2 (up2 (up2 (up2 A 58 7 0) 58 8 0) 58 9 0) 58 10 0) 58 11 65535 = A1
  have f1 : ∀ a b, (a ≠ 58 ∨ b < 7 ∨ 11 < b) → A1 a b = A a b := fun a b y => by rw [← hA1]; simp (disch := omega) only [up2_o]
  have l1 : Lc (0, 0, 65535) A1 := ⟨by rw [← hA1]; simp (disch := omega) only [up2_o, up2_s]; rfl, by rw [← hA1]; simp (disch := omega) only [up2_o, up2_s]; rfl, by rw [← hA1]; simp (disch := omega) only [up2_s]; rfl⟩
  have c1 : Cs (0, 0) A1 := ⟨by rw [← hA1]; simp (disch := omega) only [up2_o, up2_s]; rfl, by rw [← hA1]; simp (disch := omega) only [up2_o, up2_s]; rfl⟩
  obtain ⟨A2, a1, a2, a3⟩ : ∃ A2, (if Int32.ofNat own = 1 then (x100 A1 0 2).bind fun q1 => some q1 else some A1) = some A2 ∧ Lc (inl own rf 0) A2 ∧ ∀ a b, (a ≠ 58 ∨ (b ≠ 9 ∧ b ≠ 10 ∧ b ≠ 11)) → A2 a b = A1 a b := by
    rw [inl]
    by_cases y : own = 1
    · rw [if_pos (by rw [y]; rfl), if_pos y]
      obtain ⟨A2, b1, b2, b3⟩ := x100_l (k := 0) (kd := 2) l1 (by decide) (Or.inr rfl)
      have b1' : x100 A1 0 2 = some A2 := b1
      exact ⟨A2, by rw [b1']; rfl, b2, b3⟩
    · rw [if_neg (fun w => y ((i32_e (x := 1) (b := 1) rfl (by omega) (by decide)).mp w)), if_neg y]
      exact ⟨A1, rfl, l1, fun _ _ _ => rfl⟩
  have go : ∀ dd i ff (A2 : St), i + dd = c → dd < ff → Lc (inl own rf i) A2 → (∀ a b, (a ≠ 58 ∨ b < 7 ∨ 11 < b) → A2 a b = A a b) → Cs (0, 0) A2 → ∃ A', l99_71 P (Int32.ofNat own) (Int32.ofNat c) ff (Int32.ofNat i) A2 = some A' ∧ Cs (0, 0) A' ∧ Lc (inl own rf c) A' ∧ ∀ a b, (a ≠ 58 ∨ b < 7 ∨ 11 < b) → A' a b = A a b := by
    intro dd
    induction dd with
    | zero =>
      intro i ff A2 q1 q2 q3 q4 q5
      obtain ⟨ff, rfl⟩ : ∃ g, ff = g + 1 := ⟨ff - 1, by omega⟩
      obtain rfl : i = c := by omega
      exact ⟨A2, by rw [l99_71, if_pos (Int32.le_refl _)], q5, q3, q4⟩
    | succ dd ih =>
      intro i ff A2 q1 q2 q3 q4 q5
      obtain ⟨ff, rfl⟩ : ∃ g, ff = g + 1 := ⟨ff - 1, by omega⟩
      obtain ⟨A3, b1, b2, b3⟩ := x100_l (k := own + i) (kd := knd rf i) q3 (by omega) knd_12
      obtain ⟨A', d1, d2⟩ := ih (i + 1) ff A3 (by omega) (by omega) b2 (fun a b y => by rw [b3 a b (by omega), q4 a b y]) ⟨by rw [b3 _ _ (by omega)]; exact q5.1, by rw [b3 _ _ (by omega)]; exact q5.2⟩
      refine ⟨A', ?_, d2⟩
      have e89 : x89 P A2 (Int32.ofNat m) (Int32.ofNat i) = Int32.ofNat (knd rf i) := by
        rw [x89_k hP hm (by omega), q4 _ _ (by omega), hk i (by omega)]
        unfold knd
        split <;> rfl
      rw [l99_71, if_neg (by rw [i32_le (by omega) (by omega)]; omega), q4 58 3 (by omega), h3, e89, i32_a, b1, Option.bind_some, i32_s]
      exact d1
  obtain ⟨A', d1, d2⟩ := go c 0 100000 A2 (by omega) (by omega) a2 (fun a b y => by rw [a3 a b (by omega), f1 a b y]) ⟨by rw [a3 _ _ (by omega)]; exact c1.1, by rw [a3 _ _ (by omega)]; exact c1.2⟩
  refine ⟨A', ?_, d2⟩
  unfold x99
  simp (disch := omega) only [h3, tP7 hP, h2, h4, hA1]
  rw [a1, Option.bind_some, show (0 : Int32) = Int32.ofNat 0 from rfl, d1]
  rfl
/-- the reference's start of a check -/
theorem now_l (hZ2 : 85 ≤ Z ∧ Z ≤ 126) (hm : m < 24) {own c rf : Nat} (ho : own ≤ 1) (hc : c ≤ 6) (hrf : rf < 64) (h18 : B (Z + 18) m = Int32.ofNat c) (h19 : B (Z + 19) m = Int32.ofNat rf) {b2 : Int32} : ∃ B1 B2 B3, l226_73 Z (Int32.ofNat m) b2 (Int32.ofNat own) 100000 0 B = some B1 ∧ (if Int32.ofNat own = 1 then if inb 0 16 then some (up2 B1 180 0 2) else none else some B1) = some B2 ∧ l226_109 Z (Int32.ofNat m) b2 (Int32.ofNat own) 100000 0 B2 = some B3 ∧ (∀ j, j < 16 → B3 180 j = Int32.ofNat (wvl (inl own rf c) j)) ∧ ∀ a b, a ≠ 180 → B3 a b = B a b := by
  have go1 : ∀ dd j ff (B : St), j + dd = 16 → dd < ff → ∃ B1, l226_73 Z (Int32.ofNat m) b2 (Int32.ofNat own) ff (Int32.ofNat j) B = some B1 ∧ (∀ i, j ≤ i → i < 16 → B1 180 i = 4) ∧ ∀ a b, (a ≠ 180 ∨ b < j) → B1 a b = B a b := by
    intro dd
    induction dd with
    | zero =>
      intro j ff B q1 q2
      obtain ⟨ff, rfl⟩ : ∃ g, ff = g + 1 := ⟨ff - 1, by omega⟩
      obtain rfl : j = 16 := by omega
      exact ⟨B, by rw [l226_73, if_pos (by decide)], fun i y1 y2 => by omega, fun _ _ _ => rfl⟩
    | succ dd ih =>
      intro j ff B q1 q2
      obtain ⟨ff, rfl⟩ : ∃ g, ff = g + 1 := ⟨ff - 1, by omega⟩
      have ij : inb (Int32.ofNat j) 16 := (i32_inb (by omega)).mpr (by omega)
      have cj : (Int32.ofNat j).toNatClampNeg = j := i32_cl (by omega)
      obtain ⟨B1, b1, b2', b3⟩ := ih (j + 1) ff (up2 B 180 j 4) (by omega) (by omega)
      refine ⟨B1, ?_, fun i y1 y2 => ?_, fun a b y => by rw [b3 a b (by omega), up2_o (by omega)]⟩
      · rw [l226_73, if_neg (by rw [i32_l2 (x := 16) (b := 16) rfl (by omega) (by decide)]; omega)]
        simp only [if_pos ij, cj, i32_s]
        exact b1
      · rcases Nat.lt_or_ge j i with y | y
        · exact b2' i y y2
        · obtain rfl : i = j := by omega
          rw [b3 _ _ (by omega), up2_s]
  have go2 : ∀ dd i ff (B2 : St), i + dd = c → dd < ff → (∀ j, j < 16 → B2 180 j = Int32.ofNat (wvl (inl own rf i) j)) → (∀ a b, a ≠ 180 → B2 a b = B a b) → ∃ B3, l226_109 Z (Int32.ofNat m) b2 (Int32.ofNat own) ff (Int32.ofNat i) B2 = some B3 ∧ (∀ j, j < 16 → B3 180 j = Int32.ofNat (wvl (inl own rf c) j)) ∧ ∀ a b, a ≠ 180 → B3 a b = B a b := by
    intro dd
    induction dd with
    | zero =>
      intro i ff B2 q1 q2 q3 q4
      obtain ⟨ff, rfl⟩ : ∃ g, ff = g + 1 := ⟨ff - 1, by omega⟩
      obtain rfl : i = c := by omega
      have im : inb (Int32.ofNat m) 24 := (i32_inb (by omega)).mpr (by omega)
      have cm : (Int32.ofNat m).toNatClampNeg = m := i32_cl (by omega)
      refine ⟨B2, ?_, q3, q4⟩
      rw [l226_109]
      simp only [if_pos im, cm]
      rw [q4 _ _ (by omega), h18, if_pos (Int32.le_refl _)]
    | succ dd ih =>
      intro i ff B2 q1 q2 q3 q4
      obtain ⟨ff, rfl⟩ : ∃ g, ff = g + 1 := ⟨ff - 1, by omega⟩
      have im : inb (Int32.ofNat m) 24 := (i32_inb (by omega)).mpr (by omega)
      have cm : (Int32.ofNat m).toNatClampNeg = m := i32_cl (by omega)
      have io : inb (Int32.ofNat (i + own)) 16 := (i32_inb (by omega)).mpr (by omega)
      have co : (Int32.ofNat (i + own)).toNatClampNeg = i + own := i32_cl (by omega)
      obtain ⟨B3, d1, d2⟩ := ih (i + 1) ff (up2 B2 180 (own + i) (Int32.ofNat (knd rf i))) (by omega) (by omega) (fun j hj => by
        rw [inl, wvl_stl knd_12 hj]
        by_cases y : j = own + i
        · subst y; rw [up2_s, if_pos rfl]
        · rw [up2_o (by omega), if_neg y]; exact q3 j hj) (fun a b y => by rw [up2_o (by omega), q4 a b y])
      refine ⟨B3, ?_, d2⟩
      rw [← d1, l226_109]
      simp only [if_pos im, cm]
      rw [q4 (Z + 18) _ (by omega), h18, q4 (Z + 19) _ (by omega), h19, if_neg (by rw [i32_le (by omega) (by omega)]; omega), i32_tb (by omega) (by omega), i32_a, i32_s]
      simp only [if_pos io, co]
      unfold knd
      rw [show i + own = own + i by omega]
      cases rf.testBit i <;> rfl
  obtain ⟨B1, a1, a2, a3⟩ := go1 16 0 100000 B (by omega) (by omega)
  have a1' : l226_73 Z (Int32.ofNat m) b2 (Int32.ofNat own) 100000 0 B = some B1 := a1
  obtain ⟨B2, b1, b2', b3⟩ : ∃ B2, (if Int32.ofNat own = 1 then if inb 0 16 then some (up2 B1 180 0 2) else none else some B1) = some B2 ∧ (∀ j, j < 16 → B2 180 j = Int32.ofNat (wvl (inl own rf 0) j)) ∧ ∀ a b, a ≠ 180 → B2 a b = B1 a b := by
    by_cases y : own = 1
    · rw [if_pos (by rw [y]; rfl), if_pos (by decide)]
      refine ⟨_, rfl, fun j hj => ?_, fun a b w => up2_o (by omega)⟩
      rw [wvl_inl ho 0 (by omega) j hj, y]
      by_cases y2 : j = 0
      · subst y2; rw [up2_s]; rfl
      · rw [up2_o (by omega), a2 j (by omega) hj, if_neg (by omega), if_neg (by omega)]; rfl
    · rw [if_neg (fun w => y ((i32_e (x := 1) (b := 1) rfl (by omega) (by decide)).mp w))]
      refine ⟨B1, rfl, fun j hj => ?_, fun _ _ _ => rfl⟩
      rw [wvl_inl ho 0 (by omega) j hj, a2 j (by omega) hj, if_neg (by omega), if_neg (by omega)]; rfl
  obtain ⟨B3, c1, c2, c3⟩ := go2 c 0 100000 B2 (by omega) (by omega) b2' (fun a b y => by rw [b3 a b y, a3 a b (by omega)])
  exact ⟨B1, B2, B3, a1', b1, c1, c2, c3⟩
theorem clr_l {b1 b2 : Int32} (hz : z ≤ 100) (hb : b2 = Int32.ofNat z) : ∀ dd i ff (B : St), i + dd = z → dd < ff → ∃ B1, l226_27 Z b1 b2 ff (Int32.ofNat i) B = some B1 ∧ (∀ j, i ≤ j → j < z → B1 175 j = 0 ∧ B1 176 j = 0) ∧ ∀ a b, ((a ≠ 175 ∧ a ≠ 176) ∨ b < i) → B1 a b = B a b := by
  intro dd
  induction dd with
  | zero =>
    intro i ff B q1 q2
    obtain ⟨ff, rfl⟩ : ∃ g, ff = g + 1 := ⟨ff - 1, by omega⟩
    obtain rfl : i = z := by omega
    exact ⟨B, by rw [l226_27, hb, if_pos (Int32.le_refl _)], fun i y1 y2 => by omega, fun _ _ _ => rfl⟩
  | succ dd ih =>
    intro i ff B q1 q2
    obtain ⟨ff, rfl⟩ : ∃ g, ff = g + 1 := ⟨ff - 1, by omega⟩
    have ij : inb (Int32.ofNat i) 100 := (i32_inb (by omega)).mpr (by omega)
    have cj : (Int32.ofNat i).toNatClampNeg = i := i32_cl (by omega)
    obtain ⟨B1, a1, a2, a3⟩ := ih (i + 1) ff (up2 (up2 B 175 i 0) 176 i 0) (by omega) (by omega)
    refine ⟨B1, ?_, fun j y1 y2 => ?_, fun a b y => by rw [a3 a b (by omega), up2_o (by omega), up2_o (by omega)]⟩
    · rw [l226_27, hb, if_neg (by rw [i32_le (by omega) (by omega)]; omega)]
      simp only [if_pos ij, cj, i32_s, nar1.2, Lt]
      rw [← hb]
      exact a1
    · rcases Nat.lt_or_ge i j with y | y
      · exact a2 j y y2
      · obtain rfl : j = i := by omega
        rw [a3 _ _ (by omega), a3 _ _ (by omega)]
        exact ⟨by rw [up2_o (by omega), up2_s], by rw [up2_s]⟩
end
