/-! run(): the whole -/
section
variable {P Z n k s : Nat} {E F G p : Nat → Nat} {A B : St} {m : Nat}
theorem TyA.ch (hT : TyA B Z k F G) : ∃ VV : Nat → Nat → Option VEn, ∀ m, m < k → TyM B Z m (F (m + 1) - F m) (F m) G (VV m) := ⟨fun m => if h : m < k then (hT m h).choose else fun _ => none, fun m hm => by
  dsimp only
  rw [dif_pos hm]; exact (hT m hm).choose_spec⟩
set_option maxHeartbeats 4000000 in
theorem start_l {VV : Nat → Nat → Option VEn} (hP : Hid (P = 3 ∨ P = 18)) (hP2 : 3 ≤ P ∧ P ≤ 18) (hZ2 : 85 ≤ Z ∧ Z ≤ 126) (hL : Lkd P Z n k s E F G p A B) (hT : ∀ m, m < k → TyM B Z m (F (m + 1) - F m) (F m) G (VV m)) (hW : CpW A B) (hm : m < k) : ∃ A1 B1 oa os hk fr l2, x126 P A (Int32.ofNat m) = some A1 ∧ x237 Z B (Int32.ofNat m) = (l237_272 Z 100000 B1).bind (fun q17 => some ((q17 82 34), q17)) ∧ MC P Z n k s E F p A B VV oa os hk 0 0 0 0 m 0 0 fr (0, 0) l2 A1 B1 ∧ A1 68 13 = 1 ∧ B1 82 33 = 1 := by
  have k24 := hL.1.2.2.2.2.1
  have s16 := hL.1.2.2.2.2.2.1
  have hA5 := hL.1.2.2.2.2.2.2.2.2.2.2.2.2.2.1
  have hkd := hL.1.2.2.2.2.2.2.2.2.2.2.2.2.2.2.2
  have hB8 := hL.2.1.2.1
  obtain ⟨o1, o2, o3, o4, o5, o6, o7, o8, o9, o10⟩ := lk_mh hL hm
  obtain ⟨-, -, -, -, hh⟩ := hL.2.1.2.2.2.2.2.2.1 m hm
  have h21 : B (Z + 21) m = Int32.ofNat (F m) := hh.2.2.2.2.2.2.2.2.1
  obtain ⟨z0, ⟨l2, hv2, ho2⟩, -⟩ := hT m hm
  obtain ⟨c61, c62, c64, c66⟩ := hW
  have hSe : SeC A B := ⟨c61, fun j hj => ⟨by rw [← c62 j hj]; exact (m62.1 A j hj).symm, by rw [← c64 j hj]; exact (m64.1 A j hj).symm⟩⟩
  have hAr : ∀ j, j < 7 → A 67 (2 * j) = B 169 j ∧ A 67 (2 * j + 1) = B 170 j := fun j hj => ⟨by rw [← (c66 j hj).1]; exact (m66.1 A j hj).symm, by rw [← (c66 j hj).2]; exact (m66.2.1 A j hj).symm⟩
  -- the class
  have t70 : tresize A 70 0 = up2 A 70 3 0 := tres_n (k := 70) (n := 0) (by decide) (by decide)
  have t72 : tresize (up2 A 70 3 0) 72 0 = up2 (up2 A 70 3 0) 72 3 0 := tres_n (k := 72) (n := 0) (by decide) (by decide)
  have t76 : tresize (up2 (up2 A 70 3 0) 72 3 0) 76 0 = up2 (up2 (up2 A 70 3 0) 72 3 0) 76 3 0 := tres_n (k := 76) (n := 0) (by decide) (by decide)
  obtain ⟨J, j1, j2, j3⟩ := l126_s (P := P) (b2 := Int32.ofNat m) hP s16 s 0 100000 (up2 (up2 (up2 A 70 3 0) 72 3 0) 76 3 0) (by omega) (by omega) (by rw [up2_o (by omega), up2_o (by omega), up2_o (by omega)]; exact hA5)
  generalize hI2 : up2 (up2 (up2 (up2 (up2 (up2 (up2 (up2 (up2 (up2 (up2 J 68 13 1) 68 14 (-1)) 68 15 0) 68 16 0) 68 17 0) 68 18 0) 68 12 0) 68 7 0) 68 8 (Int32.ofNat m)) 68 9 0) 68 11 0 = I2
  have f2 : ∀ a b, a ≠ 68 → I2 a b = J a b := fun a b y => by rw [← hI2]; simp (disch := omega) only [up2_o]
  have fJ : ∀ a b, (a ≠ 70 ∧ a ≠ 72 ∧ a ≠ 76 ∨ b ≠ 3) → a ≠ 75 → J a b = A a b := fun a b y1 y2 => by rw [j2 a b (by omega), up2_o (by omega), up2_o (by omega), up2_o (by omega)]
  obtain ⟨A1, a1, a2, a3⟩ := l126_l (A := A) (rf := mrf B Z m) hP (by omega) o1 o2 o9 (mow B Z m + mkc B Z m) 0 100000 I2 (by omega) (by omega) (by rw [← hI2]; simp (disch := omega) only [up2_o, up2_s]) (fun b => by rw [f2 _ _ (by omega), fJ _ _ (by omega) (by omega)])
  have hxA : x126 P A (Int32.ofNat m) = some A1 := by
    unfold x126 x127
    rw [show Int32.ofNat 0 = (0 : Int32) from rfl] at j1 a1
    rw [t70, t72, Option.bind_some, t76, j1, Option.bind_some]
    unfold Lt
    dsimp only
    rw [hI2]
    simp (disch := omega) only [tP7 hP]
    rw [f2 (P + 8) _ (by omega), f2 (P + 8) _ (by omega), fJ (P + 8) _ (by omega) (by omega), fJ (P + 8) _ (by omega) (by omega), o4, o6, i32_a, a1]
    rfl
  have fA : ∀ a b, (a ≠ 68 ∧ a ≠ 75 ∧ a ≠ 81) → (a ≠ 70 ∧ a ≠ 72 ∧ a ≠ 76 ∨ b ≠ 3) → A1 a b = A a b := fun a b y1 y2 => by rw [a2 a b (by omega), f2 a b (by omega), fJ a b y2 (by omega)]
  have g68 : ∀ b, A1 68 b = I2 68 b := fun b => a2 _ _ (by omega)
  -- the reference
  obtain ⟨Y, y1, y2, y3⟩ := l237_s (Z := Z) (b1 := Int32.ofNat m) 16 0 100000 (up2 (up2 (up2 (up2 (up2 (up2 (up2 (up2 (up2 B 82 33 1) 82 37 0) 82 38 0) 82 39 0) 82 40 0) 82 41 0) 82 48 0) 82 35 0) 82 36 0) (by omega) (by omega)
  have fY : ∀ a b, (a ≠ 187 ∧ a ≠ 188) → (a ≠ 82 ∨ (b ≠ 33 ∧ (b < 35 ∨ 41 < b) ∧ b ≠ 48)) → Y a b = B a b := fun a b w1 w2 => by rw [y2 a b (by omega)]; simp (disch := omega) only [up2_o]
  generalize hY2 : up2 (up2 (up2 (up2 Y 82 55 0) 82 63 (Int32.ofNat m)) 82 64 (Int32.ofNat (F m))) 82 65 0 = Y2
  have fY2 : ∀ a b, (a ≠ 82 ∨ (b ≠ 55 ∧ b ≠ 63 ∧ b ≠ 64 ∧ b ≠ 65)) → Y2 a b = Y a b := fun a b y => by rw [← hY2]; simp (disch := omega) only [up2_o]
  obtain ⟨B2, b1, b2, b3⟩ := l237_l (B := B) (own := mow B Z m) (kc := mkc B Z m) (rf := mrf B Z m) hZ2 (by omega : m < 24) o1 o2 o3 o7 o8 16 0 100000 Y2 (by omega) (by omega) (by rw [← hY2]; simp (disch := omega) only [up2_o, up2_s]) (fun a b y => by rw [fY2 _ _ (by omega), fY _ _ (by omega) (by omega)])
  have him : inb (Int32.ofNat m) 24 := (i32_inb (by omega)).mpr (by omega)
  have hcm : (Int32.ofNat m).toNatClampNeg = m := i32_cl (by omega)
  have hxB : x237 Z B (Int32.ofNat m) = (l237_272 Z 100000 (up2 B2 82 34 (-1))).bind (fun q17 => some ((q17 82 34), q17)) := by
    unfold x237
    have e25 : (if Y (Z + 25) m = 0 then some (0 : Int32) else some 1) = some (Int32.ofNat (mow B Z m)) := by
      rw [fY _ _ (by omega) (by omega), o5]
      have : mow B Z m = 0 ∨ mow B Z m = 1 := by omega
      rcases this with w | w <;> rw [w] <;> rfl
    rw [if_neg (nn0 ((i32_l2 (x := 0) (b := 0) rfl (by omega) (by decide)).mpr (by omega))), hB8, if_pos ((i32_lt (by omega) (by omega)).mpr hm)]
    rw [show Int32.ofNat 0 = (0 : Int32) from rfl] at y1 b1
    unfold Lt
    dsimp only
    rw [y1, Option.bind_some]
    have e21 : Y (Z + 21) m = Int32.ofNat (F m) := by rw [fY _ _ (by omega) (by omega)]; exact h21
    simp (disch := omega) only [if_pos him, hcm, up2_o, up2_s, e21, hY2, e25, Option.bind_some, b1]
  have fB : ∀ a b, (a ≠ 187 ∧ a ≠ 188 ∧ a ≠ 196 ∧ a ≠ 197) → (a ≠ 82 ∨ (b < 33 ∨ (41 < b ∧ b ≠ 48 ∧ b ≠ 55 ∧ b ≠ 63 ∧ b ≠ 64 ∧ b ≠ 65))) → up2 B2 82 34 (-1) a b = B a b := fun a b w1 w2 => by rw [up2_o (by omega), b2 a b (by omega), fY2 a b (by omega), fY a b (by omega) (by omega)]
  have g82 : ∀ b, b ≠ 34 → up2 B2 82 34 (-1) 82 b = Y2 82 b := fun b w => by rw [up2_o (by omega), b2 _ _ (by omega)]
  have gY : ∀ b, (b ≠ 55 ∧ b ≠ 63 ∧ b ≠ 64 ∧ b ≠ 65) → Y2 82 b = (up2 (up2 (up2 (up2 (up2 (up2 (up2 (up2 (up2 B 82 33 1) 82 37 0) 82 38 0) 82 39 0) 82 40 0) 82 41 0) 82 48 0) 82 35 0) 82 36 0) 82 b := fun b w => by rw [fY2 _ _ (by omega), y2 _ _ (by omega)]
  refine ⟨A1, up2 B2 82 34 (-1), fun _ => 0, fun _ => 0, fun _ => 0, fun _ => (0, 0, (0, 0), (0, 0, 0)), l2, hxA, hxB, ⟨⟨fun a b w1 w2 => fA a b (by omega) (by omega), fun a b w => fB a b (by omega) (by omega)⟩, ⟨⟨?_, ?_, ?_, ?_, ?_, by omega, fun i hi => by omega, fun j hj => by omega⟩, fun j hj => ?_, ⟨?_, ?_, by omega, ?_, fun e he => by omega⟩, ?_⟩, fun g hg => by omega, ⟨?_, ?_, ?_, ?_, ?_, up2_s _ _ _ _, ?_, ?_, ?_, hm, z0, by omega⟩, hv2, ⟨?_, ?_, by omega, ?_, ?_, by show 0 ≤ 16; omega⟩, ?_⟩, ?_, ?_⟩
  · rw [a2 _ _ (by omega), f2 _ _ (by omega), j2 _ _ (by omega), up2_o (by omega), up2_o (by omega), up2_s]; rfl
  · rw [g82 _ (by omega), gY _ (by omega)]; simp (disch := omega) only [up2_o, up2_s]; rfl
  · rw [a2 _ _ (by omega), f2 _ _ (by omega), j2 _ _ (by omega), up2_o (by omega), up2_s]; rfl
  · rw [g82 _ (by omega), gY _ (by omega)]; simp (disch := omega) only [up2_o, up2_s]; rfl
  · rw [g82 _ (by omega), gY _ (by omega)]; simp (disch := omega) only [up2_o, up2_s]; rfl
  · obtain ⟨w1, w2⟩ := j3 j (by omega) hj
    obtain ⟨w3, w4⟩ := y3 j (by omega) (by omega)
    have u1 : up2 B2 82 34 (-1) 187 j = 0 := by rw [up2_o (by omega), b2 _ _ (by omega), fY2 _ _ (by omega), w3]
    have u2 : up2 B2 82 34 (-1) 188 j = 0 := by rw [up2_o (by omega), b2 _ _ (by omega), fY2 _ _ (by omega), w4]
    have u3 : up2 (up2 (up2 A 70 3 0) 72 3 0) 76 3 0 (P + 6) (4 * j + 3) = B (Z + 14) j := by rw [up2_o (by omega), up2_o (by omega), up2_o (by omega)]; exact (hkd j hj).1
    rw [a2 _ _ (by omega), a2 _ _ (by omega), f2 _ _ (by omega), f2 _ _ (by omega), w1, w2, u1, u2, u3]
    refine ⟨?_, rfl⟩
    rcases (hkd j hj).2 with w | w
    · rw [w]; exact Or.inl ⟨rfl, rfl⟩
    · rw [w]; exact Or.inr ⟨rfl, Or.inl ⟨rfl, rfl⟩⟩
  · rw [a2 _ _ (by omega), f2 _ _ (by omega), j2 _ _ (by omega), up2_s]; rfl
  · rw [g82 _ (by omega), gY _ (by omega)]; simp (disch := omega) only [up2_o, up2_s]; rfl
  · rw [g68, g82 _ (by omega), gY _ (by omega), ← hI2]; simp (disch := omega) only [up2_o, up2_s]
  · refine ⟨?_, fun j hj => ⟨?_, ?_⟩⟩
    · rw [fA _ _ (by omega) (by omega), fB _ _ (by omega) (by omega)]; exact hSe.1
    · rw [fA _ _ (by omega) (by omega), fB _ _ (by omega) (by omega)]; exact (hSe.2 j hj).1
    · rw [fA _ _ (by omega) (by omega), fB _ _ (by omega) (by omega)]; exact (hSe.2 j hj).2
  · rw [g68, ← hI2]; simp (disch := omega) only [up2_o, up2_s]
  · rw [g82 _ (by omega), ← hY2]; simp (disch := omega) only [up2_o, up2_s]
  · rw [g68, ← hI2]; simp (disch := omega) only [up2_o, up2_s]; rfl
  · rw [g82 _ (by omega), ← hY2]; simp (disch := omega) only [up2_o, up2_s]; rfl
  · rw [g68, ← hI2]; simp (disch := omega) only [up2_o, up2_s]
  · rw [g68, ← hI2]; simp (disch := omega) only [up2_o, up2_s]
  · rw [g68, ← hI2]; simp (disch := omega) only [up2_o, up2_s]; rfl
  · rw [g82 _ (by omega), gY _ (by omega)]; simp (disch := omega) only [up2_o, up2_s]; rfl
  · rw [g68, ← hI2]; simp (disch := omega) only [up2_o, up2_s]; rfl
  · rw [g82 _ (by omega), ← hY2]; simp (disch := omega) only [up2_o, up2_s]; rfl
  · rw [g68, ← hI2, up2_s]; rfl
  · rw [g82 _ (by omega), ← hY2, up2_s]; rfl
  · refine FV.wk (l := inl (mow B Z m) (mrf B Z m) (mkc B Z m)) ⟨fun j hj => by omega, fun q hq hw => ?_⟩ ho2 (inl_ful o1 o2)
    rw [wvl_inl o1 _ o2 q hq] at hw ⊢
    have hqt : q < mow B Z m + mkc B Z m := by
      by_cases y : q < mow B Z m + mkc B Z m
      · exact y
      · rw [if_neg (by omega), if_neg (by omega)] at hw; omega
    obtain ⟨w1, w2⟩ := a3 q (by omega) hqt
    obtain ⟨w3, w4⟩ := b3 q (by omega) hqt
    obtain ⟨w5, w6⟩ := hAr q (by omega)
    have u1 : up2 B2 82 34 (-1) 196 q = B2 196 q := up2_o (by omega)
    have u2 : up2 B2 82 34 (-1) 197 q = B2 197 q := up2_o (by omega)
    rw [show 32 * 0 + q = q by omega, w1, w2, u1, u2, w3, w4, f2 _ _ (by omega), f2 _ _ (by omega), fJ _ _ (by omega) (by omega), fJ _ _ (by omega) (by omega), fY2 _ _ (by omega), fY2 _ _ (by omega), fY _ _ (by omega) (by omega), fY _ _ (by omega) (by omega), w5, w6]
    refine ⟨?_, rfl⟩
    by_cases y : q < mow B Z m
    · have e : isRf (mow B Z m) (mrf B Z m) (mkc B Z m) q = true := by unfold isRf; rw [decide_eq_true y, Bool.true_or]
      rw [if_pos y, e, if_pos rfl, if_pos rfl]
      exact Or.inr ⟨rfl, Or.inl ⟨rfl, rfl⟩⟩
    · rw [if_neg y, if_pos hqt]
      have e : isRf (mow B Z m) (mrf B Z m) (mkc B Z m) q = (mrf B Z m).testBit (q - mow B Z m) := by unfold isRf; rw [decide_eq_false y, Bool.false_or, decide_eq_true hqt, Bool.true_and]
      rw [e]
      unfold knd
      cases (mrf B Z m).testBit (q - mow B Z m)
      · exact Or.inl ⟨rfl, rfl⟩
      · exact Or.inr ⟨rfl, Or.inl ⟨rfl, rfl⟩⟩
  · rw [g68, ← hI2]; simp (disch := omega) only [up2_o, up2_s]
  · rw [g82 _ (by omega), gY _ (by omega)]; simp (disch := omega) only [up2_o, up2_s]
/-- run() of a method -/
theorem runm_l (hP : Hid (P = 3 ∨ P = 18)) (hZ : Hid (Z = 85 ∨ Z = 126)) (hP2 : 3 ≤ P ∧ P ≤ 18) (hZ2 : 85 ≤ Z ∧ Z ≤ 126) (hL : Lkd P Z n k s E F G p A B) (hT : TyA B Z k F G) (hW : CpW A B) (hm : m < k) : ∃ r A' B', x125 P A (Int32.ofNat m) = some (r, A') ∧ x237 Z B (Int32.ofNat m) = some (r, B') ∧ PRG P Z A B A' B' ∧ SeC A' B' ∧ Run1 P Z n s E p A' B' := by
  obtain ⟨VV, hVV⟩ := hT.ch
  obtain ⟨A1, B1, oa, os, hk, fr, l2, e1, e2, e3, e4, e5⟩ := start_l hP hP2 hZ2 hL hVV hW hm
  obtain ⟨A2, B2, r1, r2, ⟨oa', os', hk', NO, U, EV, e, c', g1, g2, g3, g4, g5, g6, g7, g8, g9, g10⟩, r4, r5⟩ := run_l hZ hP hP2 hZ2 hL hVV 20000 0 A1 B1 100000 100000 (by omega) (by omega) (by omega) ⟨oa, os, hk, 0, 0, 0, 0, m, 0, fr, (0, 0), l2, e3⟩
  have eB : x237 Z B (Int32.ofNat m) = some (Int32.ofNat e, B2) := by rw [e2, r2, Option.bind_some, g5]
  have n0 : (Int32.ofNat e = 0) = (e = 0) := propext (i32_e (x := 0) (b := 0) rfl (by omega) (by decide))
  have n3 : (Int32.ofNat e ≤ 3) = (e ≤ 3) := propext (i32_l3 (x := 3) (b := 3) rfl (by omega) (by decide))
  have eA : x125 P A (Int32.ofNat m) = some (Int32.ofNat e, if 1 ≤ e ∧ e ≤ 3 then A2 else up2 (up2 A2 68 15 0) 68 16 0) := by
    unfold x125
    rw [e1, Option.bind_some, show (0 : Int32) = Int32.ofNat 0 from rfl, r1, Option.bind_some, g4, show Int32.ofNat 0 = (0 : Int32) from rfl]
    simp only [n0, n3]
    by_cases y : e = 0
    · rw [if_pos y, if_neg (by omega)]
    · rw [if_neg y]
      by_cases y3 : e ≤ 3
      · rw [if_pos y3, if_pos ⟨by omega, y3⟩]
      · rw [if_neg y3, if_neg (by omega)]
  have h33 : B2 82 33 = 1 := r5.trans e5
  have h13 : A2 68 13 = 1 := r4.trans e4
  have hBk : ∀ a b, a = Z + 11 ∨ a = Z + 14 → B2 a b = B a b := fun a b y => g1.2 a b (by omega)
  have hHp : HpC B2 Z n p E oa' os' hk' NO U A2 B2 := by
    obtain ⟨⟨q1, q2, q3, q4, q5, q6, q7, q8⟩, -⟩ := g2
    refine ⟨q1, q2, q3, q4, q5, q6, fun i hi => ?_, q8⟩
    obtain ⟨w1, w2, w3, w4, w5, w6, w7, w8⟩ := q7 i hi
    refine ⟨w1, w2, w3, w4, w5, w6, w7, ?_⟩
    rcases w8 with ⟨cc, v1, v2, v3, v4⟩ | w8
    · exact Or.inl ⟨cc, v1, v2, v3, fun q hq => by rw [v4 q hq]; exact (fkd_of (fun f => hBk _ _ (Or.inl rfl)) 19 cc q).symm⟩
    · exact Or.inr w8
  have hSt : StC B2 Z s NO A2 B2 := fun j hj => by rw [hBk _ _ (Or.inr rfl)]; exact g2.2.1 j hj
  by_cases y : 1 ≤ e ∧ e ≤ 3
  · refine ⟨Int32.ofNat e, A2, B2, by rw [eA, if_pos y], eB, g1, g2.2.2.2, Or.inr ⟨h13, h33, oa', os', hk', NO, U, EV, e, c', hHp, hSt, g2.2.2.1, g3, g4, g5, g7, g8, g9, g10, fun z => by omega⟩⟩
  · have fo : ∀ a b, (a ≠ 68 ∨ (b ≠ 15 ∧ b ≠ 16)) → up2 (up2 A2 68 15 0) 68 16 0 a b = A2 a b := fun a b z => by rw [up2_o (by omega), up2_o (by omega)]
    refine ⟨Int32.ofNat e, up2 (up2 A2 68 15 0) 68 16 0, B2, by rw [eA, if_neg y], eB, g1.of (fun a b _ _ => fo a b (by omega)) (fun _ _ _ => rfl), ?_, Or.inr ⟨by rw [fo _ _ (by omega)]; exact h13, h33, oa', os', hk', NO, U, EV, e, c', ?_, ?_, ?_, g3, by rw [fo _ _ (by omega)]; exact g4, g5, by rw [fo _ _ (by omega)]; exact g7, g8, fun z => by omega, fun z => by omega, fun z => ⟨by rw [up2_o (by omega), up2_s], up2_s _ _ _ _⟩⟩⟩
    · have := (g2.of (A' := up2 (up2 A2 68 15 0) 68 16 0) (B' := B2) (fun a b _ => fo a b (by omega)) (fun _ _ _ => rfl)).2.2.2
      exact this
    · have g0 : GCo B2 Z n s p E oa' os' hk' NO U EV A2 B2 := ⟨hHp, hSt, g2.2.2⟩
      exact (g0.of (A' := up2 (up2 A2 68 15 0) 68 16 0) (B' := B2) (fun a b _ => fo a b (by omega)) (fun _ _ _ => rfl)).1
    · have g0 : GCo B2 Z n s p E oa' os' hk' NO U EV A2 B2 := ⟨hHp, hSt, g2.2.2⟩
      exact (g0.of (A' := up2 (up2 A2 68 15 0) 68 16 0) (B' := B2) (fun a b _ => fo a b (by omega)) (fun _ _ _ => rfl)).2.1
    · exact (g2.of (A' := up2 (up2 A2 68 15 0) 68 16 0) (B' := B2) (fun a b _ => fo a b (by omega)) (fun _ _ _ => rfl)).2.2.1
end
