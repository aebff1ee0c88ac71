/-! EVERY INSTRUCTION; the runs -/
section
variable {P Z n k s : Nat} {E F G p oa os hk : Nat → Nat} {A0 B0 A B A' B' : St} {VV : Nat → Nat → Option VEn} {NO U EV dp m i c x o : Nat} {fr : Nat → FrT} {t : Nat × Nat} {l : Nat × Nat × Nat}
theorem step_l (hP : Hid (P = 3 ∨ P = 18)) (hP2 : 3 ≤ P ∧ P ≤ 18) (hZ2 : 85 ≤ Z ∧ Z ≤ 126) (hL : Lkd P Z n k s E F G p A0 B0) (hT : ∀ m, m < k → TyM B0 Z m (F (m + 1) - F m) (F m) G (VV m)) (h : MC P Z n k s E F p A0 B0 VV oa os hk NO U EV dp m i c fr t l A B) (hc : c < 20000) : StepOK P Z n k s E F p A0 B0 VV c A B := by
  have hkn := kno hP hZ2 hL hT h
  have ko := hkn.2.2.1
  by_cases y0 : opn B0 Z (F m + i) = 0
  · exact op_0 hP hP2 hZ2 hL hT h hc y0
  by_cases y1 : opn B0 Z (F m + i) = 1
  · exact op_1 hP hP2 hZ2 hL hT h hc y1
  by_cases y2 : opn B0 Z (F m + i) = 2
  · exact op_2 hP hP2 hZ2 hL hT h hc y2
  by_cases y3 : opn B0 Z (F m + i) = 3
  · exact op_3 hP hP2 hZ2 hL hT h hc y3
  by_cases y4 : opn B0 Z (F m + i) = 4
  · exact op_4 hP hP2 hZ2 hL hT h hc y4
  by_cases y5 : opn B0 Z (F m + i) = 5
  · exact op_5 hP hP2 hZ2 hL hT h hc y5
  by_cases y6 : opn B0 Z (F m + i) = 6
  · exact op_6 hP hP2 hZ2 hL hT h hc y6
  by_cases y7 : opn B0 Z (F m + i) = 7
  · exact op_7 hP hP2 hZ2 hL hT h hc y7
  by_cases y8 : opn B0 Z (F m + i) ≤ 18
  · exact op_ar hP hP2 hZ2 hL hT h hc ⟨by omega, y8⟩
  by_cases y19 : opn B0 Z (F m + i) = 19
  · exact op_19 hP hP2 hZ2 hL hT h hc y19
  by_cases y20 : opn B0 Z (F m + i) ≤ 36
  · exact op_br hP hP2 hZ2 hL hT h hc ⟨by omega, y20⟩
  by_cases y37 : opn B0 Z (F m + i) = 37
  · exact op_37 hP hP2 hZ2 hL hT h hc y37
  by_cases y38 : opn B0 Z (F m + i) = 38
  · exact op_38 hP hP2 hZ2 hL hT h hc y38
  by_cases y39 : opn B0 Z (F m + i) = 39
  · exact op_39 hP hP2 hZ2 hL hT h hc y39
  by_cases y40 : opn B0 Z (F m + i) = 40
  · exact op_40 hP hP2 hZ2 hL hT h hc y40
  by_cases y41 : opn B0 Z (F m + i) = 41
  · exact op_41 hP hP2 hZ2 hL hT h hc y41
  by_cases y42 : opn B0 Z (F m + i) = 42
  · exact op_42 hP hP2 hZ2 hL hT h hc y42
  by_cases y43 : opn B0 Z (F m + i) = 43
  · exact op_43 hP hP2 hZ2 hL hT h hc y43
  by_cases y44 : opn B0 Z (F m + i) = 44
  · exact op_44 hP hP2 hZ2 hL hT h hc y44
  by_cases y45 : opn B0 Z (F m + i) = 45
  · exact op_45 hP hP2 hZ2 hL hT h hc y45
  by_cases y46 : opn B0 Z (F m + i) = 46
  · exact op_46 hP hP2 hZ2 hL hT h hc y46
  by_cases y47 : opn B0 Z (F m + i) = 47
  · exact op_47 hP hP2 hZ2 hL hT h hc y47
  by_cases y48 : opn B0 Z (F m + i) = 48
  · exact op_48 hP hP2 hZ2 hL hT h hc y48
  by_cases y49 : opn B0 Z (F m + i) = 49
  · exact op_49 hP hP2 hZ2 hL hT h hc y49
  by_cases y50 : opn B0 Z (F m + i) = 50
  · exact op_50 hP hP2 hZ2 hL hT h hc y50
  by_cases y51 : opn B0 Z (F m + i) = 51
  · exact op_51 hP hP2 hZ2 hL hT h hc y51
  by_cases y52 : opn B0 Z (F m + i) = 52
  · exact op_52 hP hP2 hZ2 hL hT h hc y52
  by_cases y53 : opn B0 Z (F m + i) = 53
  · exact op_53 hP hP2 hZ2 hL hT h hc y53
  by_cases y54 : opn B0 Z (F m + i) = 54
  · exact op_54 hP hP2 hZ2 hL hT h hc y54
  by_cases y55 : opn B0 Z (F m + i) = 55
  · exact op_55 hP hP2 hZ2 hL hT h hc y55
  by_cases y56 : opn B0 Z (F m + i) = 56
  · exact op_56 hP hP2 hZ2 hL hT h hc y56
  by_cases y57 : opn B0 Z (F m + i) = 57
  · exact op_57 hP hP2 hZ2 hL hT h hc y57
  by_cases y58 : opn B0 Z (F m + i) = 58
  · exact op_58 hP hP2 hZ2 hL hT h hc y58
  omega
theorem tn_13 (hP : P = 3 ∨ P = 18) (hZ : Z = 85 ∨ Z = 126) {A2 B2 : St} (h1 : tnC P A = some A2) (h2 : tnR Z B = some B2) : A2 68 13 = A 68 13 ∧ B2 82 33 = B 82 33 := by
  constructor
  · unfold tnC at h1
    obtain ⟨q2, w1, w2⟩ := Option.bind_eq_some_iff.mp h1
    obtain ⟨q3, w3, w4⟩ := Option.bind_eq_some_iff.mp w2
    have e2 : q2 68 13 = A 68 13 := (x129_fr hP _ _ Frm.refl _ w1 68 13 (by rcases hP with rfl | rfl <;> rfl)).trans (up2_o (by omega))
    have e3 : q3 68 13 = q2 68 13 := by
      split at w3
      · cases w3; rfl
      · cases w3; exact up2_o (by omega)
    have e4 : A2 68 13 = q3 68 13 := by
      split at w4
      · cases w4; exact up2_o (by omega)
      · split at w4
        · obtain ⟨q4, w5, w6⟩ := Option.bind_eq_some_iff.mp w4
          cases w6
          exact (up2_o (by omega)).trans (x170_fr hP _ _ Frm.refl _ w5 68 13 (by rcases hP with rfl | rfl <;> rfl))
        · cases w4; exact up2_o (by omega)
    rw [e4, e3, e2]
  · unfold tnR at h2
    obtain ⟨q2, w1, w2⟩ := Option.bind_eq_some_iff.mp h2
    have e2 : q2 82 33 = B 82 33 := x238_fr hZ _ _ Frm.refl _ w1 82 33 (by rcases hZ with rfl | rfl <;> rfl)
    split at w2
    · cases w2; exact e2
    · cases w2; exact (up2_o (by omega)).trans e2
/-- a run to its end -/
theorem run_l (hZ : Hid (Z = 85 ∨ Z = 126)) (hP : Hid (P = 3 ∨ P = 18)) (hP2 : 3 ≤ P ∧ P ≤ 18) (hZ2 : 85 ≤ Z ∧ Z ≤ 126) (hL : Lkd P Z n k s E F G p A0 B0) (hT : ∀ m, m < k → TyM B0 Z m (F (m + 1) - F m) (F m) G (VV m)) : ∀ d c (A B : St) f g, c + d = 20000 → d + 3 ≤ f → d + 3 ≤ g → (∃ oa os hk NO U EV dp m i fr t l, MC P Z n k s E F p A0 B0 VV oa os hk NO U EV dp m i c fr t l A B) → ∃ A2 B2, l125_8 P f (Int32.ofNat c) A = some A2 ∧ l237_272 Z g B = some B2 ∧ EndC P Z n s E p A0 B0 A2 B2 ∧ A2 68 13 = A 68 13 ∧ B2 82 33 = B 82 33 := by
  -- ended: both loops stop
  have stp : ∀ (A B : St) (f g b : Nat), b ≤ 20001 → 1 ≤ f → 1 ≤ g → EndC P Z n s E p A0 B0 A B → l125_8 P f (Int32.ofNat b) A = some A ∧ l237_272 Z g B = some B := by
    intro A B f g b hb hf hg he
    obtain ⟨oa, os, hk, NO, U, EV, e, c', -, -, e8, e1, e2, -⟩ := he
    obtain ⟨f, rfl⟩ : ∃ x, f = x + 1 := ⟨f - 1, by omega⟩
    obtain ⟨g, rfl⟩ : ∃ x, g = x + 1 := ⟨g - 1, by omega⟩
    refine ⟨?_, ?_⟩
    · rw [l125_8, e1, if_neg (i32_m1 (by omega))]
      split <;> rfl
    · rw [l237_272, e2, if_neg (i32_m1 (by omega))]
  intro d
  induction d with
  | zero =>
    intro c A B f g h1 h2 h3 h4
    obtain ⟨oa, os, hk, NO, U, EV, dp, m, i, fr, t, l, h⟩ := h4
    obtain ⟨c1, c2, c3, ⟨r1, r2, r3, r4, r5, r6, r7, r8, r9, r10, r11, r12⟩, c5, c6, c7⟩ := h
    obtain ⟨f, rfl⟩ : ∃ x, f = x + 1 := ⟨f - 1, by omega⟩
    obtain ⟨g, rfl⟩ : ∃ x, g = x + 2 := ⟨g - 2, by omega⟩
    obtain rfl : c = 20000 := by omega
    refine ⟨up2 A 68 14 4, up2 B 82 34 4, ?_, ?_, ⟨oa, os, hk, NO, U, EV, 4, 20000, c1.of (fun a b _ _ => up2_o (by omega)) (fun a b _ => up2_o (by omega)), c2.of (fun a b _ => up2_o (by omega)) (fun a b _ => up2_o (by omega)), by omega, up2_s _ _ _ _, up2_s _ _ _ _, by omega, by rw [up2_o (by omega)]; exact r8, by rw [up2_o (by omega)]; exact r9, fun y => by omega, fun y => by omega⟩, up2_o (by omega), up2_o (by omega)⟩
    · rw [l125_8, if_neg (by decide), r5, if_pos rfl, r8, if_neg (by decide)]
    · rw [l237_272, r6, if_pos rfl, r9, if_pos (show Int32.ofNat 20000 = 20000 from rfl), l237_272, up2_s, if_neg (by decide)]
  | succ d ih =>
    intro c A B f g h1 h2 h3 h4
    obtain ⟨oa, os, hk, NO, U, EV, dp, m, i, fr, t, l, h⟩ := h4
    obtain ⟨A2, B2, s1, s2, s3⟩ := step_l hP hP2 hZ2 hL hT h (by omega : c < 20000)
    obtain ⟨c1, c2, c3, ⟨r1, r2, r3, r4, r5, r6, r7, r8, r9, r10, r11, r12⟩, c5, c6, c7⟩ := h
    obtain ⟨f, rfl⟩ : ∃ x, f = x + 1 := ⟨f - 1, by omega⟩
    obtain ⟨g, rfl⟩ : ∃ x, g = x + 1 := ⟨g - 1, by omega⟩
    have e1 : l125_8 P (f + 1) (Int32.ofNat c) A = l125_8 P f (Int32.ofNat (c + 1)) A2 := by
      rw [l125_8, if_neg (by rw [i32_l4 (x := 20000) (b := 20000) rfl (by omega) (by decide)]; omega), r5, if_pos rfl, r8, if_pos ((i32_l1 (x := 20000) (b := 20000) rfl (by omega) (by decide)).mpr (by omega)), i32_s]
      unfold tnC at s1
      obtain ⟨q2, w1, w2⟩ := Option.bind_eq_some_iff.mp s1
      obtain ⟨q3, w3, w4⟩ := Option.bind_eq_some_iff.mp w2
      rw [w1, Option.bind_some, w3, Option.bind_some]
      by_cases y : q3 68 12 = 0
      · rw [if_pos y] at w4 ⊢
        cases w4; rfl
      · rw [if_neg y] at w4 ⊢
        by_cases y2 : q3 68 14 = -1
        · rw [if_pos y2] at w4 ⊢
          obtain ⟨q4, w5, w6⟩ := Option.bind_eq_some_iff.mp w4
          rw [w5, Option.bind_some]
          cases w6; rfl
        · rw [if_neg y2] at w4 ⊢
          cases w4; rfl
    have e2 : l237_272 Z (g + 1) B = l237_272 Z g B2 := by
      rw [l237_272, r6, if_pos rfl, r9, if_neg (by rw [i32_e (x := 20000) (b := 20000) rfl (by omega) (by decide)]; omega)]
      unfold tnR at s2
      obtain ⟨q, w1, w2⟩ := Option.bind_eq_some_iff.mp s2
      rw [w1, Option.bind_some]
      by_cases y : 4 ≤ q 82 34
      · rw [if_pos y] at w2 ⊢
        cases w2; rfl
      · rw [if_neg y] at w2 ⊢
        cases w2; rfl
    obtain ⟨k1, k2⟩ := tn_13 hP hZ s1 s2
    rw [e1, e2]
    rcases s3 with s3 | s3
    · obtain ⟨oa, os, hk, NO, U, EV, dp, m, i, fr, t, l, h'⟩ := s3
      obtain ⟨A3, B3, y1, y2, y3, y4, y5⟩ := ih (c + 1) A2 B2 f g (by omega) (by omega) (by omega) ⟨oa, os, hk, NO, U, EV, dp, m, i, fr, t, l, h'⟩
      exact ⟨A3, B3, y1, y2, y3, y4.trans k1, y5.trans k2⟩
    · obtain ⟨x1, x2⟩ := stp A2 B2 f g (c + 1) (by omega) (by omega) (by omega) s3
      exact ⟨A2, B2, x1, x2, s3, k1, k2⟩
end
