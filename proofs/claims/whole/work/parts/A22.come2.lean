/-! COMING TO AN INSTRUCTION in lockstep -/
theorem nar1 : vp_nar .boolean 1 = 1 ∧ vp_nar .boolean 0 = 0 := by decide
section
variable {P Z m z f d j : Nat} {V : Nat → Option VEn} {N : Nat → Bool} {A B : St} {t : Nat × Nat} {l : Nat × Nat × Nat}
/-- what come() leaves: class, reference -/
def CfA (P m : Nat) (A A' : St) : Prop := ∀ a b, a ≠ 60 → (a ≠ P + 8 ∨ b ≠ 16 * m + 9) → (a ≠ 58 ∨ b ≠ 6) → A' a b = A a b
def CfB (Z m : Nat) (B B' : St) : Prop := ∀ a b, (a < 175 ∨ 179 < a) → (a ≠ Z + 24 ∨ b ≠ m) → (a ≠ 82 ∨ (b ≠ 5 ∧ b ≠ 22)) → B' a b = B a b
theorem V1.of {i : Nat} {V' : Nat → Option VEn} {N' : Nat → Bool} {d' : Nat} {A' B' : St} (h : V1 V N d i A B) (hV : V' i = V i) (hN : N' i = N i) (hd : d ≤ d') (hA : ∀ q, 7 * i ≤ q → q < 7 * i + 7 → A' 60 q = A 60 q) (hB : ∀ p q, 175 ≤ p → p ≤ 178 → q = i → B' p q = B p q) (hB2 : ∀ q, 16 * i ≤ q → q < 16 * i + 16 → B' 179 q = B 179 q) : V1 V' N' d' i A' B' := by
  obtain ⟨h1, h2, h3, h4, h5, h6⟩ := h
  unfold V1
  rw [hV, hN, hA _ (by omega) (by omega), hA _ (by omega) (by omega), hA _ (by omega) (by omega), hA _ (by omega) (by omega), hA _ (by omega) (by omega), hA _ (by omega) (by omega), hA _ (by omega) (by omega), hB _ _ (by omega) (by omega) rfl, hB _ _ (by omega) (by omega) rfl, hB _ _ (by omega) (by omega) rfl, hB _ _ (by omega) (by omega) rfl]
  refine ⟨h1, h2, h3, h4, h5, fun t l e => ?_⟩
  obtain ⟨g1, g2, g3, g4, g5, g6, g7, g8, g9, g10, g11, g12⟩ := h6 t l e
  exact ⟨g1, g2, g3, by omega, g5, g6, g7, g8, g9, g10, g11, fun k hk => by rw [hB2 _ (by omega) (by omega)]; exact g12 k hk⟩
set_option maxHeartbeats 4000000 in
theorem come_l (hP : Hid (P = 3 ∨ P = 18)) (hP2 : 3 ≤ P ∧ P ≤ 18) (hZ2 : 85 ≤ Z ∧ Z ≤ 126) (h : VC P Z m z f V N d A B) (hg : GS A B) (hc : Cs t A) (hl : Lc l A) (hlo : Lok l) (ht : Sok t) (h16 : t.1 ≤ 16) (hw : ∀ k, k < 16 → B 180 k = Int32.ofNat (wvl l k)) (hj : j ≤ z) (hend : A 49 (4 * m + 1) = B (Z + 23) m ∧ Plc (B (Z + 23) m)) (hpl : ∀ i, i < z → A 53 (3 * (f + i)) = B (Z + 28) (f + i) ∧ Plc (B (Z + 28) (f + i))) : ∃ A' B', x101 P A (Int32.ofNat j) = some A' ∧ x227 Z B (Int32.ofNat j) (Int32.ofNat t.1) (Int32.ofNat t.2) = some B' ∧ CfA P m A A' ∧ CfB Z m B B' ∧ (FS A' B' ∨ (GS A' B' ∧ j < z ∧ ∃ V' N' d', Cme V N d j t l V' N' d' ∧ VC P Z m z f V' N' d' A' B')) := by
  obtain ⟨g1, g2⟩ := hg
  have h0 := h
  obtain ⟨v1, v2, v3, v4, v5, v6, v7, v8, v9, v10, v11, v12, v13⟩ := h
  have im : inb (Int32.ofNat m) 24 := (i32_inb (by omega)).mpr (by omega)
  have cm : (Int32.ofNat m).toNatClampNeg = m := i32_cl (by omega)
  have b20 := p20 ht.1
  have ht2 := ht.2
  by_cases hjz : j = z
  · -- the end
    subst hjz
    obtain ⟨e1, q, e2, e3⟩ := hend
    refine ⟨up2 A 58 6 (Int32.ofNat q), up2 (up2 B 82 22 5) 82 5 (Int32.ofNat q), ?_, ?_, fun a b z1 z2 z3 => up2_o (by omega), fun a b z1 z2 z3 => by rw [up2_o (by omega), up2_o (by omega)], Or.inl ⟨q, e2, up2_s _ _ _ _, by rw [up2_o (by omega), up2_s], up2_s _ _ _ _⟩⟩
    · unfold x101
      rw [if_pos g1, v8, if_neg (by rw [i32_lt (by omega) (by omega)]; omega), v5]
      simp (disch := omega) only [t48]
      rw [e1, e3]
    · unfold x227
      rw [if_pos g2]
      simp only [v6, if_pos im, cm]
      rw [v9, if_pos rfl]
      unfold x228
      rw [if_pos g2, e3]
      rfl
  · have hj : j < z := by omega
    have ij : inb (Int32.ofNat j) 100 := (i32_inb (by omega)).mpr (by omega)
    have cj : (Int32.ofNat j).toNatClampNeg = j := i32_cl (by omega)
    have hne : ¬ Int32.ofNat j = Int32.ofNat z := by rw [i32_eq (by omega) (by omega)]; exact hjz
    obtain ⟨w1, w2, w3, w4, w5, w6⟩ := v1 j hj
    have hA0 : x101 P A (Int32.ofNat j) = if (A 60 (7 * j)) = 0 then Lt (up2 (up2 (up2 A 60 (7 * j) 1) 60 (7 * j + 2) (Int32.ofNat t.1)) 60 (7 * j + 3) (Int32.ofNat t.2)) fun J1 => Lt (up2 J1 (P + 8) (16 * m + 9) (Int32.ofNat (max d t.1))) fun J2 => x102 (up2 J2 60 (7 * j + 1) 1) (Int32.ofNat j) else if (A 60 (7 * j + 2)) = Int32.ofNat t.1 then if (A 60 (7 * j + 3)) = Int32.ofNat t.2 then x102 A (Int32.ofNat j) else some (up2 A 58 6 (A 53 (3 * (f + j)))) else some (up2 A 58 6 (A 53 (3 * (f + j)))) := by
      unfold x101 x104 Lt
      rw [if_pos g1, v8, if_pos ((i32_lt (by omega) (by omega)).mpr hj)]
      simp (disch := omega) only [t59, tP7 hP, up2_o, v5, v3, hc.1, hc.2, v7, i32_a, t52, Option.bind_fun_some, Option.bind_some]
      have hmx : (if Int32.ofNat d < Int32.ofNat t.1 then Int32.ofNat t.1 else Int32.ofNat d) = Int32.ofNat (max d t.1) := by
        by_cases y : d < t.1
        · rw [if_pos ((i32_lt (by omega) (by omega)).mpr y), Nat.max_eq_right (by omega)]
        · rw [if_neg (by rw [i32_lt (by omega) (by omega)]; exact y), Nat.max_eq_left (by omega)]
      rw [hmx]
    have hB0 : x227 Z B (Int32.ofNat j) (Int32.ofNat t.1) (Int32.ofNat t.2) = if (B 175 j) = 0 then (l227_116 Z (Int32.ofNat j) (Int32.ofNat t.1) (Int32.ofNat t.2) 100000 1 0 B).bind fun q4 => Lt (up2 (up2 (up2 q4.2 175 j 1) 177 j (Int32.ofNat t.1)) 178 j (Int32.ofNat t.2)) fun J7 => (if (J7 176 j) = 0 then if q4.1 = 0 then some 0 else some 1 else some 1).bind fun (q8 : Int32) => if inb (J7 82 32) 24 then if Int32.ofNat t.1 ≤ ((up2 J7 176 j (vp_nar .boolean q8)) (Z + 24) (J7 82 32).toNatClampNeg) then some (up2 J7 176 j (vp_nar .boolean q8)) else some (up2 (up2 J7 176 j (vp_nar .boolean q8)) (Z + 24) (J7 82 32).toNatClampNeg (Int32.ofNat t.1)) else none else if (B 177 j) = Int32.ofNat t.1 then if (B 178 j) = Int32.ofNat t.2 then (l227_116 Z (Int32.ofNat j) (Int32.ofNat t.1) (Int32.ofNat t.2) 100000 0 0 B).bind fun q11 => Lt (up2 (up2 (up2 q11.2 175 j 1) 177 j (Int32.ofNat t.1)) 178 j (Int32.ofNat t.2)) fun J14 => (if (J14 176 j) = 0 then if q11.1 = 0 then some 0 else some 1 else some 1).bind fun (q15 : Int32) => if inb (J14 82 32) 24 then if Int32.ofNat t.1 ≤ ((up2 J14 176 j (vp_nar .boolean q15)) (Z + 24) (J14 82 32).toNatClampNeg) then some (up2 J14 176 j (vp_nar .boolean q15)) else some (up2 (up2 J14 176 j (vp_nar .boolean q15)) (Z + 24) (J14 82 32).toNatClampNeg (Int32.ofNat t.1)) else none else some (up2 (up2 B 82 22 5) 82 5 (B (Z + 28) (f + j))) else some (up2 (up2 B 82 22 5) 82 5 (B (Z + 28) (f + j))) := by
      have if24 : inb (Int32.ofNat (f + j)) 2400 := (i32_inb (by omega)).mpr (by omega)
      have cf : (Int32.ofNat (f + j)).toNatClampNeg = f + j := i32_cl (by omega)
      unfold x227 x228
      rw [if_pos g2]
      simp only [v6, if_pos im, cm, v9, if_neg hne, if_pos ij, cj, v10, i32_a, if_pos if24, cf, nar1.1, if_pos g2, Option.bind_some, Lt]
      by_cases y : B 175 j = 0
      · simp only [if_pos y, Option.bind_some]
        refine congrArg _ (funext fun q4 => ?_)
        refine congrArg _ (funext fun q8 => ?_)
        by_cases hx : inb (up2 (up2 (up2 q4.2 175 j 1) 177 j (Int32.ofNat t.1)) 178 j (Int32.ofNat t.2) 82 32) 24
        · simp only [if_pos hx]
        · simp only [if_neg hx]
      · simp only [if_neg y, Option.bind_some]
        by_cases y1 : B 177 j = Int32.ofNat t.1
        · simp only [if_pos y1]
          by_cases y2 : B 178 j = Int32.ofNat t.2
          · simp only [if_pos y2]
            refine congrArg _ (funext fun q4 => ?_)
            refine congrArg _ (funext fun q8 => ?_)
            by_cases hx : inb (up2 (up2 (up2 q4.2 175 j 1) 177 j (Int32.ofNat t.1)) 178 j (Int32.ofNat t.2) 82 32) 24
            · simp only [if_pos hx]
            · simp only [if_neg hx]
          · simp only [if_neg y2]
        · simp only [if_neg y1]
    cases hV : V j with
    | none =>
      obtain ⟨w7, w8, w9, w10⟩ := w5 hV
      rw [hV] at w1 w2
      have w1 : A 60 (7 * j) = 0 := w1
      have w2 : B 175 j = 0 := w2
      -- the class
      generalize hJ : up2 (up2 (up2 (up2 (up2 A 60 (7 * j) 1) 60 (7 * j + 2) (Int32.ofNat t.1)) 60 (7 * j + 3) (Int32.ofNat t.2)) (P + 8) (16 * m + 9) (Int32.ofNat (max d t.1))) 60 (7 * j + 1) 1 = J
      have fJ : ∀ a b, a ≠ 60 → (a ≠ P + 8 ∨ b ≠ 16 * m + 9) → J a b = A a b := fun a b z1 z2 => by rw [← hJ]; simp (disch := omega) only [up2_o]
      obtain ⟨A', a1, a2, a3, a4, a5, a6⟩ := x102_l (A := J) (l := l) (l' := (0, 0, 0)) (j := j) (by omega) ⟨by rw [fJ _ _ (by omega) (by omega)]; exact hl.1, by rw [fJ _ _ (by omega) (by omega)]; exact hl.2.1, by rw [fJ _ _ (by omega) (by omega)]; exact hl.2.2⟩ hlo ⟨by decide, by decide, by decide⟩ (by rw [← hJ]; simp (disch := omega) only [up2_o]; exact w8) (by rw [← hJ]; simp (disch := omega) only [up2_o]; exact w9) (by rw [← hJ]; simp (disch := omega) only [up2_o]; exact w10)
      have o0 : orl (0, 0, 0) l = l := by unfold orl; simp
      rw [o0] at a2 a3 a4
      have c01 : A' 60 (7 * j + 1) = 1 := by
        rw [a5]
        split
        · rw [← hJ, up2_s]
        · rfl
      -- the reference
      obtain ⟨v, B1, r1, r2, r3, r4, r5⟩ := l227_l (Z := Z) (b2 := Int32.ofNat t.1) (b3 := Int32.ofNat t.2) (j := j) (w := wvl l) (by omega) 16 0 100000 1 B (by omega) (by omega) (Or.inr rfl) hw (fun k => wvl_8) (Or.inl w2) (fun _ => 0) (fun _ => by decide) (fun _ _ => rfl) (fun y => by rw [w2] at y; exact absurd y (by decide))
      have hv1 : v = 1 := by
        rcases r2 with y | y
        · exact absurd (r3.mp y).1 (by decide)
        · exact y
      have gB : ∀ a b, a ≠ 179 → B1 a b = B a b := fun a b y => r5 a b (Or.inl y)
      generalize hK : up2 (up2 (up2 (up2 B1 175 j 1) 177 j (Int32.ofNat t.1)) 178 j (Int32.ofNat t.2)) 176 j 1 = K
      have fK : ∀ a b, (a < 175 ∨ 179 < a) → K a b = B a b := fun a b y => by rw [← hK]; simp (disch := omega) only [up2_o]; exact gB a b (by omega)
      have hBx : x227 Z B (Int32.ofNat j) (Int32.ofNat t.1) (Int32.ofNat t.2) = if Int32.ofNat t.1 ≤ Int32.ofNat d then some K else some (up2 K (Z + 24) m (Int32.ofNat t.1)) := by
        have r1' : l227_116 Z (Int32.ofNat j) (Int32.ofNat t.1) (Int32.ofNat t.2) 100000 1 0 B = some (v, B1) := r1
        rw [hB0, if_pos w2, r1', Option.bind_some]
        dsimp only [Lt]
        have e1 : ∀ x : Int32, (if x = 0 then if v = 0 then some (0 : Int32) else some 1 else some 1) = some 1 := fun x => by rw [hv1]; split <;> rfl
        rw [e1, Option.bind_some, nar1.1, hK]
        have e2 : up2 (up2 (up2 B1 175 j 1) 177 j (Int32.ofNat t.1)) 178 j (Int32.ofNat t.2) 82 32 = Int32.ofNat m := by
          simp (disch := omega) only [up2_o]
          rw [gB _ _ (by omega)]
          exact v6
        simp only [e2, if_pos im, cm]
        rw [fK _ _ (by omega), v4]
      obtain ⟨B', hB1, hB2, hB3⟩ : ∃ B', x227 Z B (Int32.ofNat j) (Int32.ofNat t.1) (Int32.ofNat t.2) = some B' ∧ (∀ a b, (a ≠ Z + 24 ∨ b ≠ m) → B' a b = K a b) ∧ B' (Z + 24) m = Int32.ofNat (max d t.1) := by
        rw [hBx]
        by_cases y : t.1 ≤ d
        · rw [if_pos ((i32_le (by omega) (by omega)).mpr y)]
          exact ⟨K, rfl, fun _ _ _ => rfl, by rw [fK _ _ (by omega), v4, Nat.max_eq_left y]⟩
        · rw [if_neg (by rw [i32_le (by omega) (by omega)]; exact y)]
          exact ⟨_, rfl, fun a b z => up2_o (by omega), by rw [up2_s, Nat.max_eq_right (by omega)]⟩
      have hxA : x101 P A (Int32.ofNat j) = some A' := by
        rw [hA0, if_pos w1]
        dsimp only [Lt]
        rw [hJ, a1]
      have fA' : ∀ a b, a ≠ 60 → (a ≠ P + 8 ∨ b ≠ 16 * m + 9) → A' a b = A a b := fun a b z1 z2 => by rw [a6 a b (by omega), fJ a b z1 z2]
      have fB' : ∀ a b, (a < 175 ∨ 179 < a) → (a ≠ Z + 24 ∨ b ≠ m) → B' a b = B a b := fun a b z1 z2 => by rw [hB2 a b z2, fK a b z1]
      refine ⟨A', B', hxA, hB1, fun a b z1 z2 z3 => fA' a b z1 z2, fun a b z1 z2 z3 => fB' a b z1 z2, Or.inr ⟨⟨by rw [fA' _ _ (by omega) (by omega)]; exact g1, by rw [fB' _ _ (by omega) (by omega)]; exact g2⟩, hj, upV V j (t, l), upN N j true, max d t.1, Or.inl ⟨hV, rfl, rfl, rfl⟩, ?_, by omega, ?_, hB3, ?_, ?_, ?_, ?_, ?_, ?_, v11, v12, v13⟩⟩
      · intro i hi
        by_cases y : i = j
        · subst y
          have eV : upV V i (t, l) i = some (t, l) := if_pos rfl
          have eN : upN N i true i = true := if_pos rfl
          unfold V1
          rw [eV, eN]
          refine ⟨?_, ?_, c01, ?_, fun y => (nomatch y), fun t0 l0 y => ?_⟩
          · rw [a6 _ _ (by omega), ← hJ]; simp (disch := omega) only [up2_o, up2_s]; rfl
          · rw [hB2 _ _ (by omega), ← hK]; simp (disch := omega) only [up2_o, up2_s]; rfl
          · rw [hB2 _ _ (by omega), ← hK, up2_s]; rfl
          · cases y
            refine ⟨ht, h16, hlo, by omega, ?_, ?_, a2, a3, a4, ?_, ?_, fun k hk => ?_⟩
            · rw [a6 _ _ (by omega), ← hJ]; simp (disch := omega) only [up2_o, up2_s]
            · rw [a6 _ _ (by omega), ← hJ]; simp (disch := omega) only [up2_o, up2_s]
            · rw [hB2 _ _ (by omega), ← hK]; simp (disch := omega) only [up2_o, up2_s]
            · rw [hB2 _ _ (by omega), ← hK]; simp (disch := omega) only [up2_o, up2_s]
            · rw [hB2 _ _ (by omega), ← hK]
              simp (disch := omega) only [up2_o]
              rw [r4 k (by omega) hk, Nat.zero_or]
        · refine (v1 i hi).of (if_neg y) (if_neg y) (by omega) (fun q z1 z2 => ?_) (fun p q z1 z2 z3 => ?_) (fun q z1 z2 => ?_)
          · rw [a6 _ _ (by omega), ← hJ]; simp (disch := omega) only [up2_o]
          · rw [hB2 _ _ (by omega), ← hK]; simp (disch := omega) only [up2_o]; exact gB _ _ (by omega)
          · rw [hB2 _ _ (by omega), ← hK]; simp (disch := omega) only [up2_o]; exact r5 _ _ (by omega)
      · rw [a6 _ _ (by omega), ← hJ]; simp (disch := omega) only [up2_o, up2_s]
      · rw [fA' _ _ (by omega) (by omega)]; exact v5
      · rw [fB' _ _ (by omega) (by omega)]; exact v6
      · rw [fA' _ _ (by omega) (by omega)]; exact v7
      · rw [fA' _ _ (by omega) (by omega)]; exact v8
      · rw [fB' _ _ (by omega) (by omega)]; exact v9
      · rw [fB' _ _ (by omega) (by omega)]; exact v10
    | some e =>
      obtain ⟨t', l'⟩ := e
      obtain ⟨s1, s2, s3, s4, s5, s6, s7, s8, s9, s10, s11, s12⟩ := w6 t' l' hV
      rw [hV] at w1 w2
      have w1 : A 60 (7 * j) = 1 := w1
      have w2 : B 175 j = 1 := w2
      have b21 := p20 s1.1
      have s1' := s1.2
      rw [hA0, if_neg (show ¬ A 60 (7 * j) = 0 by rw [w1]; decide), hB0, if_neg (show ¬ B 175 j = 0 by rw [w2]; decide), s5, s6, s10, s11]
      have flt : ∃ A' B', some (up2 A 58 6 (A 53 (3 * (f + j)))) = some A' ∧ some (up2 (up2 B 82 22 5) 82 5 (B (Z + 28) (f + j))) = some B' ∧ CfA P m A A' ∧ CfB Z m B B' ∧ (FS A' B' ∨ (GS A' B' ∧ j < z ∧ ∃ V' N' d', Cme V N d j t l V' N' d' ∧ VC P Z m z f V' N' d' A' B')) := by
        obtain ⟨e1, q, e2, e3⟩ := hpl j hj
        refine ⟨_, _, rfl, rfl, fun a b z1 z2 z3 => up2_o (by omega), fun a b z1 z2 z3 => by rw [up2_o (by omega), up2_o (by omega)], Or.inl ⟨q, e2, by rw [up2_s, e1, e3], by rw [up2_o (by omega), up2_s], by rw [up2_s, e3]⟩⟩
      by_cases y1 : t'.1 = t.1
      · by_cases y2 : t'.2 = t.2
        · obtain rfl : t' = t := Prod.ext y1 y2
          rw [if_pos rfl, if_pos rfl, if_pos rfl, if_pos rfl]
          obtain ⟨A', a1, a2, a3, a4, a5, a6⟩ := x102_l (A := A) (l := l) (l' := l') (j := j) (by omega) hl hlo s3 s7 s8 s9
          obtain ⟨v, B1, r1, r2, r3, r4, r5⟩ := l227_l (Z := Z) (b2 := Int32.ofNat t'.1) (b3 := Int32.ofNat t'.2) (j := j) (w := wvl l) (by omega) 16 0 100000 0 B (by omega) (by omega) (Or.inl rfl) hw (fun k => wvl_8) (Or.inr w2) (fun k => wvl l' k) (fun _ => wvl_8) (fun y => by rw [w2] at y; exact absurd y (by decide)) (fun y k' z1 z2 => s12 k' z2)
          have hv0 : v = 0 ↔ orl l' l = l' := by
            rw [r3]
            constructor
            · rintro ⟨-, y⟩
              exact wvl_eq (orl_ok s3 hlo) s3 (fun k hk => by rw [wvl_or]; exact y k (by omega) hk)
            · intro y
              exact ⟨rfl, fun k' z1 z2 => by rw [← wvl_or, y]⟩
          have gB : ∀ a b, a ≠ 179 → B1 a b = B a b := fun a b y => r5 a b (Or.inl y)
          have hN' : (if B 176 j = 0 then if v = 0 then some (0 : Int32) else some 1 else some 1) = some (b01 (N j || decide (orl l' l ≠ l'))) := by
            rw [w4]
            cases hn : N j with
            | true => rfl
            | false =>
              by_cases y : orl l' l = l'
              · rw [if_pos (show b01 false = 0 from rfl), if_pos (hv0.mpr y), y]; simp; rfl
              · rw [if_pos (show b01 false = 0 from rfl), if_neg (fun x => y (hv0.mp x))]; simp [y]; rfl
          generalize hnn : (N j || decide (orl l' l ≠ l')) = nn at hN'
          generalize hK : up2 (up2 (up2 (up2 B1 175 j 1) 177 j (Int32.ofNat t'.1)) 178 j (Int32.ofNat t'.2)) 176 j (b01 nn) = K
          have fK : ∀ a b, (a < 175 ∨ 179 < a) → K a b = B a b := fun a b y => by rw [← hK]; simp (disch := omega) only [up2_o]; exact gB a b (by omega)
          have hnar : vp_nar .boolean (b01 nn) = b01 nn := by cases nn <;> decide
          have hBx : ((l227_116 Z (Int32.ofNat j) (Int32.ofNat t'.1) (Int32.ofNat t'.2) 100000 0 0 B).bind fun q11 => Lt (up2 (up2 (up2 q11.2 175 j 1) 177 j (Int32.ofNat t'.1)) 178 j (Int32.ofNat t'.2)) fun J14 => (if (J14 176 j) = 0 then if q11.1 = 0 then some 0 else some 1 else some 1).bind fun (q15 : Int32) => if inb (J14 82 32) 24 then if Int32.ofNat t'.1 ≤ ((up2 J14 176 j (vp_nar .boolean q15)) (Z + 24) (J14 82 32).toNatClampNeg) then some (up2 J14 176 j (vp_nar .boolean q15)) else some (up2 (up2 J14 176 j (vp_nar .boolean q15)) (Z + 24) (J14 82 32).toNatClampNeg (Int32.ofNat t'.1)) else none) = some K := by
            have r1' : l227_116 Z (Int32.ofNat j) (Int32.ofNat t'.1) (Int32.ofNat t'.2) 100000 0 0 B = some (v, B1) := r1
            rw [r1', Option.bind_some]
            dsimp only [Lt]
            have e0 : up2 (up2 (up2 B1 175 j 1) 177 j (Int32.ofNat t'.1)) 178 j (Int32.ofNat t'.2) 176 j = B 176 j := by
              simp (disch := omega) only [up2_o]
              exact gB _ _ (by omega)
            have e2 : up2 (up2 (up2 B1 175 j 1) 177 j (Int32.ofNat t'.1)) 178 j (Int32.ofNat t'.2) 82 32 = Int32.ofNat m := by
              simp (disch := omega) only [up2_o]
              rw [gB _ _ (by omega)]
              exact v6
            simp only [e0]
            rw [hN', Option.bind_some, hnar, hK]
            simp only [e2, if_pos im, cm]
            rw [fK _ _ (by omega), v4, if_pos ((i32_le (by omega) (by omega)).mpr s4)]
          have fA' : ∀ a b, a ≠ 60 → A' a b = A a b := fun a b z1 => a6 a b (by omega)
          refine ⟨A', K, a1, hBx, fun a b z1 z2 z3 => fA' a b z1, fun a b z1 z2 z3 => fK a b z1, Or.inr ⟨⟨by rw [fA' _ _ (by omega)]; exact g1, by rw [fK _ _ (by omega)]; exact g2⟩, hj, upV V j (t', orl l' l), upN N j nn, d, Or.inr ⟨l', hV, rfl, by rw [hnn], rfl⟩, ?_, v2, ?_, ?_, ?_, ?_, ?_, ?_, ?_, ?_, v11, v12, v13⟩⟩
          · intro i hi
            by_cases y : i = j
            · subst y
              have eV : upV V i (t', orl l' l) i = some (t', orl l' l) := if_pos rfl
              have eN : upN N i nn i = nn := if_pos rfl
              unfold V1
              rw [eV, eN]
              refine ⟨?_, ?_, ?_, ?_, fun y => (nomatch y), fun t0 l0 y => ?_⟩
              · rw [a6 _ _ (by omega)]; exact w1
              · rw [← hK]; simp (disch := omega) only [up2_o, up2_s]; rfl
              · rw [a5, w3, ← hnn]
                by_cases x : orl l' l = l'
                · rw [if_pos x]; simp [x]
                · rw [if_neg x]; simp [x]; rfl
              · rw [← hK, up2_s]
              · cases y
                refine ⟨ht, h16, orl_ok s3 hlo, s4, ?_, ?_, a2, a3, a4, ?_, ?_, fun k hk => ?_⟩
                · rw [a6 _ _ (by omega)]; exact s5
                · rw [a6 _ _ (by omega)]; exact s6
                · rw [← hK]; simp (disch := omega) only [up2_o, up2_s]
                · rw [← hK]; simp (disch := omega) only [up2_o, up2_s]
                · rw [← hK]
                  simp (disch := omega) only [up2_o]
                  rw [r4 k (by omega) hk, wvl_or]
            · refine (v1 i hi).of (if_neg y) (if_neg y) (Nat.le_refl _) (fun q z1 z2 => ?_) (fun p q z1 z2 z3 => ?_) (fun q z1 z2 => ?_)
              · exact a6 _ _ (by omega)
              · rw [← hK]; simp (disch := omega) only [up2_o]; exact gB _ _ (by omega)
              · rw [← hK]; simp (disch := omega) only [up2_o]; exact r5 _ _ (by omega)
          · rw [fA' _ _ (by omega)]; exact v3
          · rw [fK _ _ (by omega)]; exact v4
          · rw [fA' _ _ (by omega)]; exact v5
          · rw [fK _ _ (by omega)]; exact v6
          · rw [fA' _ _ (by omega)]; exact v7
          · rw [fA' _ _ (by omega)]; exact v8
          · rw [fK _ _ (by omega)]; exact v9
          · rw [fK _ _ (by omega)]; exact v10
        · rw [if_pos (by rw [y1]), if_neg (by rw [i32_eq (by omega) (by omega)]; exact y2), if_pos (by rw [y1]), if_neg (by rw [i32_eq (by omega) (by omega)]; exact y2)]
          exact flt
      · rw [if_neg (by rw [i32_eq (by omega) (by omega)]; exact y1), if_neg (by rw [i32_eq (by omega) (by omega)]; exact y1)]
        exact flt
end
