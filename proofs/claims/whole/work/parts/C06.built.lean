/-! THE REFERENCE'S first seven names -/
def fO (c : Nat) : Nat := [0, 4, 10, 20, 32, 42, 54, 64].getD c 64
def fL (c : Nat) : Nat := [3, 5, 9, 11, 9, 11, 9].getD c 0
def fU (c : Nat) : Nat := [0, 3, 8, 17, 28, 37, 48, 57].getD c 57
def fP (c : Nat) : Int32 := if c = 0 then -1 else if c = 1 then 0 else 1
theorem f_nx : ∀ c, c < 7 → fO c + (fL c + 1) = fO (c + 1) ∧ fU c + fL c = fU (c + 1) ∧ fO c + fL c < 64 ∧ fU c + fL c ≤ 57 ∧ (wl2.getD c []).length = fL c ∧ (xTL.getD 2 []).getD (fO c + fL c) 0 = 32 := by decide +kernel
theorem f_ch : ∀ c, c < 7 → ∀ q, q < fL c → (xTL.getD 2 []).getD (fO c + q) 0 ≠ 32 ∧ vp_nar .byte (i2b ((xTL.getD 2 []).getD (fO c + q) 0)) = i2b (Int32.ofNat ((wl2.getD c []).getD q 0)) ∧ (wl2.getD c []).getD q 0 < 256 := by decide +kernel
section
variable {Z : Nat}
theorem l185_i {o u len : Nat} (h64 : o + len < 64) (hu : u + len ≤ 4100) (hz : 85 ≤ Z) (he : (xTL.getD 2 []).getD (o + len) 0 = 32) (hn : ∀ q, q < len → (xTL.getD 2 []).getD (o + q) 0 ≠ 32) : ∀ d j f (I : St), j + d = len → d < f → I Z 4 = Int32.ofNat (u + j) → ∃ J, l185_25 Z (Int32.ofNat o) f (Int32.ofNat j) I = some (Int32.ofNat len, J) ∧ J Z 4 = Int32.ofNat (u + len) ∧ (∀ a b, (a ≠ Z ∨ b ≠ 4) → (a ≠ Z + 1 ∨ b < u + j ∨ u + len ≤ b) → J a b = I a b) ∧ ∀ q, j ≤ q → q < len → J (Z + 1) (u + q) = vp_nar .byte (i2b ((xTL.getD 2 []).getD (o + q) 0)) := by
  intro d
  induction d with
  | zero =>
    intro j f I h1 h2 h3
    obtain ⟨f, rfl⟩ : ∃ x, f = x + 1 := ⟨f - 1, by omega⟩
    obtain rfl : j = len := by omega
    have hi : inb (Int32.ofNat (o + j)) 64 := (i32_inb (by omega)).mpr (by omega)
    have hc : (Int32.ofNat (o + j)).toNatClampNeg = o + j := i32_cl (by omega)
    refine ⟨I, ?_, h3, fun _ _ _ _ => rfl, fun q y1 y2 => by omega⟩
    rw [l185_25, i32_a]
    simp only [if_pos hi, hc, he, if_true]
  | succ d ih =>
    intro j f I h1 h2 h3
    obtain ⟨f, rfl⟩ : ∃ x, f = x + 1 := ⟨f - 1, by omega⟩
    have hi : inb (Int32.ofNat (o + j)) 64 := (i32_inb (by omega)).mpr (by omega)
    have hc : (Int32.ofNat (o + j)).toNatClampNeg = o + j := i32_cl (by omega)
    have hi2 : inb (Int32.ofNat (u + j)) 4100 := (i32_inb (by omega)).mpr (by omega)
    have hc2 : (Int32.ofNat (u + j)).toNatClampNeg = u + j := i32_cl (by omega)
    generalize hv : vp_nar .byte (i2b ((xTL.getD 2 []).getD (o + j) 0)) = v
    obtain ⟨J, j1, j2, j3, j4⟩ := ih (j + 1) f (up2 (up2 I (Z + 1) (u + j) v) Z 4 (Int32.ofNat (u + (j + 1)))) (by omega) (by omega) (up2_s _ _ _ _)
    refine ⟨J, ?_, j2, fun a b y1 y2 => by rw [j3 a b y1 (by omega), up2_o (by omega), up2_o (by omega)], fun q y1 y2 => ?_⟩
    · rw [l185_25, i32_a, h3]
      have e4 : up2 I (Z + 1) (u + j) v Z 4 = Int32.ofNat (u + j) := by rw [up2_o (by omega)]; exact h3
      simp only [if_pos hi, hc, if_neg (hn j (by omega)), if_pos hi2, hc2, Lt, hv, e4, i32_s]
      exact j1
    · by_cases z : q = j
      · subst z
        rw [j3 _ _ (by omega) (by omega), up2_o (by omega), up2_s, hv]
      · exact j4 q (by omega) y2
/-- c classes are built -/
def Bu (Z c : Nat) (I0 I : St) : Prop := I Z 3 = Int32.ofNat c ∧ I Z 4 = Int32.ofNat (fU c) ∧ I Z 5 = Int32.ofNat c ∧ (∀ x, x < c → I (Z + 2) x = Int32.ofNat (fU x) ∧ I (Z + 3) x = Int32.ofNat (fL x) ∧ (∀ q, q < fL x → I (Z + 1) (fU x + q) = i2b (Int32.ofNat ((wl2.getD x []).getD q 0))) ∧ I (Z + 4) x = Int32.ofNat x ∧ I (Z + 8) x = fP x) ∧ ∀ a b, (a ≠ Z ∨ b < 3 ∨ 5 < b) → (a < Z + 1 ∨ Z + 8 < a ∨ a = Z + 5 ∨ a = Z + 7) → I a b = I0 a b
theorem f_le : ∀ c, c < 8 → ∀ x, x < c → fU x + fL x ≤ fU c ∧ fU c ≤ 57 := by decide
theorem l185_o (hz : 85 ≤ Z) {I0 : St} : ∀ d c f (I : St), c + d = 7 → d < f → Bu Z c I0 I → ∃ J, l185_14 Z f (Int32.ofNat (fO c)) I = some J ∧ Bu Z 7 I0 J := by
  intro d
  induction d with
  | zero =>
    intro c f I h1 h2 h3
    obtain ⟨f, rfl⟩ : ∃ x, f = x + 1 := ⟨f - 1, by omega⟩
    obtain rfl : c = 7 := by omega
    exact ⟨I, by rw [l185_14, if_pos (by decide)], h3⟩
  | succ d ih =>
    intro c f I h1 h2 h3
    obtain ⟨f, rfl⟩ : ∃ x, f = x + 1 := ⟨f - 1, by omega⟩
    obtain ⟨b1, b2, b3, b4, b5⟩ := h3
    obtain ⟨n1, n2, n3, n4, n5, n6⟩ := f_nx c (by omega)
    have hch := f_ch c (by omega)
    obtain ⟨J, j1, j2, j3, j4⟩ := l185_i (u := fU c) n3 (by omega) hz n6 (fun q hq => (hch q hq).1) (fL c) 0 100000 I (by omega) (by omega) b2
    have e5 : J Z 5 = Int32.ofNat c := by rw [j3 _ _ (by omega) (by omega)]; exact b3
    have e3 : J Z 3 = Int32.ofNat c := by rw [j3 _ _ (by omega) (by omega)]; exact b1
    have hi : inb (Int32.ofNat c) 2000 := (i32_inb (by omega)).mpr (by omega)
    have hi2 : inb (Int32.ofNat c) 19 := (i32_inb (by omega)).mpr (by omega)
    have hc : (Int32.ofNat c).toNatClampNeg = c := i32_cl (by omega)
    have eP : (if Int32.ofNat c = 0 then some (-1 : Int32) else if Int32.ofNat c = 1 then some 0 else some 1) = some (fP c) := by
      have : ∀ c, c < 7 → (if Int32.ofNat c = 0 then some (-1 : Int32) else if Int32.ofNat c = 1 then some 0 else some 1) = some (fP c) := by decide
      exact this c (by omega)
    generalize hY : up2 (up2 (up2 (up2 (up2 (up2 (up2 J (Z + 2) c (Int32.ofNat (fU c))) (Z + 3) c (Int32.ofNat (fL c))) Z 3 (Int32.ofNat (c + 1))) Z 5 (Int32.ofNat (c + 1))) (Z + 4) c (Int32.ofNat c)) (Z + 8) c (fP c)) (Z + 6) c (-1) = Y
    have hlo : ¬ (64 : Int32) ≤ Int32.ofNat (fO c) := by rw [i32_l2 (x := 64) (b := 64) rfl (by omega) (by decide)]; omega
    have e0 : l185_14 Z (f + 1) (Int32.ofNat (fO c)) I = l185_14 Z f (Int32.ofNat (fO (c + 1))) Y := by
      rw [show Int32.ofNat 0 = (0 : Int32) from rfl] at j1
      rw [l185_14, if_neg hlo, j1, Option.bind_some]
      dsimp only [Lt]
      have ed : Int32.ofNat (fU c + fL c) - Int32.ofNat (fL c) = Int32.ofNat (fU c) := by rw [i32_sb (by omega)]; congr 1; omega
      simp (disch := omega) only [e5, if_pos hi, if_pos hi2, hc, j2, ed, up2_o, e3, i32_s, eP, Option.bind_some, i32_a, n1, hY]
    rw [e0]
    refine ih (c + 1) f Y (by omega) (by omega) ⟨?_, ?_, ?_, fun x hx => ?_, fun a b y1 y2 => ?_⟩
    · rw [← hY]; simp (disch := omega) only [up2_o, up2_s]
    · rw [← hY]; simp (disch := omega) only [up2_o]; rw [j2, n2]
    · rw [← hY]; simp (disch := omega) only [up2_o, up2_s]
    · by_cases z : x = c
      · subst z
        refine ⟨?_, ?_, fun q hq => ?_, ?_, ?_⟩
        · rw [← hY]; simp (disch := omega) only [up2_o, up2_s]
        · rw [← hY]; simp (disch := omega) only [up2_o, up2_s]
        · rw [← hY]; simp (disch := omega) only [up2_o]; rw [j4 q (by omega) hq, (hch q hq).2.1]
        · rw [← hY]; simp (disch := omega) only [up2_o, up2_s]
        · rw [← hY]; simp (disch := omega) only [up2_o, up2_s]
      · obtain ⟨w1, w2, w3, w4, w5⟩ := b4 x (by omega)
        have hfl := (f_le c (by omega) x (by omega)).1
        refine ⟨?_, ?_, fun q hq => ?_, ?_, ?_⟩
        · rw [← hY]; simp (disch := omega) only [up2_o]; rw [j3 _ _ (by omega) (by omega)]; exact w1
        · rw [← hY]; simp (disch := omega) only [up2_o]; rw [j3 _ _ (by omega) (by omega)]; exact w2
        · rw [← hY]; simp (disch := omega) only [up2_o]; rw [j3 _ _ (by omega) (by omega)]; exact w3 q hq
        · rw [← hY]; simp (disch := omega) only [up2_o]; rw [j3 _ _ (by omega) (by omega)]; exact w4
        · rw [← hY]; simp (disch := omega) only [up2_o]; rw [j3 _ _ (by omega) (by omega)]; exact w5
    · rw [← hY]; simp (disch := omega) only [up2_o]; rw [j3 _ _ (by omega) (by omega)]; exact b5 a b y1 y2
theorem wl2_nd : wl2.Nodup ∧ wl2.length = 7 := by decide +kernel
theorem x185_n (hz : 85 ≤ Z) (I : St) : ∃ J, x185 Z I = some J ∧ RN Z wl2 57 J ∧ J Z 5 = 7 ∧ (∀ b, 6 ≤ b → b ≤ 11 → J Z b = 0) ∧ (∀ x, x < 7 → J (Z + 4) x = Int32.ofNat x ∧ J (Z + 8) x = fP x) ∧ ∀ a b, a ≠ Z → (a < Z + 1 ∨ Z + 8 < a ∨ a = Z + 5 ∨ a = Z + 7) → J a b = I a b := by
  generalize hI : up2 (up2 (up2 (up2 (up2 (up2 (up2 (up2 (up2 I Z 3 0) Z 4 0) Z 5 0) Z 6 0) Z 7 0) Z 8 0) Z 9 0) Z 10 0) Z 11 0 = I0
  have h0 : Bu Z 0 I0 I0 := ⟨by rw [← hI]; simp (disch := omega) only [up2_o, up2_s]; rfl, by rw [← hI]; simp (disch := omega) only [up2_o, up2_s]; rfl, by rw [← hI]; simp (disch := omega) only [up2_o, up2_s]; rfl, fun x hx => by omega, fun _ _ _ _ => rfl⟩
  obtain ⟨J, j1, b1, b2, b3, b4, b5⟩ := l185_o hz 7 0 100000 I0 (by omega) (by omega) h0
  refine ⟨J, ?_, ⟨by rw [b1, wl2_nd.2], b2, by rw [wl2_nd.2]; decide, by decide, wl2_nd.1, fun i s hi => ?_⟩, b3, fun b w1 w2 => ?_, fun x hx => ⟨(b4 x hx).2.2.2.1, (b4 x hx).2.2.2.2⟩, fun a b w1 w2 => ?_⟩
  · unfold x185 x186 Lt
    dsimp only
    rw [hI, Option.bind_some, show (0 : Int32) = Int32.ofNat (fO 0) from rfl, j1]; rfl
  · have hi7 : i < 7 := by
      have := List.getElem?_eq_some_iff.mp hi
      obtain ⟨w, -⟩ := this
      rw [wl2_nd.2] at w; exact w
    obtain ⟨w1, w2, w3, -, -⟩ := b4 i hi7
    have es : wl2.getD i [] = s := by rw [List.getD_eq_getElem?_getD, hi]; rfl
    obtain ⟨-, -, -, n4, n5, -⟩ := f_nx i hi7
    rw [es] at n5 w3
    refine ⟨fU i, w1, by rw [n5]; exact n4, by rw [n5]; exact w2, fun j hj => ⟨w3 j (by omega), ?_⟩⟩
    have := (f_ch i hi7 j (by omega)).2.2
    rw [es] at this; exact this
  · rw [b5 _ _ (by omega) (by omega), ← hI]
    obtain rfl | rfl | rfl | rfl | rfl | rfl : b = 6 ∨ b = 7 ∨ b = 8 ∨ b = 9 ∨ b = 10 ∨ b = 11 := by omega
    all_goals simp (disch := omega) only [up2_o, up2_s]
  · rw [b5 _ _ (by omega) w2, ← hI]; simp (disch := omega) only [up2_o]
end
