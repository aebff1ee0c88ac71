/-! ANSWERS: object, slot, stat, type, method, count -/
section
variable {P Z n k s : Nat} {E F G p : Nat → Nat} {A B : St}
theorem obj_l (h : Run1 P Z n s E p A B) (a w : Int32) : x268 B a w = some (x175 A a w) := by
  unfold x175 x268
  rcases h with ⟨h1, h2⟩ | ⟨h1, h2, oa, os, hk, NO, U, EV, e, c', ⟨g1, g2, g3, g4, g5, g6, g7, g8⟩, -⟩
  · rw [h1, h2, if_pos rfl, if_pos rfl]
  · rw [h1, h2, if_neg (show ¬ (1 : Int32) = 0 by decide), if_neg (show ¬ (1 : Int32) = 0 by decide)]
    rcases ix_l (N := NO) (by omega) a with y | ⟨i, y, rfl⟩
    · rw [thol_o g1 y, if_pos rfl]
      rcases y with y | ⟨y1, y2⟩
      · rw [if_pos y]
      · rw [if_neg (nn0 y1), g2, if_neg (Int32.not_lt.mpr y2)]
    · rw [thol_i g1 (by omega) y, if_neg (show ¬ (1 : Int32) = 0 by decide), if_neg (nn0 ((i32_l2 (x := 0) (b := 0) rfl (by omega) (by decide)).mpr (by omega))), g2, if_pos ((i32_lt (by omega) (by omega)).mpr y)]
      have hi : inb (Int32.ofNat i) 3001 := (i32_inb (by omega)).mpr (by omega)
      have hc : (Int32.ofNat i).toNatClampNeg = i := i32_cl (by omega)
      obtain ⟨w1, w2, w3, w4, w5, w6, w7, -⟩ := g7 i y
      simp only [if_pos hi, hc]
      unfold x149 x159 x162
      simp (disch := omega) only [m70]
      rw [w1, w4, w5, w6]
      split
      · rfl
      · split
        · rfl
        · split <;> rfl
theorem sta_l (hP : Hid (P = 3 ∨ P = 18)) (hL : LPc P Z n s k E p A B) (h : Run1 P Z n s E p A B) (a w : Int32) : x272 Z B a w = some (x178 P A a w) := by
  unfold x178 x272
  have s16 := hL.2.2.2.2.2.1
  have hA3 := hL.2.2.2.2.2.2.2.2.2.2.2.2.2.1
  have hB6 := hL.2.2.2.2.2.2.2.2.2.2.2.2.2.2.1
  have hkd := hL.2.2.2.2.2.2.2.2.2.2.2.2.2.2.2
  rcases h with ⟨h1, h2⟩ | ⟨h1, h2, oa, os, hk, NO, U, EV, e, c', -, g, -⟩
  · rw [h1, h2, if_pos rfl, if_pos rfl]
  · rw [h1, h2, if_neg (show ¬ (1 : Int32) = 0 by decide), if_neg (show ¬ (1 : Int32) = 0 by decide)]
    rcases ix_l (N := s) (by omega) a with y | ⟨i, y, rfl⟩
    · rw [thol_o hA3 y, if_pos rfl]
      rcases y with y | ⟨y1, y2⟩
      · rw [if_pos y]
      · rw [if_neg (nn0 y1), hB6, if_pos y2]
    · rw [thol_i hA3 (by omega) y, if_neg (show ¬ (1 : Int32) = 0 by decide), if_neg (nn0 ((i32_l2 (x := 0) (b := 0) rfl (by omega) (by decide)).mpr (by omega))), hB6, if_neg (by rw [i32_le (by omega) (by omega)]; omega)]
      have hi : inb (Int32.ofNat i) 16 := (i32_inb (by omega)).mpr (by omega)
      have hc : (Int32.ofNat i).toNatClampNeg = i := i32_cl (by omega)
      obtain ⟨w1, w2⟩ := g i y
      simp only [if_pos hi, hc]
      simp (disch := omega) only [m74]
      have hv : (if B (Z + 14) i = 2 then some (B 187 i - 1) else some (B 187 i)) = some (A 75 (2 * i)) := by
        rcases (hkd i y).2 with z | z
        · rw [z] at w1 ⊢
          rw [if_neg (by decide), (show VR NO 1 _ _ from w1).i]
        · rw [z] at w1 ⊢
          rw [if_pos rfl]
          rcases (show VR NO 2 _ _ from w1).r with ⟨q1, q2⟩ | ⟨r, -, q1, q2⟩
          · rw [q1, q2]; rfl
          · rw [q1, q2, i32_p]
      by_cases n0 : w < 0
      · rw [if_pos n0, if_neg (fun z => by rw [z] at n0; exact absurd n0 (by decide)), if_neg (fun z => by rw [z] at n0; exact absurd n0 (by decide))]
      · rw [if_neg n0]
        obtain ⟨j, j1, rfl⟩ := i32_ge0 (Int32.not_lt.mp n0)
        by_cases y0 : j = 0
        · subst y0
          rw [if_pos (show Int32.ofNat 0 ≤ 1 by decide), if_neg (show ¬ Int32.ofNat 0 = 1 by decide), hv, if_pos (show Int32.ofNat 0 = 0 from rfl)]
        · by_cases y1 : j = 1
          · subst y1
            rw [if_pos (show Int32.ofNat 1 ≤ 1 by decide), if_pos (show Int32.ofNat 1 = 1 from rfl), if_neg (show ¬ Int32.ofNat 1 = 0 by decide), if_pos (show Int32.ofNat 1 = 1 from rfl), w2]
          · rw [if_neg (by rw [i32_l3 (x := 1) (b := 1) rfl j1 (by decide)]; omega), if_neg (by rw [i32_e (x := 0) (b := 0) rfl j1 (by decide)]; exact y0), if_neg (by rw [i32_e (x := 1) (b := 1) rfl j1 (by decide)]; exact y1)]
theorem l273_n {b2 : Int32} {c : Nat} (h8 : B Z 8 = Int32.ofNat k) (hk : k ≤ 24) : ∀ d j f, j + d = k → d < f → l273_22 Z (Int32.ofNat c) b2 f (Int32.ofNat (mcn (B (Z + 15)) (Int32.ofNat c) j)) (Int32.ofNat j) B = some (Int32.ofNat (mcn (B (Z + 15)) (Int32.ofNat c) k)) := by
  intro d
  induction d with
  | zero =>
    intro j f h1 h2
    obtain ⟨f, rfl⟩ : ∃ x, f = x + 1 := ⟨f - 1, by omega⟩
    obtain rfl : j = k := by omega
    rw [l273_22, h8, if_pos (Int32.le_refl _)]
  | succ d ih =>
    intro j f h1 h2
    obtain ⟨f, rfl⟩ : ∃ x, f = x + 1 := ⟨f - 1, by omega⟩
    have hi : inb (Int32.ofNat j) 24 := (i32_inb (by omega)).mpr (by omega)
    have hc : (Int32.ofNat j).toNatClampNeg = j := i32_cl (by omega)
    have nx := ih (j + 1) f (by omega) (by omega)
    rw [mcn] at nx
    rw [l273_22, h8, if_neg (by rw [i32_le (by omega) (by omega)]; omega), if_pos hi, hc, i32_s]
    by_cases y : B (Z + 15) j = Int32.ofNat c
    · rw [if_pos y] at nx ⊢
      rw [i32_s]; exact nx
    · rw [if_neg y] at nx ⊢
      rw [show Int32.ofNat (mcn (B (Z + 15)) (Int32.ofNat c) j) + 0 = Int32.ofNat (mcn (B (Z + 15)) (Int32.ofNat c) j) from i32_a _ 0, i32_s]; exact nx
theorem typ_l (hP : Hid (P = 3 ∨ P = 18)) (hL : Lkd P Z n k s E F G p A B) (a w : Int32) : x273 Z B a w = some (x179 P A a w) := by
  unfold x179 x273
  obtain ⟨hA3, hB5, n7, n19, k24, -, -, pa, pb, hE, -⟩ := hL.1
  have h8 := hL.2.1.2.1
  rcases ix_l (N := n) (by omega) a with y | ⟨i, y, rfl⟩
  · rw [thol_o hA3 y, if_pos rfl]
    rcases y with y | ⟨y1, y2⟩
    · rw [if_pos y]
    · rw [if_neg (nn0 y1), hB5, if_neg (Int32.not_lt.mpr y2)]
  · rw [thol_i hA3 (by omega) y, if_neg (show ¬ (1 : Int32) = 0 by decide), if_neg (nn0 ((i32_l2 (x := 0) (b := 0) rfl (by omega) (by decide)).mpr (by omega))), hB5, if_pos ((i32_lt (by omega) (by omega)).mpr y)]
    have hi : inb (Int32.ofNat i) 19 := (i32_inb (by omega)).mpr (by omega)
    have hc : (Int32.ofNat i).toNatClampNeg = i := i32_cl (by omega)
    obtain ⟨-, -, -, -, q5, q6, -⟩ := hE i y
    have el := l273_n (b2 := w) (c := i) h8 k24 k 0 100000 (by omega) (by omega)
    rw [show mcn (B (Z + 15)) (Int32.ofNat i) 0 = 0 from rfl, show Int32.ofNat 0 = (0 : Int32) from rfl] at el
    rw [el, Option.bind_some]
    simp only [if_pos hi, hc]
    simp (disch := omega) only [tP1 hP]
    have ep : B (Z + 8) i = A (P + 2) (6 * i) := by
      by_cases z : i = 0
      · subst z
        have e1 : B (Z + 8) 0 = -1 := pb.1
        have e2 : A (P + 2) (6 * 0) = -1 := pa.1
        rw [e1, e2]
      · have e1 := (pb.2 i (by omega) y).1
        have e2 : A (P + 2) (6 * i) = Int32.ofNat (p i) := (pa.2 i (by omega) y).1
        rw [e1, e2]
    rw [ep, x252_n hL.1 y, Option.bind_some, q5, q6]
    split
    · rfl
    · split
      · rfl
      · split <;> rfl
theorem met_l (hP : Hid (P = 3 ∨ P = 18)) (hL : Lkd P Z n k s E F G p A B) (hD : DpA P Z k A B) (a w : Int32) : x274 Z B a w = some (x180 P A a w) := by
  unfold x180 x274
  have k24 := hL.1.2.2.2.2.1
  obtain ⟨hA3, h8, -, -, -, -, hm, -⟩ := hL.2.1
  rcases ix_l (N := k) (by omega) a with y | ⟨i, y, rfl⟩
  · rw [thol_o hA3 y, if_pos rfl]
    rcases y with y | ⟨y1, y2⟩
    · rw [if_pos y]
    · rw [if_neg (nn0 y1), h8, if_neg (Int32.not_lt.mpr y2)]
  · rw [thol_i hA3 (by omega) y, if_neg (show ¬ (1 : Int32) = 0 by decide), if_neg (nn0 ((i32_l2 (x := 0) (b := 0) rfl (by omega) (by decide)).mpr (by omega))), h8, if_pos ((i32_lt (by omega) (by omega)).mpr y)]
    have hi : inb (Int32.ofNat i) 24 := (i32_inb (by omega)).mpr (by omega)
    have hc : (Int32.ofNat i).toNatClampNeg = i := i32_cl (by omega)
    obtain ⟨-, -, -, -, q1, q2, q3, q4, q5, q6, ⟨cc, rf, q7, q8, -⟩, -, -, q9, q10, -⟩ := hm i y
    have q11 := hD i y
    simp only [if_pos hi, hc]
    simp (disch := omega) only [tP7 hP]
    rw [q1, q3, q5, q7, q8, q9, q10, q11]
    have e25 : (if B (Z + 25) i = 0 then some (0 : Int32) else some 1) = some (B (Z + 25) i) := by
      rcases q4 with z | z <;> rw [z] <;> rfl
    rw [e25]
    split
    · rfl
    · split
      · rfl
      · split
        · rfl
        · split
          · rfl
          · split
            · rfl
            · split <;> rfl
theorem cnt_l (hL : Lkd P Z n k s E F G p A B) (h6 : A 61 0 = B 82 6) (h1 : A 1 3 = B 82 1) (a : Int32) : x275 Z B a = x181 P A a := by
  unfold x181 x275
  rw [hL.1.1, hL.1.2.1, hL.2.1.1, hL.2.1.2.1, hL.1.2.2.2.2.2.2.2.2.2.2.2.2.2.1, hL.1.2.2.2.2.2.2.2.2.2.2.2.2.2.2.1, h6, h1]
end
