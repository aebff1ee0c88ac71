/-! WHAT CALLS LEAVE; the answers that change nothing -/
def Rst (P Z n s : Nat) (E p : Nat → Nat) (A B : St) : Prop := ∃ oa os hk NO U EV e c', HpC B Z n p E oa os hk NO U A B ∧ StC B Z s NO A B ∧ EvC EV A B ∧ e < 8 ∧ A 68 14 = Int32.ofNat e ∧ B 82 34 = Int32.ofNat e ∧ A 68 17 = Int32.ofNat c' ∧ B 82 37 = Int32.ofNat c' ∧ (e = 1 → A 68 15 = B 82 35 ∧ A 68 16 = B 82 36) ∧ ((e = 2 ∨ e = 3) → A 68 15 = B 82 35 - 1 ∧ A 68 16 = B 82 36) ∧ ((e = 0 ∨ 3 < e) → A 68 15 = 0 ∧ A 68 16 = 0)
def Run1 (P Z n s : Nat) (E p : Nat → Nat) (A B : St) : Prop := (A 68 13 = 0 ∧ B 82 33 = 0) ∨ (A 68 13 = 1 ∧ B 82 33 = 1 ∧ Rst P Z n s E p A B)
section
variable {P Z n k s : Nat} {E F G p : Nat → Nat} {A B : St}
theorem res_l (h : Run1 P Z n s E p A B) (a : Int32) : x172 A a = x266 B a := by
  unfold x172 x266
  rcases h with ⟨h1, h2⟩ | ⟨h1, h2, oa, os, hk, NO, U, EV, e, c', ⟨g1, g2, g3, g4, g5, g6, -⟩, -, ⟨v1, v2, v3, v4, -⟩, e8, e1, e2, e3, e4, e5, e6, e7⟩
  · rw [h1, h2, if_pos rfl, if_pos rfl]
  · have eq1 : ∀ j, j < 8 → ((Int32.ofNat e = Int32.ofNat j) = (e = j)) := fun j hj => propext (i32_eq (by omega) (by omega))
    have q1 : (Int32.ofNat e = 1) = (e = 1) := eq1 1 (by decide)
    have q2 : (Int32.ofNat e = 2) = (e = 2) := eq1 2 (by decide)
    have q3 : (Int32.ofNat e = 3) = (e = 3) := eq1 3 (by decide)
    have q4 : (Int32.ofNat e < 1) = (e < 1) := propext (i32_l1 rfl (by omega) (by decide))
    have q5 : (3 < Int32.ofNat e) = (3 < e) := propext (i32_l4 rfl (by omega) (by decide))
    rw [h1, h2, if_neg (show ¬ (1 : Int32) = 0 by decide), if_neg (show ¬ (1 : Int32) = 0 by decide), e1, e2, e3, e4, v1, v2, v4, g1, g2, g5]
    simp only [q1, q2, q3, q4, q5]
    have x15 : A 68 15 = if e = 1 then B 82 35 else if e = 2 then B 82 35 - 1 else if e = 3 then B 82 35 - 1 else 0 := by
      by_cases y1 : e = 1
      · rw [if_pos y1]; exact (e5 y1).1
      rw [if_neg y1]
      by_cases y2 : e = 2
      · rw [if_pos y2]; exact (e6 (Or.inl y2)).1
      rw [if_neg y2]
      by_cases y3 : e = 3
      · rw [if_pos y3]; exact (e6 (Or.inr y3)).1
      rw [if_neg y3]
      exact (e7 (by omega)).1
    have x16 : A 68 16 = if e < 1 then 0 else if 3 < e then 0 else B 82 36 := by
      by_cases y1 : e < 1
      · rw [if_pos y1]; exact (e7 (by omega)).2
      rw [if_neg y1]
      by_cases y2 : 3 < e
      · rw [if_pos y2]; exact (e7 (by omega)).2
      rw [if_neg y2]
      by_cases y3 : e = 1
      · exact (e5 y3).2
      · exact (e6 (by omega)).2
    have x7 : x173 A = Int32.ofNat (NO + U) := by unfold x173; rw [g1, g3, i32_a]
    rw [x15, x16, x7]
/-- an index: outside, or a number -/
theorem ix_l {N : Nat} (hN : N < 100000) (a : Int32) : (a < 0 ∨ (0 ≤ a ∧ Int32.ofNat N ≤ a)) ∨ ∃ i, i < N ∧ a = Int32.ofNat i := by
  by_cases y : a < 0
  · exact Or.inl (Or.inl y)
  · have y : 0 ≤ a := Int32.not_lt.mp y
    obtain ⟨i, i1, rfl⟩ := i32_ge0 y
    by_cases z : i < N
    · exact Or.inr ⟨i, z, rfl⟩
    · exact Or.inl (Or.inr ⟨y, (i32_le (by omega) i1).mpr (by omega)⟩)
theorem nn0 {a : Int32} (h : 0 ≤ a) : ¬ a < 0 := fun z => by
  rw [← Int32.not_le] at z; exact z h
theorem thol_o {N kk : Nat} {a : Int32} (h : A kk 3 = Int32.ofNat N) (ha : a < 0 ∨ (0 ≤ a ∧ Int32.ofNat N ≤ a)) : thol A kk a = 0 := by
  unfold thol
  rw [h]
  rcases ha with y | ⟨-, y⟩
  · exact if_pos (Or.inl y)
  · exact if_pos (Or.inr y)
theorem thol_i {N kk i : Nat} (h : A kk 3 = Int32.ofNat N) (hN : N < 100000) (hi : i < N) : thol A kk (Int32.ofNat i) = 1 := by
  unfold thol
  rw [h]
  refine if_neg ?_
  rintro (y | y)
  · rw [i32_l1 (x := 0) (b := 0) rfl (by omega) (by decide)] at y; omega
  · rw [i32_le (by omega) (by omega)] at y; omega
theorem ev_l (h : Run1 P Z n s E p A B) (a w : Int32) : x267 B a w = some (x174 A a w) := by
  unfold x174 x267
  rcases h with ⟨h1, h2⟩ | ⟨h1, h2, oa, os, hk, NO, U, EV, e, c', -, -, ⟨v1, v2, v3, v4, v5⟩, -⟩
  · rw [h1, h2, if_pos rfl, if_pos rfl]
  · rw [h1, h2, if_neg (show ¬ (1 : Int32) = 0 by decide), if_neg (show ¬ (1 : Int32) = 0 by decide)]
    rcases ix_l (N := EV) (by omega) a with y | ⟨i, y, rfl⟩
    · rw [thol_o v1 y, if_pos rfl]
      rcases y with y | ⟨y1, y2⟩
      · rw [if_pos y]
      · rw [if_neg (nn0 y1), v2, if_neg (Int32.not_lt.mpr y2)]
    · rw [thol_i v1 (by omega) y, if_neg (show ¬ (1 : Int32) = 0 by decide), if_neg (nn0 ((i32_l2 (x := 0) (b := 0) rfl (by omega) (by decide)).mpr (by omega))), v2, if_pos ((i32_lt (by omega) (by omega)).mpr y)]
      have hi : inb (Int32.ofNat i) 500 := (i32_inb (by omega)).mpr (by omega)
      have hc : (Int32.ofNat i).toNatClampNeg = i := i32_cl (by omega)
      obtain ⟨w1, w2, w3, w4, hq⟩ := v5 i y
      simp only [if_pos hi, hc]
      rcases ix_l (N := 4) (by decide) w with z | ⟨j, z, rfl⟩
      · have n0 : ∀ j, j < 4 → ¬ w = Int32.ofNat j := by
          intro j hj e
          subst e
          rcases z with z | ⟨-, z⟩
          · rw [i32_l1 (x := 0) (b := 0) rfl (by omega) (by decide)] at z; omega
          · rw [i32_le (by omega) (by omega)] at z; omega
        rw [if_neg (show ¬ w = 0 from n0 0 (by decide)), if_neg (show ¬ w = 1 from n0 1 (by decide)), if_neg (show ¬ w = 2 from n0 2 (by decide)), if_neg (show ¬ w = 3 from n0 3 (by decide))]
        rcases z with z | ⟨z1, z2⟩
        · rw [if_pos z]
        · rw [if_neg (nn0 z1), if_neg (fun z3 => ?_)]
          obtain ⟨g, g1, rfl⟩ := i32_ge0 z1
          rw [i32_le (by omega) g1] at z2
          rw [i32_l3 (x := 3) (b := 3) rfl g1 (by decide)] at z3
          omega
      · rw [if_neg (nn0 ((i32_l2 (x := 0) (b := 0) rfl (by omega) (by decide)).mpr (by omega))), if_pos ((i32_l3 (x := 3) (b := 3) rfl (by omega) (by decide)).mpr (by omega))]
        obtain rfl | rfl | rfl | rfl : j = 0 ∨ j = 1 ∨ j = 2 ∨ j = 3 := by omega
        · rw [if_pos (show Int32.ofNat 0 = 0 from rfl), show tget A 76 (Int32.ofNat i) (Int32.ofNat 0) = _ from m76.1 A i (by omega), w1]
        · rw [if_neg (by decide), if_pos (show Int32.ofNat 1 = 1 from rfl), show tget A 76 (Int32.ofNat i) (Int32.ofNat 1) = _ from m76.2.1 A i (by omega), w2]
        · rw [if_neg (by decide), if_neg (by decide), if_pos (show Int32.ofNat 2 = 2 from rfl), show tget A 76 (Int32.ofNat i) (Int32.ofNat 2) = _ from m76.2.2.1 A i (by omega), w3]
        · rw [if_neg (by decide), if_neg (by decide), if_neg (by decide), if_pos (show Int32.ofNat 3 = 3 from rfl), show tget A 76 (Int32.ofNat i) (Int32.ofNat 3) = _ from m76.2.2.2.1 A i (by omega), w4]
          rcases hq with y | y
          · rw [y]; rfl
          · rw [y]; rfl
end
