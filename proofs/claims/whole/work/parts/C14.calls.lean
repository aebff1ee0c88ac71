/-! THE CALLS BUT text(), in lockstep -/
theorem nbf (a b : Nat) : (Nat.beq a b = false) = (a ≠ b) := by
  cases h : Nat.beq a b with
  | true => simp [Nat.eq_of_beq_eq_true h]
  | false => simp [Nat.ne_of_beq_eq_false h]
theorem mdb_0 {k j : Nat} : (mdb [] k j = false) = True := eq_true rfl
theorem mdb_n {L : List (Nat × Option Nat)} {c k j : Nat} : (mdb ((c, none) :: L) k j = false) = (c ≠ k ∧ mdb L k j = false) := by
  show ((Nat.beq c k && true || mdb L k j) = false) = _
  rw [Bool.or_eq_false_iff, Bool.and_true, nbf]
theorem mdb_s {L : List (Nat × Option Nat)} {c i k j : Nat} : (mdb ((c, some i) :: L) k j = false) = ((c ≠ k ∨ i ≠ j) ∧ mdb L k j = false) := by
  show ((Nat.beq c k && Nat.beq i j || mdb L k j) = false) = _
  rw [Bool.or_eq_false_iff, Bool.and_eq_false_iff, nbf, nbf]
section
variable {P Z N : Nat} {A B : St}
theorem feed_c (hP : P = 3 ∨ P = 18) (hZ : Z = 85 ∨ Z = 126) (hN : N + 20 ≤ 1280) (a b c d e : Int32) (h : CpN P Z N A B) : ∃ r A' B', x21 A a b c d e = some (r, A') ∧ x188 B a b c d e = some (r, B') ∧ CpN P Z (N + 20) A' B' := by
  obtain ⟨⟨T, h1, h2, h3⟩, h4, h5, h6⟩ := h
  obtain ⟨A', B', T', e1, e2, e3, e4, e5⟩ := feed_l h2 h3 (by omega) a b c d e
  have fa := x21_fr _ _ Frm.refl _ e1
  have fb := x188_fr _ _ Frm.refl _ e2
  dsimp only [Frm] at fa fb
  simp only [mdb_0, mdb_n, mdb_s, and_true] at fa fb
  refine ⟨1, A', B', e1, e2, ⟨T', by omega, e3, e4⟩, h4.of (fun a b y => fa a b (by omega)) (fun a b y => fb a b (by omega)), ?_, h6.of (fun a b y => fa a b (by omega)) (fun a b y => fb a b (by omega))⟩
  rw [fa 0 10 (by omega), fb 82 5 (by omega)]; exact h5
theorem end_c (hP : P = 3 ∨ P = 18) (hZ : Z = 85 ∨ Z = 126) (a : Int32) (h : CpN P Z N A B) : ∃ r A' B', x23 A a = some (r, A') ∧ x190 B a = some (r, B') ∧ CpN P Z N A' B' := by
  obtain ⟨⟨T, h1, h2, h3⟩, h4, h5, h6⟩ := h
  obtain ⟨r, A', B', T', e1, e2, e3, e4, e5⟩ := end_l h2 h3 a
  have fa := x23_fr _ _ Frm.refl _ e1
  have fb := x190_fr _ _ Frm.refl _ e2
  dsimp only [Frm] at fa fb
  simp only [mdb_0, mdb_n, mdb_s, and_true] at fa fb
  refine ⟨r, A', B', e1, e2, ⟨T', by omega, e3, e4⟩, h4.of (fun a b y => fa a b (by omega)) (fun a b y => fb a b (by omega)), ?_, h6.of (fun a b y => fa a b (by omega)) (fun a b y => fb a b (by omega))⟩
  rw [fa 0 10 (by omega), fb 82 5 (by omega)]; exact h5
theorem flows_c (hP : P = 3 ∨ P = 18) (hZ : Z = 85 ∨ Z = 126) (a : Int32) (h : CpN P Z N A B) : ∃ r A' B', x118 A a = some (r, A') ∧ x262 B a = some (r, B') ∧ CpN P Z N A' B' := by
  obtain ⟨⟨T, h1, h2, h3⟩, h4, h5, h6⟩ := h
  obtain ⟨r, A', B', e1, e2, e3⟩ := flows_l h4 a
  have fa := x118_fr _ _ Frm.refl _ e1
  have fb := x262_fr _ _ Frm.refl _ e2
  dsimp only [Frm] at fa fb
  simp only [mdb_0, mdb_n, mdb_s, and_true] at fa fb
  refine ⟨r, A', B', e1, e2, ⟨T, h1, h2.of (fun a b y => fa a b (by omega)), h3.of (fun a b y => fb a b (by omega))⟩, e3, ?_, h6.of (fun a b y => fa a b (by omega)) (fun a b y => fb a b (by omega))⟩
  rw [fa 0 10 (by omega), fb 82 5 (by omega)]; exact h5
theorem policy_c (hP : P = 3 ∨ P = 18) (hZ : Z = 85 ∨ Z = 126) (a v : Int32) (h : CpN P Z N A B) : ∃ r A' B', x119 A a v = some (r, A') ∧ x263 B a v = some (r, B') ∧ CpN P Z N A' B' := by
  obtain ⟨⟨T, h1, h2, h3⟩, h4, h5, h6⟩ := h
  obtain ⟨r, A', B', e1, e2, e3⟩ := policy_l h4 a v
  have fa := x119_fr _ _ Frm.refl _ e1
  have fb := x263_fr _ _ Frm.refl _ e2
  dsimp only [Frm] at fa fb
  simp only [mdb_0, mdb_n, mdb_s, and_true] at fa fb
  refine ⟨r, A', B', e1, e2, ⟨T, h1, h2.of (fun a b y => fa a b (by omega)), h3.of (fun a b y => fb a b (by omega))⟩, e3, ?_, h6.of (fun a b y => fa a b (by omega)) (fun a b y => fb a b (by omega))⟩
  rw [fa 0 10 (by omega), fb 82 5 (by omega)]; exact h5
theorem input_c (hP : P = 3 ∨ P = 18) (hZ : Z = 85 ∨ Z = 126) (a v : Int32) (h : CpN P Z N A B) : ∃ r A' B', x120 A a v = some (r, A') ∧ x264 B a v = some (r, B') ∧ CpN P Z N A' B' := by
  obtain ⟨⟨T, h1, h2, h3⟩, h4, h5, h6⟩ := h
  obtain ⟨r, A', B', e1, e2, e3⟩ := input_l h4 a v
  have fa := x120_fr _ _ Frm.refl _ e1
  have fb := x264_fr _ _ Frm.refl _ e2
  dsimp only [Frm] at fa fb
  simp only [mdb_0, mdb_n, mdb_s, and_true] at fa fb
  refine ⟨r, A', B', e1, e2, ⟨T, h1, h2.of (fun a b y => fa a b (by omega)), h3.of (fun a b y => fb a b (by omega))⟩, e3, ?_, h6.of (fun a b y => fa a b (by omega)) (fun a b y => fb a b (by omega))⟩
  rw [fa 0 10 (by omega), fb 82 5 (by omega)]; exact h5
theorem argument_c (hP : P = 3 ∨ P = 18) (hZ : Z = 85 ∨ Z = 126) (a v w : Int32) (h : CpN P Z N A B) : ∃ r A' B', x121 A a v w = some (r, A') ∧ x265 B a v w = some (r, B') ∧ CpN P Z N A' B' := by
  obtain ⟨⟨T, h1, h2, h3⟩, h4, h5, h6⟩ := h
  obtain ⟨r, A', B', e1, e2, e3⟩ := argument_l h4 a v w
  have fa := x121_fr _ _ Frm.refl _ e1
  have fb := x265_fr _ _ Frm.refl _ e2
  dsimp only [Frm] at fa fb
  simp only [mdb_0, mdb_n, mdb_s, and_true] at fa fb
  refine ⟨r, A', B', e1, e2, ⟨T, h1, h2.of (fun a b y => fa a b (by omega)), h3.of (fun a b y => fb a b (by omega))⟩, e3, ?_, h6.of (fun a b y => fa a b (by omega)) (fun a b y => fb a b (by omega))⟩
  rw [fa 0 10 (by omega), fb 82 5 (by omega)]; exact h5
/-- the class's run() as a function -/
def x123 (P : Nat) (I : St) (a : Int32) : Option (Int32 × St) := if thol I (P + 7) a = 0 then some (-10, I) else x125 P I a
theorem run_c (hP : P = 3 ∨ P = 18) (hZ : Z = 85 ∨ Z = 126) (a : Int32) (h : CpN P Z N A B) : ∃ r A' B', x123 P A a = some (r, A') ∧ x237 Z B a = some (r, B') ∧ CpN P Z N A' B' := by
  obtain ⟨⟨T, h1, h2, h3⟩, h4, h5, n, k, s, E, F, G, p, g1, g2, g3, g4⟩ := h
  have ek : A (P + 7) 3 = Int32.ofNat k := g1.2.1.1
  have ez : B Z 8 = Int32.ofNat k := g1.2.1.2.1
  have k24 := g1.1.2.2.2.2.1
  rcases ix_l (N := k) (by omega) a with y | ⟨m, hm, rfl⟩
  · refine ⟨-10, A, B, ?_, ?_, ⟨T, h1, h2, h3⟩, h4, h5, n, k, s, E, F, G, p, g1, g2, g3, g4⟩
    · unfold x123; rw [if_pos (thol_o ek y)]
    · unfold x237
      rcases y with y | ⟨y1, y2⟩
      · rw [if_pos y]
      · rw [if_neg (nn0 y1), ez, if_neg (fun z => by
          have := Int32.lt_iff_toInt_lt.mp z
          have := Int32.le_iff_toInt_le.mp y2
          omega)]
  · obtain ⟨r, A', B', e1, e2, e3, e4, e5⟩ := runm_l hP hZ (by omega) (by omega) g1 g2 h4 hm
    have fa := x125_fr hP _ _ Frm.refl _ e1
    have fb := x237_fr hZ _ _ Frm.refl _ e2
    dsimp only [Frm] at fa fb
    simp only [mdb_0, mdb_n, mdb_s, and_true] at fa fb
    refine ⟨r, A', B', ?_, e2, ⟨T, h1, h2.of (fun a b y => fa a b (by omega)), h3.of (fun a b y => fb a b (by omega))⟩, h4.of (fun a b y => fa a b (by omega)) (fun a b y => fb a b (by omega)), ?_, n, k, s, E, F, G, p, g1.of (fun a b y1 y2 y3 => fa a b (by omega)) (fun a b y => fb a b (by omega)), fun m hm => ?_, fun m hm => ?_, ?_⟩
    · unfold x123; rw [if_neg (by rw [thol_i ek (by omega) hm]; decide)]; exact e1
    · rw [fa 0 10 (by omega), fb 82 5 (by omega)]; exact h5
    · obtain ⟨V, hV⟩ := g2 m hm
      exact ⟨V, hV.of (fun a b y => fb a b (by omega))⟩
    · rw [fa _ _ (by omega), fb _ _ (by omega)]; exact g3 m hm
    · exact e5
end
