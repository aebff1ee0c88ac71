/-! FRAMES: what a function may change, by program (wip/gen/frames.py) -/
theorem x6_fr {P : Nat} {a1 : Int32} (hP : P = 3 ∨ P = 18) (I0 I : St) (h0 : Frm [((P + 2), none), ((P + 1), some 3)] I0 I) : Fq (x6 P I a1) (fun q => Frm [((P + 2), none), ((P + 1), some 3)] I0 q.2) := by
  rcases hP with rfl | rfl
  all_goals
    unfold x6
    refine F.letS (Frm.ts (Frm.ts (Frm.ts (Frm.ta h0 rfl) (fun _ => rfl)) (fun _ => rfl)) (fun _ => rfl)) (fun J1 hJ1 => ?_)
    refine F.letS (Frm.ts (Frm.ts (Frm.ts hJ1 (fun _ => rfl)) (fun _ => rfl)) (fun _ => rfl)) (fun J2 hJ2 => ?_)
    exact F.some hJ2
theorem l22_3_fr {b1 : Int32} {I0 : St} : ∀ (n : Nat) (b2 : Int32) (I : St), Frm [(2, none), (1, some 3)] I0 I → Fq (l22_3 b1 n b2 I) (fun q => Frm [(2, none), (1, some 3)] I0 q) := by
  intro n
  induction n with
  | zero => intro b2 I h0; exact F.none
  | succ n ih =>
    intro b2 I h0
    rw [l22_3]
    refine F.ite (fun _ => ?_) (fun _ => ?_)
    · exact F.some h0
    · exact ih _ _ (Frm.ts (Frm.ta h0 rfl) (fun _ => rfl))
theorem x22_fr {a1 : Int32} (I0 I : St) (h0 : Frm [(2, none), (1, some 3)] I0 I) : Fq (x22 I a1) (fun q => Frm [(2, none), (1, some 3)] I0 q) := by
  unfold x22
  refine F.bind (l22_3_fr  _ _ _ h0) (fun q1 hq1 => ?_)
  exact F.some hq1
theorem x23_fr {a1 : Int32} (I0 I : St) (h0 : Frm [(1, some 3)] I0 I) : Fq (x23 I a1) (fun q => Frm [(1, some 3)] I0 q.2) := by
  unfold x23
  refine F.ite (fun _ => ?_) (fun _ => ?_)
  · exact F.some h0
  · refine F.ite (fun _ => ?_) (fun _ => ?_)
    · exact F.some (Frm.tr h0 rfl)
    · exact F.some h0
theorem x29_fr (I0 I : St) (h0 : Frm [(36, some 4), (36, some 3)] I0 I) : Fq (x29 I) (fun q => Frm [(36, some 4), (36, some 3)] I0 q) := by
  unfold x29
  exact F.some (Frm.u2 (Frm.u2 h0 rfl) rfl)
theorem x38_fr {a1 : Int32} (I0 I : St) (h0 : Frm [(36, some 4), (40, none), (39, some 3)] I0 I) : Fq (x38 I a1) (fun q => Frm [(36, some 4), (40, none), (39, some 3)] I0 q) := by
  unfold x38
  refine F.letS (Frm.u2 (Frm.ts (Frm.ta h0 rfl) (fun _ => rfl)) rfl) (fun J1 hJ1 => ?_)
  exact F.some hJ1
theorem x45_fr {a1 : Int32} {a2 : Int32} {a3 : Int32} (I0 I : St) (h0 : Frm [(35, none), (34, some 3)] I0 I) : Fq (x45 I a1 a2 a3) (fun q => Frm [(35, none), (34, some 3)] I0 q) := by
  unfold x45
  refine F.letS (Frm.ts (Frm.ts (Frm.ts (Frm.ta h0 rfl) (fun _ => rfl)) (fun _ => rfl)) (fun _ => rfl)) (fun J1 hJ1 => ?_)
  exact F.some hJ1
theorem x46_fr {a1 : Int32} {a2 : Int32} (I0 I : St) (h0 : Frm [(35, none), (34, some 3)] I0 I) : Fq (x46 I a1 a2) (fun q => Frm [(35, none), (34, some 3)] I0 q.2) := by
  unfold x46
  refine F.bindr (fun q1 => ?_)
  refine F.ite (fun _ => ?_) (fun _ => ?_)
  · refine F.bind (S := fun q => True) ?_ (fun q3 hq3 => ?_)
    · refine F.ite (fun _ => ?_) (fun _ => ?_)
      · exact F.some trivial
      · exact F.some trivial
    refine F.bind (x45_fr  _ _ Frm.refl) (fun q4 hq4 => ?_)
    exact F.some (Frm.trans h0 hq4 rfl)
  · refine F.bind (x45_fr  _ _ Frm.refl) (fun q5 hq5 => ?_)
    exact F.some (Frm.trans h0 hq5 rfl)
theorem x54_fr (I0 I : St) (h0 : Frm [(54, some 3), (52, some 3), (50, some 3), (48, some 3), (46, some 3), (44, some 3)] I0 I) : Fq (x54 I) (fun q => Frm [(54, some 3), (52, some 3), (50, some 3), (48, some 3), (46, some 3), (44, some 3)] I0 q) := by
  unfold x54
  refine F.letS (Frm.tr (Frm.tr (Frm.tr (Frm.tr (Frm.tr (Frm.tr h0 rfl) rfl) rfl) rfl) rfl) rfl) (fun J1 hJ1 => ?_)
  exact F.some hJ1
theorem x58_fr (I0 I : St) (h0 : Frm [(56, some 5)] I0 I) : Fq (x58 I) (fun q => Frm [(56, some 5)] I0 q) := by
  unfold x58
  refine F.ite (fun _ => ?_) (fun _ => ?_)
  · exact F.some (Frm.u2 h0 rfl)
  · exact F.some h0
theorem x62_fr {a1 : Int32} (I0 I : St) (h0 : Frm [(56, some 5), (56, some 3)] I0 I) : Fq (x62 I a1) (fun q => Frm [(56, some 5), (56, some 3)] I0 q) := by
  unfold x62
  refine F.ite (fun _ => ?_) (fun _ => ?_)
  · refine F.bind (x58_fr  _ _ Frm.refl) (fun q1 hq1 => ?_)
    exact F.some (Frm.trans h0 hq1 rfl)
  · exact F.some (Frm.u2 h0 rfl)
theorem x67_fr {a1 : Int32} (I0 I : St) (h0 : Frm [(56, some 5), (56, some 3)] I0 I) : Fq (x67 I a1) (fun q => Frm [(56, some 5), (56, some 3)] I0 q.2) := by
  unfold x67
  refine F.bind (S := fun q => True) ?_ (fun q1 hq1 => ?_)
  · refine F.ite (fun _ => ?_) (fun _ => ?_)
    · refine F.ite (fun _ => ?_) (fun _ => ?_)
      · exact F.some trivial
      · exact F.some trivial
    · exact F.some trivial
  refine F.ite (fun _ => ?_) (fun _ => ?_)
  · refine F.ite (fun _ => ?_) (fun _ => ?_)
    · refine F.bind (x58_fr  _ _ Frm.refl) (fun q2 hq2 => ?_)
      exact F.some (Frm.trans h0 hq2 rfl)
    · refine F.ite (fun _ => ?_) (fun _ => ?_)
      · refine F.bind (x58_fr  _ _ Frm.refl) (fun q3 hq3 => ?_)
        exact F.some (Frm.trans h0 hq3 rfl)
      · exact F.some (Frm.u2 h0 rfl)
  · exact F.some (Frm.u2 h0 rfl)
theorem l70_37_fr {P : Nat} {b1 : Int32} {I0 : St} (hP : P = 3 ∨ P = 18) : ∀ (n : Nat) (b2 : Int32) (I : St), Frm [(56, some 3), (56, some 5), ((P + 8), none)] I0 I → Fq (l70_37 P b1 n b2 I) (fun q => Frm [(56, some 3), (56, some 5), ((P + 8), none)] I0 q.2) := by
  rcases hP with rfl | rfl
  all_goals
    intro n
    induction n with
    | zero => intro b2 I h0; exact F.none
    | succ n ih =>
      intro b2 I h0
      rw [l70_37]
      refine F.ite (fun _ => ?_) (fun _ => ?_)
      · exact F.some h0
      · refine F.ite (fun _ => ?_) (fun _ => ?_)
        · exact F.some h0
        · refine F.ite (fun _ => ?_) (fun _ => ?_)
          · exact F.some h0
          · refine F.bind (x67_fr  _ _ Frm.refl) (fun q4 hq4 => ?_)
            exact ih _ _ (Frm.ts (Frm.trans (Frm.u2 h0 rfl) hq4 rfl) (fun _ => rfl))
theorem x70_fr {P : Nat} {a1 : Int32} (hP : P = 3 ∨ P = 18) (I0 I : St) (h0 : Frm [(56, some 3), (56, some 5), ((P + 8), none)] I0 I) : Fq (x70 P I a1) (fun q => Frm [(56, some 3), (56, some 5), ((P + 8), none)] I0 q) := by
  rcases hP with rfl | rfl
  · unfold x70
    refine F.bind (x62_fr  _ _ Frm.refl) (fun q1 hq1 => ?_)
    refine F.bind (S := fun q => Frm [(56, some 3), (56, some 5), ((3 + 8), none)] I0 q.2) ?_ (fun q3 hq3 => ?_)
    · refine F.ite (fun _ => ?_) (fun _ => ?_)
      · refine F.bind (x67_fr  _ _ Frm.refl) (fun q2 hq2 => ?_)
        exact F.some (Frm.ts (Frm.trans (Frm.trans h0 hq1 rfl) hq2 rfl) (fun _ => rfl))
      · exact F.some (Frm.trans h0 hq1 rfl)
    refine F.bind (l70_37_fr (by decide) _ _ _ hq3) (fun q5 hq5 => ?_)
    refine F.bind (x62_fr  _ _ Frm.refl) (fun q6 hq6 => ?_)
    exact F.some (Frm.trans (Frm.ts hq5 (fun _ => rfl)) hq6 rfl)
  · unfold x70
    refine F.bind (x62_fr  _ _ Frm.refl) (fun q1 hq1 => ?_)
    refine F.bind (S := fun q => Frm [(56, some 3), (56, some 5), ((18 + 8), none)] I0 q.2) ?_ (fun q3 hq3 => ?_)
    · refine F.ite (fun _ => ?_) (fun _ => ?_)
      · refine F.bind (x67_fr  _ _ Frm.refl) (fun q2 hq2 => ?_)
        exact F.some (Frm.ts (Frm.trans (Frm.trans h0 hq1 rfl) hq2 rfl) (fun _ => rfl))
      · exact F.some (Frm.trans h0 hq1 rfl)
    refine F.bind (l70_37_fr (by decide) _ _ _ hq3) (fun q5 hq5 => ?_)
    refine F.bind (x62_fr  _ _ Frm.refl) (fun q6 hq6 => ?_)
    exact F.some (Frm.trans (Frm.ts hq5 (fun _ => rfl)) hq6 rfl)
theorem x78_fr {a1 : Int32} (I0 I : St) (h0 : Frm [(56, some 3), (56, some 5)] I0 I) : Fq (x78 I a1) (fun q => Frm [(56, some 3), (56, some 5)] I0 q.2) := by
  unfold x78
  refine F.ite (fun _ => ?_) (fun _ => ?_)
  · refine F.ite (fun _ => ?_) (fun _ => ?_)
    · exact F.some (Frm.u2 h0 rfl)
    · refine F.bind (x58_fr  _ _ Frm.refl) (fun q1 hq1 => ?_)
      exact F.some (Frm.trans h0 hq1 rfl)
  · refine F.bind (x58_fr  _ _ Frm.refl) (fun q2 hq2 => ?_)
    exact F.some (Frm.trans h0 hq2 rfl)
theorem x83_fr {a1 : Int32} {a2 : Int32} (I0 I : St) (h0 : Frm [(57, some 4), (57, some 3)] I0 I) : Fq (x83 I a1 a2) (fun q => Frm [(57, some 4), (57, some 3)] I0 q) := by
  unfold x83
  refine F.ite (fun _ => ?_) (fun _ => ?_)
  · exact F.some (Frm.u2 (Frm.u2 h0 rfl) rfl)
  · refine F.ite (fun _ => ?_) (fun _ => ?_)
    · exact F.some (Frm.u2 (Frm.u2 h0 rfl) rfl)
    · refine F.ite (fun _ => ?_) (fun _ => ?_)
      · refine F.ite (fun _ => ?_) (fun _ => ?_)
        · exact F.some h0
        · exact F.some (Frm.u2 (Frm.u2 h0 rfl) rfl)
      · exact F.some h0
theorem l84_71_fr {P : Nat} {b1 : Int32} {b2 : Int32} {b3 : Int32} {b4 : Int32} {I0 : St} (hP : P = 3 ∨ P = 18) : ∀ (n : Nat) (b5 : Int32) (I : St), Frm [((P + 4), none), ((P + 2), none)] I0 I → Fq (l84_71 P b1 b2 b3 b4 n b5 I) (fun q => Frm [((P + 4), none), ((P + 2), none)] I0 q) := by
  rcases hP with rfl | rfl
  all_goals
    intro n
    induction n with
    | zero => intro b5 I h0; exact F.none
    | succ n ih =>
      intro b5 I h0
      rw [l84_71]
      refine F.ite (fun _ => ?_) (fun _ => ?_)
      · exact F.some h0
      · exact ih _ _ (Frm.ts h0 (fun _ => rfl))
theorem l84_3_fr {P : Nat} {I0 : St} (hP : P = 3 ∨ P = 18) : ∀ (n : Nat) (b1 : Int32) (I : St), Frm [((P + 4), none), ((P + 2), none)] I0 I → Fq (l84_3 P n b1 I) (fun q => Frm [((P + 4), none), ((P + 2), none)] I0 q) := by
  rcases hP with rfl | rfl
  all_goals
    intro n
    induction n with
    | zero => intro b1 I h0; exact F.none
    | succ n ih =>
      intro b1 I h0
      rw [l84_3]
      refine F.ite (fun _ => ?_) (fun _ => ?_)
      · exact F.some h0
      · refine F.bind (l84_71_fr (by decide) _ _ _ h0) (fun q1 hq1 => ?_)
        exact ih _ _ (Frm.ts hq1 (fun _ => rfl))
theorem x84_fr {P : Nat} (hP : P = 3 ∨ P = 18) (I0 I : St) (h0 : Frm [((P + 4), none), ((P + 2), none)] I0 I) : Fq (x84 P I) (fun q => Frm [((P + 4), none), ((P + 2), none)] I0 q) := by
  rcases hP with rfl | rfl
  all_goals
    unfold x84
    refine F.bind (l84_3_fr (by decide) _ _ _ h0) (fun q4 hq4 => ?_)
    exact F.some hq4
theorem l85_20_fr {b2 : Int32} {I0 : St} : ∀ (n : Nat) (b3 : Int32) (I : St), Frm [(57, some 4), (57, some 3)] I0 I → Fq (l85_20 b2 n b3 I) (fun q => Frm [(57, some 4), (57, some 3)] I0 q) := by
  intro n
  induction n with
  | zero => intro b3 I h0; exact F.none
  | succ n ih =>
    intro b3 I h0
    rw [l85_20]
    refine F.ite (fun _ => ?_) (fun _ => ?_)
    · exact F.some h0
    · refine F.ite (fun _ => ?_) (fun _ => ?_)
      · refine F.ite (fun _ => ?_) (fun _ => ?_)
        · refine F.bind (x83_fr  _ _ Frm.refl) (fun q1 hq1 => ?_)
          exact ih _ _ (Frm.trans h0 hq1 rfl)
        · exact ih _ _ h0
      · exact ih _ _ h0
theorem l85_10_fr {I0 : St} : ∀ (n : Nat) (b2 : Int32) (I : St), Frm [(57, some 4), (57, some 3)] I0 I → Fq (l85_10 n b2 I) (fun q => Frm [(57, some 4), (57, some 3)] I0 q) := by
  intro n
  induction n with
  | zero => intro b2 I h0; exact F.none
  | succ n ih =>
    intro b2 I h0
    rw [l85_10]
    refine F.ite (fun _ => ?_) (fun _ => ?_)
    · exact F.some h0
    · refine F.bind (l85_20_fr  _ _ _ h0) (fun q2 hq2 => ?_)
      exact ih _ _ hq2
theorem x85_fr (I0 I : St) (h0 : Frm [(57, some 4), (57, some 3)] I0 I) : Fq (x85 I) (fun q => Frm [(57, some 4), (57, some 3)] I0 q) := by
  unfold x85
  refine F.bind (l85_10_fr  _ _ _ h0) (fun q4 hq4 => ?_)
  exact F.some hq4
theorem l90_31_fr {b1 : Int32} {b3 : Int32} {I0 : St} : ∀ (n : Nat) (b4 : Int32) (I : St), Frm [(57, some 4), (57, some 3), (38, none)] I0 I → Fq (l90_31 b1 b3 n b4 I) (fun q => Frm [(57, some 4), (57, some 3), (38, none)] I0 q) := by
  intro n
  induction n with
  | zero => intro b4 I h0; exact F.none
  | succ n ih =>
    intro b4 I h0
    rw [l90_31]
    refine F.ite (fun _ => ?_) (fun _ => ?_)
    · exact F.some h0
    · refine F.ite (fun _ => ?_) (fun _ => ?_)
      · refine F.bind (x83_fr  _ _ Frm.refl) (fun q1 hq1 => ?_)
        exact ih _ _ (Frm.trans h0 hq1 rfl)
      · refine F.letS (Frm.ts (Frm.ts h0 (fun _ => rfl)) (fun _ => rfl)) (fun J2 hJ2 => ?_)
        exact ih _ _ hJ2
theorem x90_fr {a1 : Int32} (I0 I : St) (h0 : Frm [(57, some 4), (57, some 3), (38, none)] I0 I) : Fq (x90 I a1) (fun q => Frm [(57, some 4), (57, some 3), (38, none)] I0 q) := by
  unfold x90
  refine F.bind (l90_31_fr  _ _ _ h0) (fun q3 hq3 => ?_)
  exact F.some hq3
theorem x92_fr {a1 : Int32} {a2 : Int32} {a3 : Int32} (I0 I : St) (h0 : Frm [(57, some 4), (57, some 3)] I0 I) : Fq (x92 I a1 a2 a3) (fun q => Frm [(57, some 4), (57, some 3)] I0 q.2) := by
  unfold x92
  refine F.ite (fun _ => ?_) (fun _ => ?_)
  · exact F.some h0
  · refine F.bind (x83_fr  _ _ Frm.refl) (fun q1 hq1 => ?_)
    exact F.some (Frm.trans h0 hq1 rfl)
theorem x93_fr {a1 : Int32} {a2 : Int32} (I0 I : St) (h0 : Frm [(57, some 4), (57, some 3)] I0 I) : Fq (x93 I a1 a2) (fun q => Frm [(57, some 4), (57, some 3)] I0 q.2) := by
  unfold x93
  refine F.ite (fun _ => ?_) (fun _ => ?_)
  · refine F.bind (x83_fr  _ _ Frm.refl) (fun q1 hq1 => ?_)
    exact F.some (Frm.trans h0 hq1 rfl)
  · exact F.some h0
theorem x95_fr {P : Nat} {a1 : Int32} {a2 : Int32} (hP : P = 3 ∨ P = 18) (I0 I : St) (h0 : Frm [(57, some 4), (57, some 3), ((P + 10), none)] I0 I) : Fq (x95 P I a1 a2) (fun q => Frm [(57, some 4), (57, some 3), ((P + 10), none)] I0 q) := by
  rcases hP with rfl | rfl
  · unfold x95
    refine F.ite (fun _ => ?_) (fun _ => ?_)
    · exact F.some h0
    · refine F.ite (fun _ => ?_) (fun _ => ?_)
      · refine F.bind (S := fun q => True) ?_ (fun q1 hq1 => ?_)
        · refine F.ite (fun _ => ?_) (fun _ => ?_)
          · exact F.some trivial
          · exact F.some trivial
        refine F.bindr (fun q2 => ?_)
        refine F.bind (S := fun q => Frm [(57, some 4), (57, some 3), ((3 + 10), none)] I0 q) ?_ (fun q4 hq4 => ?_)
        · refine F.ite (fun _ => ?_) (fun _ => ?_)
          · refine F.bind (x83_fr  _ _ Frm.refl) (fun q3 hq3 => ?_)
            exact F.some (Frm.trans h0 hq3 rfl)
          · exact F.some h0
        exact F.some (Frm.ts (Frm.ts hq4 (fun _ => rfl)) (fun _ => rfl))
      · refine F.ite (fun _ => ?_) (fun _ => ?_)
        · refine F.bind (S := fun q => True) ?_ (fun q5 hq5 => ?_)
          · refine F.ite (fun _ => ?_) (fun _ => ?_)
            · exact F.some trivial
            · exact F.some trivial
          refine F.bindr (fun q6 => ?_)
          refine F.bind (S := fun q => Frm [(57, some 4), (57, some 3), ((3 + 10), none)] I0 q) ?_ (fun q8 hq8 => ?_)
          · refine F.ite (fun _ => ?_) (fun _ => ?_)
            · refine F.bind (x83_fr  _ _ Frm.refl) (fun q7 hq7 => ?_)
              exact F.some (Frm.trans h0 hq7 rfl)
            · exact F.some h0
          exact F.some (Frm.ts (Frm.ts hq8 (fun _ => rfl)) (fun _ => rfl))
        · refine F.ite (fun _ => ?_) (fun _ => ?_)
          · refine F.bind (S := fun q => True) ?_ (fun q9 hq9 => ?_)
            · refine F.ite (fun _ => ?_) (fun _ => ?_)
              · exact F.some trivial
              · exact F.some trivial
            refine F.bindr (fun q10 => ?_)
            refine F.bind (S := fun q => Frm [(57, some 4), (57, some 3), ((3 + 10), none)] I0 q) ?_ (fun q12 hq12 => ?_)
            · refine F.ite (fun _ => ?_) (fun _ => ?_)
              · refine F.bind (x83_fr  _ _ Frm.refl) (fun q11 hq11 => ?_)
                exact F.some (Frm.trans h0 hq11 rfl)
              · exact F.some h0
            exact F.some (Frm.ts (Frm.ts hq12 (fun _ => rfl)) (fun _ => rfl))
          · refine F.ite (fun _ => ?_) (fun _ => ?_)
            · refine F.bind (S := fun q => True) ?_ (fun q13 hq13 => ?_)
              · refine F.ite (fun _ => ?_) (fun _ => ?_)
                · exact F.some trivial
                · exact F.some trivial
              refine F.bindr (fun q14 => ?_)
              refine F.bind (S := fun q => Frm [(57, some 4), (57, some 3), ((3 + 10), none)] I0 q) ?_ (fun q16 hq16 => ?_)
              · refine F.ite (fun _ => ?_) (fun _ => ?_)
                · refine F.bind (x83_fr  _ _ Frm.refl) (fun q15 hq15 => ?_)
                  exact F.some (Frm.trans h0 hq15 rfl)
                · exact F.some h0
              exact F.some (Frm.ts (Frm.ts hq16 (fun _ => rfl)) (fun _ => rfl))
            · refine F.bind (S := fun q => True) ?_ (fun q17 hq17 => ?_)
              · refine F.ite (fun _ => ?_) (fun _ => ?_)
                · exact F.some trivial
                · exact F.some trivial
              refine F.bindr (fun q18 => ?_)
              refine F.bind (S := fun q => Frm [(57, some 4), (57, some 3), ((3 + 10), none)] I0 q) ?_ (fun q20 hq20 => ?_)
              · refine F.ite (fun _ => ?_) (fun _ => ?_)
                · refine F.bind (x83_fr  _ _ Frm.refl) (fun q19 hq19 => ?_)
                  exact F.some (Frm.trans h0 hq19 rfl)
                · exact F.some h0
              exact F.some (Frm.ts (Frm.ts hq20 (fun _ => rfl)) (fun _ => rfl))
  · unfold x95
    refine F.ite (fun _ => ?_) (fun _ => ?_)
    · exact F.some h0
    · refine F.ite (fun _ => ?_) (fun _ => ?_)
      · refine F.bind (S := fun q => True) ?_ (fun q1 hq1 => ?_)
        · refine F.ite (fun _ => ?_) (fun _ => ?_)
          · exact F.some trivial
          · exact F.some trivial
        refine F.bindr (fun q2 => ?_)
        refine F.bind (S := fun q => Frm [(57, some 4), (57, some 3), ((18 + 10), none)] I0 q) ?_ (fun q4 hq4 => ?_)
        · refine F.ite (fun _ => ?_) (fun _ => ?_)
          · refine F.bind (x83_fr  _ _ Frm.refl) (fun q3 hq3 => ?_)
            exact F.some (Frm.trans h0 hq3 rfl)
          · exact F.some h0
        exact F.some (Frm.ts (Frm.ts hq4 (fun _ => rfl)) (fun _ => rfl))
      · refine F.ite (fun _ => ?_) (fun _ => ?_)
        · refine F.bind (S := fun q => True) ?_ (fun q5 hq5 => ?_)
          · refine F.ite (fun _ => ?_) (fun _ => ?_)
            · exact F.some trivial
            · exact F.some trivial
          refine F.bindr (fun q6 => ?_)
          refine F.bind (S := fun q => Frm [(57, some 4), (57, some 3), ((18 + 10), none)] I0 q) ?_ (fun q8 hq8 => ?_)
          · refine F.ite (fun _ => ?_) (fun _ => ?_)
            · refine F.bind (x83_fr  _ _ Frm.refl) (fun q7 hq7 => ?_)
              exact F.some (Frm.trans h0 hq7 rfl)
            · exact F.some h0
          exact F.some (Frm.ts (Frm.ts hq8 (fun _ => rfl)) (fun _ => rfl))
        · refine F.ite (fun _ => ?_) (fun _ => ?_)
          · refine F.bind (S := fun q => True) ?_ (fun q9 hq9 => ?_)
            · refine F.ite (fun _ => ?_) (fun _ => ?_)
              · exact F.some trivial
              · exact F.some trivial
            refine F.bindr (fun q10 => ?_)
            refine F.bind (S := fun q => Frm [(57, some 4), (57, some 3), ((18 + 10), none)] I0 q) ?_ (fun q12 hq12 => ?_)
            · refine F.ite (fun _ => ?_) (fun _ => ?_)
              · refine F.bind (x83_fr  _ _ Frm.refl) (fun q11 hq11 => ?_)
                exact F.some (Frm.trans h0 hq11 rfl)
              · exact F.some h0
            exact F.some (Frm.ts (Frm.ts hq12 (fun _ => rfl)) (fun _ => rfl))
          · refine F.ite (fun _ => ?_) (fun _ => ?_)
            · refine F.bind (S := fun q => True) ?_ (fun q13 hq13 => ?_)
              · refine F.ite (fun _ => ?_) (fun _ => ?_)
                · exact F.some trivial
                · exact F.some trivial
              refine F.bindr (fun q14 => ?_)
              refine F.bind (S := fun q => Frm [(57, some 4), (57, some 3), ((18 + 10), none)] I0 q) ?_ (fun q16 hq16 => ?_)
              · refine F.ite (fun _ => ?_) (fun _ => ?_)
                · refine F.bind (x83_fr  _ _ Frm.refl) (fun q15 hq15 => ?_)
                  exact F.some (Frm.trans h0 hq15 rfl)
                · exact F.some h0
              exact F.some (Frm.ts (Frm.ts hq16 (fun _ => rfl)) (fun _ => rfl))
            · refine F.bind (S := fun q => True) ?_ (fun q17 hq17 => ?_)
              · refine F.ite (fun _ => ?_) (fun _ => ?_)
                · exact F.some trivial
                · exact F.some trivial
              refine F.bindr (fun q18 => ?_)
              refine F.bind (S := fun q => Frm [(57, some 4), (57, some 3), ((18 + 10), none)] I0 q) ?_ (fun q20 hq20 => ?_)
              · refine F.ite (fun _ => ?_) (fun _ => ?_)
                · refine F.bind (x83_fr  _ _ Frm.refl) (fun q19 hq19 => ?_)
                  exact F.some (Frm.trans h0 hq19 rfl)
                · exact F.some h0
              exact F.some (Frm.ts (Frm.ts hq20 (fun _ => rfl)) (fun _ => rfl))
theorem l96_37_fr {P : Nat} {b1 : Int32} {I0 : St} (hP : P = 3 ∨ P = 18) : ∀ (n : Nat) (b2 : Int32) (I : St), Frm [((P + 14), none)] I0 I → Fq (l96_37 P b1 n b2 I) (fun q => Frm [((P + 14), none)] I0 q) := by
  rcases hP with rfl | rfl
  all_goals
    intro n
    induction n with
    | zero => intro b2 I h0; exact F.none
    | succ n ih =>
      intro b2 I h0
      rw [l96_37]
      refine F.ite (fun _ => ?_) (fun _ => ?_)
      · exact F.some h0
      · refine F.bindr (fun q1 => ?_)
        exact ih _ _ (Frm.ts h0 (fun _ => rfl))
theorem l96_2_fr {P : Nat} {I0 : St} (hP : P = 3 ∨ P = 18) : ∀ (n : Nat) (b1 : Int32) (I : St), Frm [((P + 14), none)] I0 I → Fq (l96_2 P n b1 I) (fun q => Frm [((P + 14), none)] I0 q) := by
  rcases hP with rfl | rfl
  all_goals
    intro n
    induction n with
    | zero => intro b1 I h0; exact F.none
    | succ n ih =>
      intro b1 I h0
      rw [l96_2]
      refine F.ite (fun _ => ?_) (fun _ => ?_)
      · exact F.some h0
      · refine F.ite (fun _ => ?_) (fun _ => ?_)
        · exact ih _ _ h0
        · refine F.bind (l96_37_fr (by decide) _ _ _ h0) (fun q2 hq2 => ?_)
          exact ih _ _ hq2
theorem x96_fr {P : Nat} (hP : P = 3 ∨ P = 18) (I0 I : St) (h0 : Frm [((P + 14), none)] I0 I) : Fq (x96 P I) (fun q => Frm [((P + 14), none)] I0 q) := by
  rcases hP with rfl | rfl
  all_goals
    unfold x96
    refine F.bind (l96_2_fr (by decide) _ _ _ h0) (fun q5 hq5 => ?_)
    exact F.some hq5
theorem x100_fr {a1 : Int32} {a2 : Int32} (I0 I : St) (h0 : Frm [(58, some 11), (58, some 10), (58, some 9)] I0 I) : Fq (x100 I a1 a2) (fun q => Frm [(58, some 11), (58, some 10), (58, some 9)] I0 q) := by
  unfold x100
  refine F.bind (S := fun q => True) ?_ (fun q1 hq1 => ?_)
  · refine F.ite (fun _ => ?_) (fun _ => ?_)
    · exact F.some trivial
    · exact F.some trivial
  refine F.ite (fun _ => ?_) (fun _ => ?_)
  · refine F.letS (Frm.u2 (Frm.u2 (Frm.u2 h0 rfl) rfl) rfl) (fun J2 hJ2 => ?_)
    exact F.some hJ2
  · refine F.letS (Frm.u2 (Frm.u2 (Frm.u2 h0 rfl) rfl) rfl) (fun J3 hJ3 => ?_)
    exact F.some hJ3
theorem x103_fr {a1 : Int32} {a2 : Int32} {a3 : Int32} (I0 I : St) (h0 : Frm [(60, none)] I0 I) : Fq (x103 I a1 a2 a3) (fun q => Frm [(60, none)] I0 q) := by
  unfold x103
  refine F.ite (fun _ => ?_) (fun _ => ?_)
  · exact F.some h0
  · exact F.some (Frm.ts (Frm.ts h0 (fun _ => rfl)) (fun _ => rfl))
theorem x104_fr {a1 : Int32} (I0 I : St) (h0 : Frm [(58, some 6)] I0 I) : Fq (x104 I a1) (fun q => Frm [(58, some 6)] I0 q) := by
  unfold x104
  exact F.some (Frm.u2 h0 rfl)
theorem x107_fr {a1 : Int32} (I0 I : St) (h0 : Frm [(58, some 9), (58, some 8), (58, some 7), (58, some 11), (58, some 10)] I0 I) : Fq (x107 I a1) (fun q => Frm [(58, some 9), (58, some 8), (58, some 7), (58, some 11), (58, some 10)] I0 q) := by
  unfold x107
  refine F.letS (Frm.u2 (Frm.u2 (Frm.u2 h0 rfl) rfl) rfl) (fun J1 hJ1 => ?_)
  refine F.letS (Frm.u2 (Frm.u2 hJ1 rfl) rfl) (fun J2 hJ2 => ?_)
  exact F.some hJ2
theorem x110_fr {a1 : Int32} (I0 I : St) (h0 : Frm [(58, some 8), (58, some 7)] I0 I) : Fq (x110 I a1) (fun q => Frm [(58, some 8), (58, some 7)] I0 q) := by
  unfold x110
  refine F.bind (S := fun q => Frm [(58, some 8), (58, some 7)] I0 q) ?_ (fun q1 hq1 => ?_)
  · refine F.ite (fun _ => ?_) (fun _ => ?_)
    · exact F.some (Frm.u2 h0 rfl)
    · exact F.some h0
  refine F.ite (fun _ => ?_) (fun _ => ?_)
  · exact F.some hq1
  · exact F.some (Frm.u2 hq1 rfl)
theorem x111_fr (I0 I : St) (h0 : Frm [(58, some 8), (58, some 7)] I0 I) : Fq (x111 I) (fun q => Frm [(58, some 8), (58, some 7)] I0 q.2) := by
  unfold x111
  refine F.ite (fun _ => ?_) (fun _ => ?_)
  · refine F.bind (S := fun q => True) ?_ (fun q1 hq1 => ?_)
    · refine F.ite (fun _ => ?_) (fun _ => ?_)
      · exact F.some trivial
      · exact F.some trivial
    refine F.letS (Frm.u2 (Frm.u2 h0 rfl) rfl) (fun J2 hJ2 => ?_)
    exact F.some hJ2
  · exact F.some h0
theorem x116_fr {P : Nat} {S : Nat} (hP : P = 3 ∨ P = 18) (hS : S = 3 ∨ S = 18) (I0 I : St) (h0 : Frm [(68, some 13), (67, none)] I0 I) : Fq (x116 P S I) (fun q => Frm [(68, some 13), (67, none)] I0 q) := by
  rcases hP with rfl | rfl <;> rcases hS with rfl | rfl
  all_goals
    unfold x116
    exact F.some (Frm.u2 (Frm.fi h0 (fun _ => rfl)) rfl)
theorem x118_fr {a1 : Int32} (I0 I : St) (h0 : Frm [(61, some 0)] I0 I) : Fq (x118 I a1) (fun q => Frm [(61, some 0)] I0 q.2) := by
  unfold x118
  exact F.some (Frm.u2 h0 rfl)
theorem x119_fr {a1 : Int32} {a2 : Int32} (I0 I : St) (h0 : Frm [(63, none)] I0 I) : Fq (x119 I a1 a2) (fun q => Frm [(63, none)] I0 q.2) := by
  unfold x119
  refine F.ite (fun _ => ?_) (fun _ => ?_)
  · exact F.some h0
  · refine F.ite (fun _ => ?_) (fun _ => ?_)
    · exact F.some (Frm.ts h0 (fun _ => rfl))
    · exact F.some h0
theorem x120_fr {a1 : Int32} {a2 : Int32} (I0 I : St) (h0 : Frm [(65, none)] I0 I) : Fq (x120 I a1 a2) (fun q => Frm [(65, none)] I0 q.2) := by
  unfold x120
  refine F.ite (fun _ => ?_) (fun _ => ?_)
  · exact F.some h0
  · refine F.ite (fun _ => ?_) (fun _ => ?_)
    · exact F.some (Frm.ts h0 (fun _ => rfl))
    · exact F.some h0
theorem x121_fr {a1 : Int32} {a2 : Int32} {a3 : Int32} (I0 I : St) (h0 : Frm [(67, none)] I0 I) : Fq (x121 I a1 a2 a3) (fun q => Frm [(67, none)] I0 q.2) := by
  unfold x121
  refine F.ite (fun _ => ?_) (fun _ => ?_)
  · exact F.some h0
  · refine F.ite (fun _ => ?_) (fun _ => ?_)
    · exact F.some (Frm.ts2 h0 (fun _ => rfl))
    · exact F.some h0
theorem x127_fr (I0 I : St) (h0 : Frm [(72, some 3), (70, some 3)] I0 I) : Fq (x127 I) (fun q => Frm [(72, some 3), (70, some 3)] I0 q) := by
  unfold x127
  exact F.some (Frm.tr (Frm.tr h0 rfl) rfl)
theorem x135_fr {a1 : Int32} (I0 I : St) (h0 : Frm [(68, some 11)] I0 I) : Fq (x135 I a1) (fun q => Frm [(68, some 11)] I0 q) := by
  unfold x135
  exact F.some (Frm.u2 h0 rfl)
theorem l139_65_fr {b1 : Int32} {b2 : Int32} {b3 : Int32} {b4 : Int32} {b5 : Int32} {I0 : St} : ∀ (n : Nat) (b6 : Int32) (I : St), Frm [(73, none), (72, some 3), (71, none), (70, some 3)] I0 I → Fq (l139_65 b1 b2 b3 b4 b5 n b6 I) (fun q => Frm [(73, none), (72, some 3), (71, none), (70, some 3)] I0 q) := by
  intro n
  induction n with
  | zero => intro b6 I h0; exact F.none
  | succ n ih =>
    intro b6 I h0
    rw [l139_65]
    refine F.ite (fun _ => ?_) (fun _ => ?_)
    · exact F.some h0
    · exact ih _ _ (Frm.ts2 h0 (fun _ => rfl))
theorem x139_fr {a1 : Int32} {a2 : Int32} {a3 : Int32} (I0 I : St) (h0 : Frm [(73, none), (72, some 3), (71, none), (70, some 3)] I0 I) : Fq (x139 I a1 a2 a3) (fun q => Frm [(73, none), (72, some 3), (71, none), (70, some 3)] I0 q.2) := by
  unfold x139
  refine F.ite (fun _ => ?_) (fun _ => ?_)
  · exact F.some h0
  · refine F.ite (fun _ => ?_) (fun _ => ?_)
    · refine F.bind (S := fun q => True) ?_ (fun q1 hq1 => ?_)
      · refine F.ite (fun _ => ?_) (fun _ => ?_)
        · exact F.some trivial
        · exact F.some trivial
      refine F.bind (l139_65_fr  _ _ _ (Frm.tr h0 rfl)) (fun q2 hq2 => ?_)
      refine F.letS (Frm.ts (Frm.ts (Frm.ts (Frm.ta hq2 rfl) (fun _ => rfl)) (fun _ => rfl)) (fun _ => rfl)) (fun J5 hJ5 => ?_)
      exact F.some (Frm.ts hJ5 (fun _ => rfl))
    · exact F.some h0
theorem x140_fr {a1 : Int32} {a2 : Int32} (I0 I : St) (h0 : Frm [(68, some 16), (68, some 15), (68, some 12)] I0 I) : Fq (x140 I a1 a2) (fun q => Frm [(68, some 16), (68, some 15), (68, some 12)] I0 q) := by
  unfold x140
  exact F.some (Frm.u2 (Frm.u2 (Frm.u2 h0 rfl) rfl) rfl)
theorem x146_fr {a1 : Int32} {a2 : Int32} {a3 : Int32} {a4 : Int32} (I0 I : St) (h0 : Frm [(73, none)] I0 I) : Fq (x146 I a1 a2 a3 a4) (fun q => Frm [(73, none)] I0 q) := by
  unfold x146
  exact F.some (Frm.ts2 h0 (fun _ => rfl))
theorem l164_103_fr {b2 : Int32} {b3 : Int32} {I0 : St} : ∀ (n : Nat) (b4 : Int32) (I : St), Frm [(81, none), (79, none), (68, some 7), (68, some 10), (68, some 11), (68, some 8), (68, some 14)] I0 I → Fq (l164_103 b2 b3 n b4 I) (fun q => Frm [(81, none), (79, none), (68, some 7), (68, some 10), (68, some 11), (68, some 8), (68, some 14)] I0 q) := by
  intro n
  induction n with
  | zero => intro b4 I h0; exact F.none
  | succ n ih =>
    intro b4 I h0
    rw [l164_103]
    refine F.ite (fun _ => ?_) (fun _ => ?_)
    · exact F.some h0
    · exact ih _ _ (Frm.ts2 h0 (fun _ => rfl))
theorem x164_fr {a1 : Int32} {a2 : Int32} (I0 I : St) (h0 : Frm [(81, none), (79, none), (68, some 7), (68, some 10), (68, some 11), (68, some 8), (68, some 14)] I0 I) : Fq (x164 I a1 a2) (fun q => Frm [(81, none), (79, none), (68, some 7), (68, some 10), (68, some 11), (68, some 8), (68, some 14)] I0 q) := by
  unfold x164
  refine F.ite (fun _ => ?_) (fun _ => ?_)
  · refine F.letS (Frm.ts (Frm.ts h0 (fun _ => rfl)) (fun _ => rfl)) (fun J1 hJ1 => ?_)
    refine F.letS (Frm.u2 (Frm.ts hJ1 (fun _ => rfl)) rfl) (fun J2 hJ2 => ?_)
    refine F.bind (l164_103_fr  _ _ _ (Frm.u2 (Frm.u2 (Frm.u2 hJ2 rfl) rfl) rfl)) (fun q3 hq3 => ?_)
    exact F.some hq3
  · exact F.some (Frm.u2 h0 rfl)
theorem x167_fr (I0 I : St) (h0 : Frm [(68, some 8), (68, some 7), (68, some 11), (68, some 9)] I0 I) : Fq (x167 I) (fun q => Frm [(68, some 8), (68, some 7), (68, some 11), (68, some 9)] I0 q) := by
  unfold x167
  refine F.letS (Frm.u2 (Frm.u2 h0 rfl) rfl) (fun J1 hJ1 => ?_)
  refine F.letS (Frm.u2 (Frm.u2 hJ1 rfl) rfl) (fun J2 hJ2 => ?_)
  exact F.some hJ2
theorem x169_fr {a1 : Int32} {a2 : Int32} {a3 : Int32} (I0 I : St) (h0 : Frm [(68, some 14), (76, some 3), (77, none), (68, some 18)] I0 I) : Fq (x169 I a1 a2 a3) (fun q => Frm [(68, some 14), (76, some 3), (77, none), (68, some 18)] I0 q) := by
  unfold x169
  refine F.ite (fun _ => ?_) (fun _ => ?_)
  · exact F.some (Frm.u2 (Frm.ta h0 rfl) rfl)
  · refine F.bind (S := fun q => True) ?_ (fun q1 hq1 => ?_)
    · refine F.ite (fun _ => ?_) (fun _ => ?_)
      · exact F.some trivial
      · exact F.some trivial
    refine F.letS (Frm.ts (Frm.ts (Frm.ts (Frm.ta h0 rfl) (fun _ => rfl)) (fun _ => rfl)) (fun _ => rfl)) (fun J2 hJ2 => ?_)
    exact F.some (Frm.u2 (Frm.ts hJ2 (fun _ => rfl)) rfl)
theorem x186_fr {Z : Nat} (hZ : Z = 85 ∨ Z = 126) (I0 I : St) (h0 : Frm [(Z, some 10), (Z, some 9), (Z, some 8), (Z, some 7), (Z, some 6), (Z, some 5), (Z, some 4), (Z, some 3), (Z, some 11)] I0 I) : Fq (x186 Z I) (fun q => Frm [(Z, some 10), (Z, some 9), (Z, some 8), (Z, some 7), (Z, some 6), (Z, some 5), (Z, some 4), (Z, some 3), (Z, some 11)] I0 q) := by
  rcases hZ with rfl | rfl
  all_goals
    unfold x186
    refine F.letS (Frm.u2 (Frm.u2 (Frm.u2 (Frm.u2 (Frm.u2 (Frm.u2 (Frm.u2 (Frm.u2 h0 rfl) rfl) rfl) rfl) rfl) rfl) rfl) rfl) (fun J1 hJ1 => ?_)
    exact F.some (Frm.u2 hJ1 rfl)
theorem x187_fr {Q : Nat} {Z : Nat} (hQ : Q = 85 ∨ Q = 126) (hZ : Z = 85 ∨ Z = 126) (I0 I : St) (h0 : Frm [] I0 I) : Fq (x187 Q Z I) (fun q => Frm [] I0 q) := by
  rcases hQ with rfl | rfl <;> rcases hZ with rfl | rfl
  all_goals
    unfold x187
    exact F.some h0
theorem l189_3_fr {b1 : Int32} {I0 : St} : ∀ (n : Nat) (b2 : Int32) (I : St), Frm [(82, some 1), (83, none)] I0 I → Fq (l189_3 b1 n b2 I) (fun q => Frm [(82, some 1), (83, none)] I0 q) := by
  intro n
  induction n with
  | zero => intro b2 I h0; exact F.none
  | succ n ih =>
    intro b2 I h0
    rw [l189_3]
    refine F.ite (fun _ => ?_) (fun _ => ?_)
    · exact F.some h0
    · refine F.ite (fun _ => ?_) (fun _ => ?_)
      · refine F.letS (Frm.u2 (Frm.u2 h0 rfl) rfl) (fun J1 hJ1 => ?_)
        exact ih _ _ hJ1
      · exact F.none
theorem x189_fr {a1 : Int32} (I0 I : St) (h0 : Frm [(82, some 1), (83, none)] I0 I) : Fq (x189 I a1) (fun q => Frm [(82, some 1), (83, none)] I0 q) := by
  unfold x189
  refine F.bind (l189_3_fr  _ _ _ h0) (fun q2 hq2 => ?_)
  exact F.some hq2
theorem x190_fr {a1 : Int32} (I0 I : St) (h0 : Frm [(82, some 1)] I0 I) : Fq (x190 I a1) (fun q => Frm [(82, some 1)] I0 q.2) := by
  unfold x190
  refine F.ite (fun _ => ?_) (fun _ => ?_)
  · exact F.some h0
  · refine F.ite (fun _ => ?_) (fun _ => ?_)
    · exact F.some (Frm.u2 h0 rfl)
    · exact F.some h0
theorem x200_fr {t : Nat} (ht : t = 3 ∨ t = 4) (I0 I : St) (h0 : Frm [(82, some 11)] I0 I) : Fq (x200 t I) (fun q => Frm [(82, some 11)] I0 q.2) := by
  rcases ht with rfl | rfl
  all_goals
    unfold x200
    refine F.bindr (fun q1 => ?_)
    exact F.some (Frm.u2 (Frm.u2 h0 rfl) rfl)
theorem l202_2_fr {Z : Nat} {I0 : St} (hZ : Z = 85 ∨ Z = 126) : ∀ (n : Nat) (b1 : Int32) (I : St), Frm [(Z, some 4), ((Z + 1), none), ((Z + 2), none), (Z, some 3), ((Z + 3), none)] I0 I → Fq (l202_2 Z n b1 I) (fun q => Sum.elim (fun a => True) (fun b => Frm [(Z, some 4), ((Z + 1), none), ((Z + 2), none), (Z, some 3), ((Z + 3), none)] I0 b.2) q) := by
  rcases hZ with rfl | rfl
  all_goals
    intro n
    induction n with
    | zero => intro b1 I h0; exact F.none
    | succ n ih =>
      intro b1 I h0
      rw [l202_2]
      refine F.ite (fun _ => ?_) (fun _ => ?_)
      · exact F.some trivial
      · refine F.ite (fun _ => ?_) (fun _ => ?_)
        · refine F.bind (S := fun q => True) ?_ (fun q1 hq1 => ?_)
          · refine F.ite (fun _ => ?_) (fun _ => ?_)
            · exact F.some trivial
            · exact F.some trivial
          refine F.bindr (fun q2 => ?_)
          refine F.ite (fun _ => ?_) (fun _ => ?_)
          · exact ih _ _ h0
          · exact F.some h0
        · exact F.none
theorem l202_176_fr {Z : Nat} {b1 : Int32} {I0 : St} (hZ : Z = 85 ∨ Z = 126) : ∀ (n : Nat) (b2 : Int32) (I : St), Frm [(Z, some 4), ((Z + 1), none), ((Z + 2), none), (Z, some 3), ((Z + 3), none)] I0 I → Fq (l202_176 Z b1 n b2 I) (fun q => Frm [(Z, some 4), ((Z + 1), none), ((Z + 2), none), (Z, some 3), ((Z + 3), none)] I0 q) := by
  rcases hZ with rfl | rfl
  all_goals
    intro n
    induction n with
    | zero => intro b2 I h0; exact F.none
    | succ n ih =>
      intro b2 I h0
      rw [l202_176]
      refine F.ite (fun _ => ?_) (fun _ => ?_)
      · exact F.some h0
      · refine F.ite (fun _ => ?_) (fun _ => ?_)
        · refine F.ite (fun _ => ?_) (fun _ => ?_)
          · refine F.letS (Frm.u2 (Frm.u2 h0 rfl) rfl) (fun J10 hJ10 => ?_)
            exact ih _ _ hJ10
          · exact F.none
        · exact F.none
theorem x202_fr {Z : Nat} (hZ : Z = 85 ∨ Z = 126) (I0 I : St) (h0 : Frm [(Z, some 4), ((Z + 1), none), ((Z + 2), none), (Z, some 3), ((Z + 3), none)] I0 I) : Fq (x202 Z I) (fun q => Frm [(Z, some 4), ((Z + 1), none), ((Z + 2), none), (Z, some 3), ((Z + 3), none)] I0 q.2) := by
  rcases hZ with rfl | rfl
  all_goals
    unfold x202
    refine F.bindE (l202_2_fr (by decide) _ _ _ h0) (fun q4 hq4 => ?_) (fun r hr => ?_)
    · refine F.ite (fun _ => ?_) (fun _ => ?_)
      · refine F.letS (Frm.u2 (Frm.u2 h0 rfl) rfl) (fun J8 hJ8 => ?_)
        refine F.ite (fun _ => ?_) (fun _ => ?_)
        · refine F.letV (fun v9 => ?_)
          refine F.bind (l202_176_fr (by decide) _ _ _ (Frm.u2 hJ8 rfl)) (fun q11 hq11 => ?_)
          exact F.some hq11
        · exact F.none
      · exact F.none
    · exact F.some hr
theorem x206_fr {a1 : Int32} {a2 : Int32} {a3 : Int32} (I0 I : St) (h0 : Frm [(173, none), (172, none), (171, none), (82, some 20)] I0 I) : Fq (x206 I a1 a2 a3) (fun q => Frm [(173, none), (172, none), (171, none), (82, some 20)] I0 q) := by
  unfold x206
  refine F.ite (fun _ => ?_) (fun _ => ?_)
  · refine F.ite (fun _ => ?_) (fun _ => ?_)
    · refine F.ite (fun _ => ?_) (fun _ => ?_)
      · refine F.letS (Frm.u2 (Frm.u2 (Frm.u2 h0 rfl) rfl) rfl) (fun J1 hJ1 => ?_)
        exact F.some (Frm.u2 hJ1 rfl)
      · exact F.none
    · exact F.none
  · exact F.none
theorem x217_fr {a1 : Int32} {a2 : Int32} (I0 I : St) (h0 : Frm [(82, some 5), (82, some 22)] I0 I) : Fq (x217 I a1 a2) (fun q => Frm [(82, some 5), (82, some 22)] I0 q) := by
  unfold x217
  refine F.ite (fun _ => ?_) (fun _ => ?_)
  · exact F.some (Frm.u2 (Frm.u2 h0 rfl) rfl)
  · refine F.ite (fun _ => ?_) (fun _ => ?_)
    · refine F.ite (fun _ => ?_) (fun _ => ?_)
      · exact F.some h0
      · exact F.some (Frm.u2 (Frm.u2 h0 rfl) rfl)
    · exact F.some h0
theorem l224_12_fr {Z : Nat} {b1 : Int32} {b2 : Int32} {I0 : St} (hZ : Z = 85 ∨ Z = 126) : ∀ (n : Nat) (b3 : Int32) (I : St), Frm [((Z + 40), none), (82, some 5), (82, some 22)] I0 I → Fq (l224_12 Z b1 b2 n b3 I) (fun q => Frm [((Z + 40), none), (82, some 5), (82, some 22)] I0 q) := by
  rcases hZ with rfl | rfl
  all_goals
    intro n
    induction n with
    | zero => intro b3 I h0; exact F.none
    | succ n ih =>
      intro b3 I h0
      rw [l224_12]
      refine F.ite (fun _ => ?_) (fun _ => ?_)
      · exact F.some h0
      · refine F.bind (S := fun q => True) ?_ (fun q3 hq3 => ?_)
        · refine F.ite (fun _ => ?_) (fun _ => ?_)
          · refine F.ite (fun _ => ?_) (fun _ => ?_)
            · refine F.bindr (fun q1 => ?_)
              exact F.some trivial
            · exact F.none
          · refine F.ite (fun _ => ?_) (fun _ => ?_)
            · refine F.bindr (fun q2 => ?_)
              exact F.some trivial
            · exact F.none
        refine F.ite (fun _ => ?_) (fun _ => ?_)
        · refine F.ite (fun _ => ?_) (fun _ => ?_)
          · refine F.ite (fun _ => ?_) (fun _ => ?_)
            · refine F.bind (x217_fr  _ _ Frm.refl) (fun q4 hq4 => ?_)
              exact ih _ _ (Frm.trans (Frm.u2 h0 rfl) hq4 rfl)
            · exact F.none
          · exact ih _ _ (Frm.u2 h0 rfl)
        · exact F.none
theorem x224_fr {Z : Nat} {a1 : Int32} (hZ : Z = 85 ∨ Z = 126) (I0 I : St) (h0 : Frm [((Z + 40), none), (82, some 5), (82, some 22)] I0 I) : Fq (x224 Z I a1) (fun q => Frm [((Z + 40), none), (82, some 5), (82, some 22)] I0 q) := by
  rcases hZ with rfl | rfl
  all_goals
    unfold x224
    refine F.ite (fun _ => ?_) (fun _ => ?_)
    · refine F.bind (l224_12_fr (by decide) _ _ _ h0) (fun q5 hq5 => ?_)
      refine F.ite (fun _ => ?_) (fun _ => ?_)
      · refine F.ite (fun _ => ?_) (fun _ => ?_)
        · refine F.bind (S := fun q => True) ?_ (fun q10 hq10 => ?_)
          · refine F.ite (fun _ => ?_) (fun _ => ?_)
            · exact F.some trivial
            · refine F.ite (fun _ => ?_) (fun _ => ?_)
              · exact F.some trivial
              · refine F.ite (fun _ => ?_) (fun _ => ?_)
                · refine F.ite (fun _ => ?_) (fun _ => ?_)
                  · exact F.some trivial
                  · exact F.some trivial
                · exact F.none
          refine F.ite (fun _ => ?_) (fun _ => ?_)
          · exact F.some hq5
          · refine F.ite (fun _ => ?_) (fun _ => ?_)
            · exact F.some hq5
            · refine F.ite (fun _ => ?_) (fun _ => ?_)
              · refine F.bind (x217_fr  _ _ Frm.refl) (fun q11 hq11 => ?_)
                exact F.some (Frm.trans hq5 hq11 rfl)
              · exact F.none
        · exact F.none
      · exact F.none
    · exact F.none
theorem x228_fr {a1 : Int32} (I0 I : St) (h0 : Frm [(82, some 5), (82, some 22)] I0 I) : Fq (x228 I a1) (fun q => Frm [(82, some 5), (82, some 22)] I0 q) := by
  unfold x228
  refine F.ite (fun _ => ?_) (fun _ => ?_)
  · exact F.some (Frm.u2 (Frm.u2 h0 rfl) rfl)
  · exact F.some h0
theorem x231_fr {a1 : Int32} (I0 I : St) (h0 : Frm [(82, some 31), (82, some 30), (82, some 29)] I0 I) : Fq (x231 I a1) (fun q => Frm [(82, some 31), (82, some 30), (82, some 29)] I0 q.2) := by
  unfold x231
  refine F.ite (fun _ => ?_) (fun _ => ?_)
  · exact F.some (Frm.u2 h0 rfl)
  · refine F.letS (Frm.u2 (Frm.u2 h0 rfl) rfl) (fun J1 hJ1 => ?_)
    refine F.ite (fun _ => ?_) (fun _ => ?_)
    · exact F.some (Frm.u2 hJ1 rfl)
    · refine F.ite (fun _ => ?_) (fun _ => ?_)
      · exact F.some (Frm.u2 hJ1 rfl)
      · refine F.ite (fun _ => ?_) (fun _ => ?_)
        · exact F.some (Frm.u2 hJ1 rfl)
        · exact F.some (Frm.u2 hJ1 rfl)
theorem x232_fr {a1 : Int32} (I0 I : St) (h0 : Frm [(82, some 30), (82, some 31), (82, some 29)] I0 I) : Fq (x232 I a1) (fun q => Frm [(82, some 30), (82, some 31), (82, some 29)] I0 q) := by
  unfold x232
  refine F.bind (S := fun q => Frm [(82, some 30), (82, some 31), (82, some 29)] I0 q) ?_ (fun q1 hq1 => ?_)
  · refine F.ite (fun _ => ?_) (fun _ => ?_)
    · exact F.some (Frm.u2 h0 rfl)
    · exact F.some h0
  refine F.ite (fun _ => ?_) (fun _ => ?_)
  · exact F.some (Frm.u2 (Frm.u2 hq1 rfl) rfl)
  · refine F.ite (fun _ => ?_) (fun _ => ?_)
    · exact F.some (Frm.u2 (Frm.u2 hq1 rfl) rfl)
    · exact F.some (Frm.u2 (Frm.u2 hq1 rfl) rfl)
theorem x235_fr {a1 : Int32} {a2 : Int32} (I0 I : St) (h0 : Frm [(82, some 31), (82, some 30), (82, some 29)] I0 I) : Fq (x235 I a1 a2) (fun q => Frm [(82, some 31), (82, some 30), (82, some 29)] I0 q) := by
  unfold x235
  refine F.bind (x231_fr  _ _ Frm.refl) (fun q1 hq1 => ?_)
  refine F.bind (x232_fr  _ _ Frm.refl) (fun q2 hq2 => ?_)
  exact F.some (Frm.trans (Frm.trans h0 hq1 rfl) hq2 rfl)
theorem x236_fr {a1 : Int32} {a2 : Int32} {a3 : Int32} (I0 I : St) (h0 : Frm [(82, some 31), (82, some 30), (82, some 29)] I0 I) : Fq (x236 I a1 a2 a3) (fun q => Frm [(82, some 31), (82, some 30), (82, some 29)] I0 q) := by
  unfold x236
  refine F.bind (x231_fr  _ _ Frm.refl) (fun q1 hq1 => ?_)
  refine F.bind (x231_fr  _ _ Frm.refl) (fun q2 hq2 => ?_)
  refine F.ite (fun _ => ?_) (fun _ => ?_)
  · exact F.some (Frm.trans (Frm.trans h0 hq1 rfl) hq2 rfl)
  · refine F.bind (x232_fr  _ _ Frm.refl) (fun q3 hq3 => ?_)
    exact F.some (Frm.trans (Frm.trans (Frm.trans h0 hq1 rfl) hq2 rfl) hq3 rfl)
theorem x239_fr {a1 : Int32} {a2 : Int32} (I0 I : St) (h0 : Frm [(199, none), (198, none), (82, some 65)] I0 I) : Fq (x239 I a1 a2) (fun q => Frm [(199, none), (198, none), (82, some 65)] I0 q) := by
  unfold x239
  refine F.ite (fun _ => ?_) (fun _ => ?_)
  · refine F.ite (fun _ => ?_) (fun _ => ?_)
    · refine F.letS (Frm.u2 (Frm.u2 h0 rfl) rfl) (fun J1 hJ1 => ?_)
      exact F.some (Frm.u2 hJ1 rfl)
    · exact F.none
  · exact F.none
theorem x240_fr (I0 I : St) (h0 : Frm [(82, some 66), (82, some 65)] I0 I) : Fq (x240 I) (fun q => Frm [(82, some 66), (82, some 65)] I0 q.2) := by
  unfold x240
  refine F.ite (fun _ => ?_) (fun _ => ?_)
  · refine F.letS (Frm.u2 (Frm.u2 h0 rfl) rfl) (fun J1 hJ1 => ?_)
    refine F.ite (fun _ => ?_) (fun _ => ?_)
    · exact F.some hJ1
    · exact F.none
  · exact F.none
theorem x241_fr {a1 : Int32} (I0 I : St) (h0 : Frm [(82, some 34), (82, some 66), (82, some 65), (191, none), (190, none), (189, none), (82, some 38), (82, some 39), (192, none)] I0 I) : Fq (x241 I a1) (fun q => Frm [(82, some 34), (82, some 66), (82, some 65), (191, none), (190, none), (189, none), (82, some 38), (82, some 39), (192, none)] I0 q) := by
  unfold x241
  refine F.ite (fun _ => ?_) (fun _ => ?_)
  · exact F.some (Frm.u2 h0 rfl)
  · refine F.bind (x240_fr  _ _ Frm.refl) (fun q1 hq1 => ?_)
    refine F.ite (fun _ => ?_) (fun _ => ?_)
    · refine F.ite (fun _ => ?_) (fun _ => ?_)
      · refine F.ite (fun _ => ?_) (fun _ => ?_)
        · refine F.letS (Frm.u2 (Frm.u2 (Frm.u2 (Frm.trans h0 hq1 rfl) rfl) rfl) rfl) (fun J2 hJ2 => ?_)
          refine F.ite (fun _ => ?_) (fun _ => ?_)
          · refine F.bind (S := fun q => True) ?_ (fun q3 hq3 => ?_)
            · refine F.ite (fun _ => ?_) (fun _ => ?_)
              · exact F.some trivial
              · exact F.some trivial
            refine F.ite (fun _ => ?_) (fun _ => ?_)
            · refine F.ite (fun _ => ?_) (fun _ => ?_)
              · refine F.ite (fun _ => ?_) (fun _ => ?_)
                · refine F.letS (Frm.u2 (Frm.u2 (Frm.u2 hJ2 rfl) rfl) rfl) (fun J4 hJ4 => ?_)
                  exact F.some hJ4
                · refine F.letS (Frm.u2 (Frm.u2 (Frm.u2 hJ2 rfl) rfl) rfl) (fun J5 hJ5 => ?_)
                  exact F.some hJ5
              · exact F.none
            · exact F.none
          · exact F.none
        · exact F.none
      · exact F.none
    · exact F.none
theorem l244_83_fr {b2 : Int32} {b3 : Int32} {I0 : St} : ∀ (n : Nat) (b4 : Int32) (I : St), Frm [(186, none), (185, none), (181, none), (82, some 40), (82, some 41), (184, none), (183, none), (182, none), (82, some 48), (82, some 34)] I0 I → Fq (l244_83 b2 b3 n b4 I) (fun q => Frm [(186, none), (185, none), (181, none), (82, some 40), (82, some 41), (184, none), (183, none), (182, none), (82, some 48), (82, some 34)] I0 q) := by
  intro n
  induction n with
  | zero => intro b4 I h0; exact F.none
  | succ n ih =>
    intro b4 I h0
    rw [l244_83]
    refine F.ite (fun _ => ?_) (fun _ => ?_)
    · exact F.some h0
    · refine F.ite (fun _ => ?_) (fun _ => ?_)
      · refine F.ite (fun _ => ?_) (fun _ => ?_)
        · exact ih _ _ (Frm.u2 (Frm.u2 h0 rfl) rfl)
        · exact F.none
      · exact F.none
theorem x244_fr {a1 : Int32} {a2 : Int32} (I0 I : St) (h0 : Frm [(186, none), (185, none), (181, none), (82, some 40), (82, some 41), (184, none), (183, none), (182, none), (82, some 48), (82, some 34)] I0 I) : Fq (x244 I a1 a2) (fun q => Frm [(186, none), (185, none), (181, none), (82, some 40), (82, some 41), (184, none), (183, none), (182, none), (82, some 48), (82, some 34)] I0 q.2) := by
  unfold x244
  refine F.ite (fun _ => ?_) (fun _ => ?_)
  · refine F.ite (fun _ => ?_) (fun _ => ?_)
    · refine F.letS (Frm.u2 (Frm.u2 (Frm.u2 h0 rfl) rfl) rfl) (fun J1 hJ1 => ?_)
      refine F.ite (fun _ => ?_) (fun _ => ?_)
      · refine F.ite (fun _ => ?_) (fun _ => ?_)
        · refine F.ite (fun _ => ?_) (fun _ => ?_)
          · refine F.letS (Frm.u2 (Frm.u2 (Frm.u2 hJ1 rfl) rfl) rfl) (fun J2 hJ2 => ?_)
            refine F.bind (l244_83_fr  _ _ _ hJ2) (fun q3 hq3 => ?_)
            exact F.some (Frm.u2 hq3 rfl)
          · exact F.none
        · exact F.none
      · exact F.none
    · exact F.none
  · exact F.some (Frm.u2 h0 rfl)
theorem x247_fr (I0 I : St) (h0 : Frm [(82, some 63), (82, some 55), (82, some 65), (82, some 64)] I0 I) : Fq (x247 I) (fun q => Frm [(82, some 63), (82, some 55), (82, some 65), (82, some 64)] I0 q) := by
  unfold x247
  refine F.ite (fun _ => ?_) (fun _ => ?_)
  · refine F.letS (Frm.u2 (Frm.u2 h0 rfl) rfl) (fun J1 hJ1 => ?_)
    refine F.ite (fun _ => ?_) (fun _ => ?_)
    · refine F.ite (fun _ => ?_) (fun _ => ?_)
      · refine F.letS (Frm.u2 (Frm.u2 hJ1 rfl) rfl) (fun J2 hJ2 => ?_)
        exact F.some hJ2
      · exact F.none
    · exact F.none
  · exact F.none
theorem x260_fr {Q : Nat} (hQ : Q = 85 ∨ Q = 126) (I0 I : St) (h0 : Frm [(82, some 66), (82, some 65), (82, some 36), (82, some 35), (82, some 34), (82, some 63), (82, some 55), (82, some 64), (199, none), (198, none)] I0 I) : Fq (x260 Q I) (fun q => Frm [(82, some 66), (82, some 65), (82, some 36), (82, some 35), (82, some 34), (82, some 63), (82, some 55), (82, some 64), (199, none), (198, none)] I0 q) := by
  rcases hQ with rfl | rfl
  all_goals
    unfold x260
    refine F.ite (fun _ => ?_) (fun _ => ?_)
    · refine F.bind (S := fun q => Frm [(82, some 66), (82, some 65), (82, some 36), (82, some 35), (82, some 34), (82, some 63), (82, some 55), (82, some 64), (199, none), (198, none)] I0 q.2) ?_ (fun q2 hq2 => ?_)
      · refine F.ite (fun _ => ?_) (fun _ => ?_)
        · exact F.some h0
        · refine F.bind (x240_fr  _ _ Frm.refl) (fun q1 hq1 => ?_)
          exact F.some (Frm.trans h0 hq1 rfl)
      refine F.bind (S := fun q => True) ?_ (fun q3 hq3 => ?_)
      · refine F.ite (fun _ => ?_) (fun _ => ?_)
        · exact F.some trivial
        · exact F.some trivial
      refine F.ite (fun _ => ?_) (fun _ => ?_)
      · exact F.some (Frm.u2 (Frm.u2 (Frm.u2 hq2 rfl) rfl) rfl)
      · refine F.bind (x247_fr  _ _ Frm.refl) (fun q4 hq4 => ?_)
        refine F.ite (fun _ => ?_) (fun _ => ?_)
        · exact F.some (Frm.u2 (Frm.trans hq2 hq4 rfl) rfl)
        · refine F.bind (x239_fr  _ _ Frm.refl) (fun q5 hq5 => ?_)
          exact F.some (Frm.trans (Frm.u2 (Frm.trans hq2 hq4 rfl) rfl) hq5 rfl)
    · exact F.none
theorem x262_fr {a1 : Int32} (I0 I : St) (h0 : Frm [(82, some 6)] I0 I) : Fq (x262 I a1) (fun q => Frm [(82, some 6)] I0 q.2) := by
  unfold x262
  exact F.some (Frm.u2 h0 rfl)
theorem x263_fr {a1 : Int32} {a2 : Int32} (I0 I : St) (h0 : Frm [(167, none)] I0 I) : Fq (x263 I a1 a2) (fun q => Frm [(167, none)] I0 q.2) := by
  unfold x263
  refine F.ite (fun _ => ?_) (fun _ => ?_)
  · exact F.some h0
  · refine F.ite (fun _ => ?_) (fun _ => ?_)
    · refine F.ite (fun _ => ?_) (fun _ => ?_)
      · refine F.ite (fun _ => ?_) (fun _ => ?_)
        · exact F.some (Frm.u2 h0 rfl)
        · exact F.none
      · exact F.none
    · exact F.some h0
theorem x264_fr {a1 : Int32} {a2 : Int32} (I0 I : St) (h0 : Frm [(168, none)] I0 I) : Fq (x264 I a1 a2) (fun q => Frm [(168, none)] I0 q.2) := by
  unfold x264
  refine F.ite (fun _ => ?_) (fun _ => ?_)
  · exact F.some h0
  · refine F.ite (fun _ => ?_) (fun _ => ?_)
    · refine F.ite (fun _ => ?_) (fun _ => ?_)
      · refine F.ite (fun _ => ?_) (fun _ => ?_)
        · exact F.some (Frm.u2 h0 rfl)
        · exact F.none
      · exact F.none
    · exact F.some h0
theorem x265_fr {a1 : Int32} {a2 : Int32} {a3 : Int32} (I0 I : St) (h0 : Frm [(170, none), (169, none)] I0 I) : Fq (x265 I a1 a2 a3) (fun q => Frm [(170, none), (169, none)] I0 q.2) := by
  unfold x265
  refine F.ite (fun _ => ?_) (fun _ => ?_)
  · exact F.some h0
  · refine F.ite (fun _ => ?_) (fun _ => ?_)
    · refine F.ite (fun _ => ?_) (fun _ => ?_)
      · refine F.ite (fun _ => ?_) (fun _ => ?_)
        · exact F.some (Frm.u2 (Frm.u2 h0 rfl) rfl)
        · exact F.none
      · exact F.none
    · exact F.some h0
theorem l4_50_fr {P : Nat} {I0 : St} (hP : P = 3 ∨ P = 18) : ∀ (n : Nat) (b1 : Int32) (I : St), Frm [((P + 2), none), ((P + 1), some 3), ((P + 11), some 3), ((P + 9), some 3), ((P + 7), some 3), ((P + 5), some 3), ((P + 3), some 3)] I0 I → Fq (l4_50 P n b1 I) (fun q => Frm [((P + 2), none), ((P + 1), some 3), ((P + 11), some 3), ((P + 9), some 3), ((P + 7), some 3), ((P + 5), some 3), ((P + 3), some 3)] I0 q) := by
  rcases hP with rfl | rfl
  all_goals
    intro n
    induction n with
    | zero => intro b1 I h0; exact F.none
    | succ n ih =>
      intro b1 I h0
      rw [l4_50]
      refine F.ite (fun _ => ?_) (fun _ => ?_)
      · exact F.some h0
      · refine F.bind (x6_fr (by decide) _ _ Frm.refl) (fun q2 hq2 => ?_)
        refine F.bind (S := fun q => True) ?_ (fun q3 hq3 => ?_)
        · refine F.ite (fun _ => ?_) (fun _ => ?_)
          · exact F.some trivial
          · refine F.ite (fun _ => ?_) (fun _ => ?_)
            · exact F.some trivial
            · exact F.some trivial
        exact ih _ _ (Frm.ts (Frm.trans h0 hq2 rfl) (fun _ => rfl))
theorem x4_fr {P : Nat} (hP : P = 3 ∨ P = 18) (I0 I : St) (h0 : Frm [((P + 2), none), ((P + 1), some 3), ((P + 11), some 3), ((P + 9), some 3), ((P + 7), some 3), ((P + 5), some 3), ((P + 3), some 3)] I0 I) : Fq (x4 P I) (fun q => Frm [((P + 2), none), ((P + 1), some 3), ((P + 11), some 3), ((P + 9), some 3), ((P + 7), some 3), ((P + 5), some 3), ((P + 3), some 3)] I0 q) := by
  rcases hP with rfl | rfl
  all_goals
    unfold x4
    refine F.letS (Frm.tr (Frm.tr (Frm.tr (Frm.tr (Frm.tr h0 rfl) rfl) rfl) rfl) rfl) (fun J1 hJ1 => ?_)
    refine F.bind (l4_50_fr (by decide) _ _ _ (Frm.tr hJ1 rfl)) (fun q4 hq4 => ?_)
    exact F.some hq4
theorem x21_fr {a1 : Int32} {a2 : Int32} {a3 : Int32} {a4 : Int32} {a5 : Int32} (I0 I : St) (h0 : Frm [(2, none), (1, some 3)] I0 I) : Fq (x21 I a1 a2 a3 a4 a5) (fun q => Frm [(2, none), (1, some 3)] I0 q.2) := by
  unfold x21
  refine F.ite (fun _ => ?_) (fun _ => ?_)
  · refine F.bind (x22_fr  _ _ Frm.refl) (fun q1 hq1 => ?_)
    refine F.bind (x22_fr  _ _ Frm.refl) (fun q2 hq2 => ?_)
    refine F.bind (x22_fr  _ _ Frm.refl) (fun q3 hq3 => ?_)
    refine F.bind (x22_fr  _ _ Frm.refl) (fun q4 hq4 => ?_)
    refine F.bind (x22_fr  _ _ Frm.refl) (fun q5 hq5 => ?_)
    exact F.some (Frm.trans (Frm.trans (Frm.trans (Frm.trans (Frm.trans h0 hq1 rfl) hq2 rfl) hq3 rfl) hq4 rfl) hq5 rfl)
  · exact F.some h0
theorem l35_46_fr {b1 : Int32} {b2 : Int32} {b3 : Int32} {I0 : St} : ∀ (n : Nat) (b4 : Int32) (b5 : Int32) (I : St), Frm [(39, some 3), (38, none), (37, some 3), (42, none)] I0 I → Fq (l35_46 b1 b2 b3 n b4 b5 I) (fun q => Sum.elim (fun a => True) (fun b => Frm [(39, some 3), (38, none), (37, some 3), (42, none)] I0 b.2) q) := by
  intro n
  induction n with
  | zero => intro b4 b5 I h0; exact F.none
  | succ n ih =>
    intro b4 b5 I h0
    rw [l35_46]
    refine F.ite (fun _ => ?_) (fun _ => ?_)
    · exact F.some trivial
    · refine F.ite (fun _ => ?_) (fun _ => ?_)
      · exact F.some trivial
      · refine F.bindr (fun q1 => ?_)
        refine F.ite (fun _ => ?_) (fun _ => ?_)
        · exact ih _ _ _ h0
        · exact F.some (Frm.tr h0 rfl)
theorem x35_fr (I0 I : St) (h0 : Frm [(39, some 3), (38, none), (37, some 3), (42, none)] I0 I) : Fq (x35 I) (fun q => Frm [(39, some 3), (38, none), (37, some 3), (42, none)] I0 q.2) := by
  unfold x35
  refine F.bindE (l35_46_fr  _ _ _ _ h0) (fun q2 hq2 => ?_) (fun r hr => ?_)
  · refine F.letS (Frm.ts (Frm.ts (Frm.ts (Frm.ta h0 rfl) (fun _ => rfl)) (fun _ => rfl)) (fun _ => rfl)) (fun J5 hJ5 => ?_)
    refine F.letS (Frm.ts (Frm.ts hJ5 (fun _ => rfl)) (fun _ => rfl)) (fun J6 hJ6 => ?_)
    exact F.some (Frm.ts hJ6 (fun _ => rfl))
  · exact F.some hr
theorem l43_9_fr {b1 : Int32} {b2 : Int32} {I0 : St} : ∀ (n : Nat) (b3 : Int32) (I : St), Frm [(36, some 4), (40, none), (39, some 3), (36, some 3), (38, none), (37, some 3), (42, none), (35, none), (34, some 3)] I0 I → Fq (l43_9 b1 b2 n b3 I) (fun q => Frm [(36, some 4), (40, none), (39, some 3), (36, some 3), (38, none), (37, some 3), (42, none), (35, none), (34, some 3)] I0 q.2) := by
  intro n
  induction n with
  | zero => intro b3 I h0; exact F.none
  | succ n ih =>
    intro b3 I h0
    rw [l43_9]
    refine F.ite (fun _ => ?_) (fun _ => ?_)
    · exact F.some h0
    · refine F.ite (fun _ => ?_) (fun _ => ?_)
      · refine F.ite (fun _ => ?_) (fun _ => ?_)
        · exact F.some h0
        · refine F.bind (x38_fr  _ _ Frm.refl) (fun q2 hq2 => ?_)
          exact ih _ _ (Frm.trans h0 hq2 rfl)
      · refine F.bind (x38_fr  _ _ Frm.refl) (fun q3 hq3 => ?_)
        exact ih _ _ (Frm.trans h0 hq3 rfl)
theorem x43_fr {a1 : Int32} {a2 : Int32} (I0 I : St) (h0 : Frm [(36, some 4), (40, none), (39, some 3), (36, some 3), (38, none), (37, some 3), (42, none), (35, none), (34, some 3)] I0 I) : Fq (x43 I a1 a2) (fun q => Frm [(36, some 4), (40, none), (39, some 3), (36, some 3), (38, none), (37, some 3), (42, none), (35, none), (34, some 3)] I0 q.2) := by
  unfold x43
  refine F.bind (x29_fr  _ _ Frm.refl) (fun q1 hq1 => ?_)
  refine F.bind (l43_9_fr  _ _ _ (Frm.trans h0 hq1 rfl)) (fun q4 hq4 => ?_)
  refine F.bind (x35_fr  _ _ Frm.refl) (fun q7 hq7 => ?_)
  refine F.ite (fun _ => ?_) (fun _ => ?_)
  · refine F.bind (S := fun q => True) ?_ (fun q8 hq8 => ?_)
    · refine F.ite (fun _ => ?_) (fun _ => ?_)
      · exact F.some trivial
      · exact F.some trivial
    refine F.bind (x45_fr  _ _ Frm.refl) (fun q9 hq9 => ?_)
    exact F.some (Frm.trans (Frm.trans hq4 hq7 rfl) hq9 rfl)
  · refine F.bind (x45_fr  _ _ Frm.refl) (fun q10 hq10 => ?_)
    exact F.some (Frm.trans (Frm.trans hq4 hq7 rfl) hq10 rfl)
theorem x59_fr (I0 I : St) (h0 : Frm [(56, some 5), (56, some 3), (56, some 6)] I0 I) : Fq (x59 I) (fun q => Frm [(56, some 5), (56, some 3), (56, some 6)] I0 q.2) := by
  unfold x59
  refine F.ite (fun _ => ?_) (fun _ => ?_)
  · exact F.some (Frm.u2 h0 rfl)
  · refine F.ite (fun _ => ?_) (fun _ => ?_)
    · exact F.some (Frm.u2 (Frm.u2 h0 rfl) rfl)
    · refine F.bind (x58_fr  _ _ Frm.refl) (fun q1 hq1 => ?_)
      exact F.some (Frm.trans h0 hq1 rfl)
theorem x66_fr {k : Nat} {P : Nat} {a2 : Int32} (hP : P = 3 ∨ P = 18) (hk : k = P + 3 ∨ k = P + 5 ∨ k = P + 7) (I0 I : St) (h0 : Frm [(56, some 3), (56, some 5), (56, some 6), ((k + 1), none), (k, some 3), (47, none), (46, some 3)] I0 I) : Fq (x66 k P I a2) (fun q => Frm [(56, some 3), (56, some 5), (56, some 6), ((k + 1), none), (k, some 3), (47, none), (46, some 3)] I0 q.2) := by
  rcases hP with rfl | rfl <;> rcases hk with rfl | rfl | rfl
  all_goals
    unfold x66
    refine F.bind (x59_fr  _ _ Frm.refl) (fun q1 hq1 => ?_)
    refine F.letS (Frm.ts (Frm.ts (Frm.ts (Frm.ta (Frm.trans (Frm.u2 h0 rfl) hq1 rfl) rfl) (fun _ => rfl)) (fun _ => rfl)) (fun _ => rfl)) (fun J2 hJ2 => ?_)
    refine F.letS (Frm.ts (Frm.ts (Frm.ts (Frm.ta hJ2 rfl) (fun _ => rfl)) (fun _ => rfl)) (fun _ => rfl)) (fun J3 hJ3 => ?_)
    exact F.some hJ3
theorem x68_fr {P : Nat} (hP : P = 3 ∨ P = 18) (I0 I : St) (h0 : Frm [(56, some 3), (56, some 5), (56, some 6), ((P + 6), none), ((P + 5), some 3), (47, none), (46, some 3)] I0 I) : Fq (x68 P I) (fun q => Frm [(56, some 3), (56, some 5), (56, some 6), ((P + 6), none), ((P + 5), some 3), (47, none), (46, some 3)] I0 q) := by
  rcases hP with rfl | rfl
  all_goals
    unfold x68
    refine F.ite (fun _ => ?_) (fun _ => ?_)
    · refine F.bind (x66_fr (by decide) (by decide) _ _ Frm.refl) (fun q1 hq1 => ?_)
      refine F.bind (x67_fr  _ _ Frm.refl) (fun q2 hq2 => ?_)
      refine F.bind (x62_fr  _ _ Frm.refl) (fun q3 hq3 => ?_)
      exact F.some (Frm.trans (Frm.ts (Frm.trans (Frm.trans h0 hq1 rfl) hq2 rfl) (fun _ => rfl)) hq3 rfl)
    · refine F.bind (x58_fr  _ _ Frm.refl) (fun q4 hq4 => ?_)
      exact F.some (Frm.trans h0 hq4 rfl)
theorem x69_fr {P : Nat} {a1 : Int32} (hP : P = 3 ∨ P = 18) (I0 I : St) (h0 : Frm [((P + 2), none), (56, some 3), (56, some 5), (56, some 6), ((P + 8), none), ((P + 7), some 3), (47, none), (46, some 3), (49, none), (48, some 3), (56, some 4)] I0 I) : Fq (x69 P I a1) (fun q => Frm [((P + 2), none), (56, some 3), (56, some 5), (56, some 6), ((P + 8), none), ((P + 7), some 3), (47, none), (46, some 3), (49, none), (48, some 3), (56, some 4)] I0 q) := by
  rcases hP with rfl | rfl
  all_goals
    unfold x69
    refine F.ite (fun _ => ?_) (fun _ => ?_)
    · refine F.bind (x66_fr (by decide) (by decide) _ _ Frm.refl) (fun q1 hq1 => ?_)
      refine F.letS (Frm.ts (Frm.ts (Frm.ta (Frm.trans (Frm.ts h0 (fun _ => rfl)) hq1 rfl) rfl) (fun _ => rfl)) (fun _ => rfl)) (fun J2 hJ2 => ?_)
      refine F.bind (x70_fr (by decide) _ _ Frm.refl) (fun q3 hq3 => ?_)
      refine F.bind (x67_fr  _ _ Frm.refl) (fun q4 hq4 => ?_)
      refine F.letS (Frm.ts (Frm.ts (Frm.trans (Frm.trans (Frm.ts hJ2 (fun _ => rfl)) hq3 rfl) hq4 rfl) (fun _ => rfl)) (fun _ => rfl)) (fun J5 hJ5 => ?_)
      refine F.letS (Frm.ts (Frm.ts (Frm.ts hJ5 (fun _ => rfl)) (fun _ => rfl)) (fun _ => rfl)) (fun J6 hJ6 => ?_)
      refine F.bind (x62_fr  _ _ Frm.refl) (fun q7 hq7 => ?_)
      exact F.some (Frm.u2 (Frm.trans (Frm.ts hJ6 (fun _ => rfl)) hq7 rfl) rfl)
    · refine F.bind (x58_fr  _ _ Frm.refl) (fun q8 hq8 => ?_)
      exact F.some (Frm.trans h0 hq8 rfl)
theorem l73_81_fr {P : Nat} {b2 : Int32} {I0 : St} (hP : P = 3 ∨ P = 18) : ∀ (n : Nat) (b3 : Int32) (I : St), Frm [(56, some 5), (56, some 3), (56, some 6), (55, none), ((P + 12), none), ((P + 8), none), (54, some 3), ((P + 11), some 3)] I0 I → Fq (l73_81 P b2 n b3 I) (fun q => Frm [(56, some 5), (56, some 3), (56, some 6), (55, none), ((P + 12), none), ((P + 8), none), (54, some 3), ((P + 11), some 3)] I0 q) := by
  rcases hP with rfl | rfl
  all_goals
    intro n
    induction n with
    | zero => intro b3 I h0; exact F.none
    | succ n ih =>
      intro b3 I h0
      rw [l73_81]
      refine F.ite (fun _ => ?_) (fun _ => ?_)
      · exact F.some h0
      · refine F.bind (x59_fr  _ _ Frm.refl) (fun q2 hq2 => ?_)
        exact ih _ _ (Frm.ts (Frm.ts (Frm.trans h0 hq2 rfl) (fun _ => rfl)) (fun _ => rfl))
theorem x73_fr {P : Nat} (hP : P = 3 ∨ P = 18) (I0 I : St) (h0 : Frm [(56, some 5), (56, some 3), (56, some 6), (55, none), ((P + 12), none), ((P + 8), none), (54, some 3), ((P + 11), some 3)] I0 I) : Fq (x73 P I) (fun q => Frm [(56, some 5), (56, some 3), (56, some 6), (55, none), ((P + 12), none), ((P + 8), none), (54, some 3), ((P + 11), some 3)] I0 q) := by
  rcases hP with rfl | rfl
  all_goals
    unfold x73
    refine F.ite (fun _ => ?_) (fun _ => ?_)
    · refine F.letS (Frm.u2 (Frm.ts h0 (fun _ => rfl)) rfl) (fun J1 hJ1 => ?_)
      refine F.bind (l73_81_fr (by decide) _ _ _ (Frm.ta (Frm.ta hJ1 rfl) rfl)) (fun q3 hq3 => ?_)
      refine F.bind (x62_fr  _ _ Frm.refl) (fun q7 hq7 => ?_)
      exact F.some (Frm.trans hq3 hq7 rfl)
    · refine F.bind (x58_fr  _ _ Frm.refl) (fun q8 hq8 => ?_)
      exact F.some (Frm.trans h0 hq8 rfl)
theorem x77_fr {a1 : Int32} (I0 I : St) (h0 : Frm [(56, some 3), (56, some 5)] I0 I) : Fq (x77 I a1) (fun q => Frm [(56, some 3), (56, some 5)] I0 q.2) := by
  unfold x77
  refine F.ite (fun _ => ?_) (fun _ => ?_)
  · refine F.bind (x78_fr  _ _ Frm.refl) (fun q1 hq1 => ?_)
    exact F.some (Frm.trans h0 hq1 rfl)
  · refine F.ite (fun _ => ?_) (fun _ => ?_)
    · refine F.ite (fun _ => ?_) (fun _ => ?_)
      · exact F.some (Frm.u2 (Frm.u2 h0 rfl) rfl)
      · refine F.bind (x78_fr  _ _ Frm.refl) (fun q2 hq2 => ?_)
        exact F.some (Frm.trans (Frm.u2 h0 rfl) hq2 rfl)
    · refine F.bind (x78_fr  _ _ Frm.refl) (fun q3 hq3 => ?_)
      exact F.some (Frm.trans (Frm.u2 h0 rfl) hq3 rfl)
theorem x79_fr {P : Nat} {a1 : Int32} {a2 : Int32} (hP : P = 3 ∨ P = 18) (I0 I : St) (h0 : Frm [(56, some 5), (56, some 3), (56, some 6), (53, none), ((P + 10), none)] I0 I) : Fq (x79 P I a1 a2) (fun q => Frm [(56, some 5), (56, some 3), (56, some 6), (53, none), ((P + 10), none)] I0 q) := by
  rcases hP with rfl | rfl
  all_goals
    unfold x79
    refine F.bind (x59_fr  _ _ Frm.refl) (fun q1 hq1 => ?_)
    exact F.some (Frm.ts (Frm.ts (Frm.trans h0 hq1 rfl) (fun _ => rfl)) (fun _ => rfl))
theorem x80_fr {P : Nat} (hP : P = 3 ∨ P = 18) (I0 I : St) (h0 : Frm [(56, some 5), (56, some 3), (56, some 6), (51, none), (50, some 3), (49, none)] I0 I) : Fq (x80 P I) (fun q => Frm [(56, some 5), (56, some 3), (56, some 6), (51, none), (50, some 3), (49, none)] I0 q) := by
  rcases hP with rfl | rfl
  all_goals
    unfold x80
    refine F.bind (x59_fr  _ _ Frm.refl) (fun q1 hq1 => ?_)
    refine F.letS (Frm.ts (Frm.ts (Frm.ta (Frm.trans h0 hq1 rfl) rfl) (fun _ => rfl)) (fun _ => rfl)) (fun J2 hJ2 => ?_)
    refine F.letV (fun v3 => ?_)
    refine F.letS (Frm.ts (Frm.ts hJ2 (fun _ => rfl)) (fun _ => rfl)) (fun J4 hJ4 => ?_)
    refine F.bind (x62_fr  _ _ Frm.refl) (fun q5 hq5 => ?_)
    exact F.some (Frm.trans hJ4 hq5 rfl)
theorem x82_fr {P : Nat} {a1 : Int32} (hP : P = 3 ∨ P = 18) (I0 I : St) (h0 : Frm [(57, some 4), (57, some 3), ((P + 2), none), (38, none)] I0 I) : Fq (x82 P I a1) (fun q => Frm [(57, some 4), (57, some 3), ((P + 2), none), (38, none)] I0 q) := by
  rcases hP with rfl | rfl
  · unfold x82
    refine F.bind (S := fun q => Frm [(57, some 4), (57, some 3), ((3 + 2), none), (38, none)] I0 q) ?_ (fun q2 hq2 => ?_)
    · refine F.ite (fun _ => ?_) (fun _ => ?_)
      · exact F.some h0
      · refine F.ite (fun _ => ?_) (fun _ => ?_)
        · exact F.some h0
        · refine F.ite (fun _ => ?_) (fun _ => ?_)
          · refine F.bind (x83_fr  _ _ Frm.refl) (fun q1 hq1 => ?_)
            exact F.some (Frm.trans h0 hq1 rfl)
          · exact F.some (Frm.ts h0 (fun _ => rfl))
    refine F.ite (fun _ => ?_) (fun _ => ?_)
    · exact F.some (Frm.ts hq2 (fun _ => rfl))
    · refine F.bind (x83_fr  _ _ Frm.refl) (fun q4 hq4 => ?_)
      exact F.some (Frm.trans hq2 hq4 rfl)
  · unfold x82
    refine F.bind (S := fun q => Frm [(57, some 4), (57, some 3), ((18 + 2), none), (38, none)] I0 q) ?_ (fun q2 hq2 => ?_)
    · refine F.ite (fun _ => ?_) (fun _ => ?_)
      · exact F.some h0
      · refine F.ite (fun _ => ?_) (fun _ => ?_)
        · exact F.some h0
        · refine F.ite (fun _ => ?_) (fun _ => ?_)
          · refine F.bind (x83_fr  _ _ Frm.refl) (fun q1 hq1 => ?_)
            exact F.some (Frm.trans h0 hq1 rfl)
          · exact F.some (Frm.ts h0 (fun _ => rfl))
    refine F.ite (fun _ => ?_) (fun _ => ?_)
    · exact F.some (Frm.ts hq2 (fun _ => rfl))
    · refine F.bind (x83_fr  _ _ Frm.refl) (fun q4 hq4 => ?_)
      exact F.some (Frm.trans hq2 hq4 rfl)
theorem l91_42_fr {P : Nat} {b1 : Int32} {b4 : Int32} {I0 : St} (hP : P = 3 ∨ P = 18) : ∀ (n : Nat) (b5 : Int32) (I : St), Frm [(57, some 4), (57, some 3), ((P + 12), none)] I0 I → Fq (l91_42 P b1 b4 n b5 I) (fun q => Frm [(57, some 4), (57, some 3), ((P + 12), none)] I0 q) := by
  rcases hP with rfl | rfl
  · intro n
    induction n with
    | zero => intro b5 I h0; exact F.none
    | succ n ih =>
      intro b5 I h0
      rw [l91_42]
      refine F.ite (fun _ => ?_) (fun _ => ?_)
      · exact F.some h0
      · refine F.bind (x92_fr  _ _ Frm.refl) (fun q1 hq1 => ?_)
        refine F.bind (x92_fr  _ _ Frm.refl) (fun q2 hq2 => ?_)
        refine F.bind (x92_fr  _ _ Frm.refl) (fun q3 hq3 => ?_)
        refine F.bind (S := fun q => Frm [(57, some 4), (57, some 3), ((3 + 12), none)] I0 q) ?_ (fun q5 hq5 => ?_)
        · refine F.ite (fun _ => ?_) (fun _ => ?_)
          · exact F.some (Frm.trans (Frm.trans (Frm.trans h0 hq1 rfl) hq2 rfl) hq3 rfl)
          · refine F.ite (fun _ => ?_) (fun _ => ?_)
            · exact F.some (Frm.trans (Frm.trans (Frm.trans h0 hq1 rfl) hq2 rfl) hq3 rfl)
            · refine F.ite (fun _ => ?_) (fun _ => ?_)
              · exact F.some (Frm.trans (Frm.trans (Frm.trans h0 hq1 rfl) hq2 rfl) hq3 rfl)
              · refine F.ite (fun _ => ?_) (fun _ => ?_)
                · exact F.some (Frm.trans (Frm.trans (Frm.trans h0 hq1 rfl) hq2 rfl) hq3 rfl)
                · refine F.bind (x83_fr  _ _ Frm.refl) (fun q4 hq4 => ?_)
                  exact F.some (Frm.trans (Frm.trans (Frm.trans (Frm.trans h0 hq1 rfl) hq2 rfl) hq3 rfl) hq4 rfl)
        refine F.bind (x93_fr  _ _ Frm.refl) (fun q6 hq6 => ?_)
        exact ih _ _ (Frm.ts (Frm.trans (Frm.ts (Frm.ts (Frm.ts hq5 (fun _ => rfl)) (fun _ => rfl)) (fun _ => rfl)) hq6 rfl) (fun _ => rfl))
  · intro n
    induction n with
    | zero => intro b5 I h0; exact F.none
    | succ n ih =>
      intro b5 I h0
      rw [l91_42]
      refine F.ite (fun _ => ?_) (fun _ => ?_)
      · exact F.some h0
      · refine F.bind (x92_fr  _ _ Frm.refl) (fun q1 hq1 => ?_)
        refine F.bind (x92_fr  _ _ Frm.refl) (fun q2 hq2 => ?_)
        refine F.bind (x92_fr  _ _ Frm.refl) (fun q3 hq3 => ?_)
        refine F.bind (S := fun q => Frm [(57, some 4), (57, some 3), ((18 + 12), none)] I0 q) ?_ (fun q5 hq5 => ?_)
        · refine F.ite (fun _ => ?_) (fun _ => ?_)
          · exact F.some (Frm.trans (Frm.trans (Frm.trans h0 hq1 rfl) hq2 rfl) hq3 rfl)
          · refine F.ite (fun _ => ?_) (fun _ => ?_)
            · exact F.some (Frm.trans (Frm.trans (Frm.trans h0 hq1 rfl) hq2 rfl) hq3 rfl)
            · refine F.ite (fun _ => ?_) (fun _ => ?_)
              · exact F.some (Frm.trans (Frm.trans (Frm.trans h0 hq1 rfl) hq2 rfl) hq3 rfl)
              · refine F.ite (fun _ => ?_) (fun _ => ?_)
                · exact F.some (Frm.trans (Frm.trans (Frm.trans h0 hq1 rfl) hq2 rfl) hq3 rfl)
                · refine F.bind (x83_fr  _ _ Frm.refl) (fun q4 hq4 => ?_)
                  exact F.some (Frm.trans (Frm.trans (Frm.trans (Frm.trans h0 hq1 rfl) hq2 rfl) hq3 rfl) hq4 rfl)
        refine F.bind (x93_fr  _ _ Frm.refl) (fun q6 hq6 => ?_)
        exact ih _ _ (Frm.ts (Frm.trans (Frm.ts (Frm.ts (Frm.ts hq5 (fun _ => rfl)) (fun _ => rfl)) (fun _ => rfl)) hq6 rfl) (fun _ => rfl))
theorem x91_fr {P : Nat} {a1 : Int32} (hP : P = 3 ∨ P = 18) (I0 I : St) (h0 : Frm [(57, some 4), (57, some 3), ((P + 12), none)] I0 I) : Fq (x91 P I a1) (fun q => Frm [(57, some 4), (57, some 3), ((P + 12), none)] I0 q) := by
  rcases hP with rfl | rfl
  all_goals
    unfold x91
    refine F.bind (l91_42_fr (by decide) _ _ _ h0) (fun q7 hq7 => ?_)
    exact F.some hq7
theorem l94_41_fr {P : Nat} {b1 : Int32} {b4 : Int32} {I0 : St} (hP : P = 3 ∨ P = 18) : ∀ (n : Nat) (b5 : Int32) (I : St), Frm [(57, some 4), (57, some 3), ((P + 10), none)] I0 I → Fq (l94_41 P b1 b4 n b5 I) (fun q => Frm [(57, some 4), (57, some 3), ((P + 10), none)] I0 q) := by
  rcases hP with rfl | rfl
  all_goals
    intro n
    induction n with
    | zero => intro b5 I h0; exact F.none
    | succ n ih =>
      intro b5 I h0
      rw [l94_41]
      refine F.ite (fun _ => ?_) (fun _ => ?_)
      · exact F.some h0
      · refine F.bindr (fun q1 => ?_)
        refine F.ite (fun _ => ?_) (fun _ => ?_)
        · refine F.bind (x92_fr  _ _ Frm.refl) (fun q2 hq2 => ?_)
          exact ih _ _ (Frm.ts (Frm.trans h0 hq2 rfl) (fun _ => rfl))
        · refine F.ite (fun _ => ?_) (fun _ => ?_)
          · refine F.bind (x93_fr  _ _ Frm.refl) (fun q3 hq3 => ?_)
            exact ih _ _ (Frm.ts (Frm.trans h0 hq3 rfl) (fun _ => rfl))
          · refine F.ite (fun _ => ?_) (fun _ => ?_)
            · refine F.bind (x93_fr  _ _ Frm.refl) (fun q4 hq4 => ?_)
              refine F.bind (x95_fr (by decide) _ _ Frm.refl) (fun q5 hq5 => ?_)
              exact ih _ _ (Frm.trans (Frm.trans h0 hq4 rfl) hq5 rfl)
            · exact ih _ _ h0
theorem x94_fr {P : Nat} {a1 : Int32} (hP : P = 3 ∨ P = 18) (I0 I : St) (h0 : Frm [(57, some 4), (57, some 3), ((P + 10), none)] I0 I) : Fq (x94 P I a1) (fun q => Frm [(57, some 4), (57, some 3), ((P + 10), none)] I0 q) := by
  rcases hP with rfl | rfl
  all_goals
    unfold x94
    refine F.bind (l94_41_fr (by decide) _ _ _ h0) (fun q6 hq6 => ?_)
    exact F.some hq6
theorem l99_71_fr {P : Nat} {b1 : Int32} {b2 : Int32} {I0 : St} (hP : P = 3 ∨ P = 18) : ∀ (n : Nat) (b3 : Int32) (I : St), Frm [(58, some 11), (58, some 10), (58, some 9), (58, some 8), (58, some 7)] I0 I → Fq (l99_71 P b1 b2 n b3 I) (fun q => Frm [(58, some 11), (58, some 10), (58, some 9), (58, some 8), (58, some 7)] I0 q) := by
  rcases hP with rfl | rfl
  all_goals
    intro n
    induction n with
    | zero => intro b3 I h0; exact F.none
    | succ n ih =>
      intro b3 I h0
      rw [l99_71]
      refine F.ite (fun _ => ?_) (fun _ => ?_)
      · exact F.some h0
      · refine F.bind (x100_fr  _ _ Frm.refl) (fun q3 hq3 => ?_)
        exact ih _ _ (Frm.trans h0 hq3 rfl)
theorem x99_fr {P : Nat} (hP : P = 3 ∨ P = 18) (I0 I : St) (h0 : Frm [(58, some 11), (58, some 10), (58, some 9), (58, some 8), (58, some 7)] I0 I) : Fq (x99 P I) (fun q => Frm [(58, some 11), (58, some 10), (58, some 9), (58, some 8), (58, some 7)] I0 q) := by
  rcases hP with rfl | rfl
  all_goals
    unfold x99
    refine F.bind (S := fun q => Frm [(58, some 11), (58, some 10), (58, some 9), (58, some 8), (58, some 7)] I0 q) ?_ (fun q2 hq2 => ?_)
    · refine F.ite (fun _ => ?_) (fun _ => ?_)
      · refine F.bind (x100_fr  _ _ Frm.refl) (fun q1 hq1 => ?_)
        exact F.some (Frm.trans (Frm.u2 (Frm.u2 (Frm.u2 (Frm.u2 (Frm.u2 h0 rfl) rfl) rfl) rfl) rfl) hq1 rfl)
      · exact F.some (Frm.u2 (Frm.u2 (Frm.u2 (Frm.u2 (Frm.u2 h0 rfl) rfl) rfl) rfl) rfl)
    refine F.bind (l99_71_fr (by decide) _ _ _ hq2) (fun q4 hq4 => ?_)
    exact F.some hq4
theorem x102_fr {a1 : Int32} (I0 I : St) (h0 : Frm [(60, none)] I0 I) : Fq (x102 I a1) (fun q => Frm [(60, none)] I0 q) := by
  unfold x102
  refine F.bind (x103_fr  _ _ Frm.refl) (fun q1 hq1 => ?_)
  refine F.bind (x103_fr  _ _ Frm.refl) (fun q2 hq2 => ?_)
  refine F.bind (x103_fr  _ _ Frm.refl) (fun q3 hq3 => ?_)
  exact F.some (Frm.trans (Frm.trans (Frm.trans h0 hq1 rfl) hq2 rfl) hq3 rfl)
theorem l113_7_fr {b1 : Int32} {I0 : St} : ∀ (n : Nat) (b2 : Int32) (b3 : Int32) (I : St), Frm [(58, some 8), (58, some 7)] I0 I → Fq (l113_7 b1 n b2 b3 I) (fun q => Frm [(58, some 8), (58, some 7)] I0 q.2) := by
  intro n
  induction n with
  | zero => intro b2 b3 I h0; exact F.none
  | succ n ih =>
    intro b2 b3 I h0
    rw [l113_7]
    refine F.ite (fun _ => ?_) (fun _ => ?_)
    · exact F.some h0
    · refine F.bind (x111_fr  _ _ Frm.refl) (fun q2 hq2 => ?_)
      refine F.ite (fun _ => ?_) (fun _ => ?_)
      · refine F.ite (fun _ => ?_) (fun _ => ?_)
        · exact ih _ _ _ (Frm.trans h0 hq2 rfl)
        · exact ih _ _ _ (Frm.trans h0 hq2 rfl)
      · exact ih _ _ _ (Frm.trans h0 hq2 rfl)
theorem x113_fr {a1 : Int32} (I0 I : St) (h0 : Frm [(58, some 8), (58, some 7)] I0 I) : Fq (x113 I a1) (fun q => Frm [(58, some 8), (58, some 7)] I0 q.2) := by
  unfold x113
  refine F.bindr (fun q1 => ?_)
  refine F.bind (l113_7_fr  _ _ _ _ h0) (fun q3 hq3 => ?_)
  refine F.bindr (fun q5 => ?_)
  refine F.bind (x110_fr  _ _ Frm.refl) (fun q6 hq6 => ?_)
  refine F.ite (fun _ => ?_) (fun _ => ?_)
  · exact F.some (Frm.trans hq3 hq6 rfl)
  · exact F.none
theorem l126_22_fr {P : Nat} {b2 : Int32} {I0 : St} (hP : P = 3 ∨ P = 18) : ∀ (n : Nat) (b3 : Int32) (I : St), Frm [(75, none), (81, none), (72, some 3), (70, some 3), (76, some 3), (68, some 12), (68, some 18), (68, some 17), (68, some 16), (68, some 15), (68, some 14), (68, some 13), (68, some 11), (68, some 9), (68, some 8), (68, some 7)] I0 I → Fq (l126_22 P b2 n b3 I) (fun q => Frm [(75, none), (81, none), (72, some 3), (70, some 3), (76, some 3), (68, some 12), (68, some 18), (68, some 17), (68, some 16), (68, some 15), (68, some 14), (68, some 13), (68, some 11), (68, some 9), (68, some 8), (68, some 7)] I0 q) := by
  rcases hP with rfl | rfl
  all_goals
    intro n
    induction n with
    | zero => intro b3 I h0; exact F.none
    | succ n ih =>
      intro b3 I h0
      rw [l126_22]
      refine F.ite (fun _ => ?_) (fun _ => ?_)
      · exact F.some h0
      · refine F.bind (S := fun q => True) ?_ (fun q2 hq2 => ?_)
        · refine F.ite (fun _ => ?_) (fun _ => ?_)
          · exact F.some trivial
          · exact F.some trivial
        exact ih _ _ (Frm.ts2 h0 (fun _ => rfl))
theorem l126_159_fr {P : Nat} {b2 : Int32} {b3 : Int32} {b4 : Int32} {I0 : St} (hP : P = 3 ∨ P = 18) : ∀ (n : Nat) (b5 : Int32) (I : St), Frm [(75, none), (81, none), (72, some 3), (70, some 3), (76, some 3), (68, some 12), (68, some 18), (68, some 17), (68, some 16), (68, some 15), (68, some 14), (68, some 13), (68, some 11), (68, some 9), (68, some 8), (68, some 7)] I0 I → Fq (l126_159 P b2 b3 b4 n b5 I) (fun q => Frm [(75, none), (81, none), (72, some 3), (70, some 3), (76, some 3), (68, some 12), (68, some 18), (68, some 17), (68, some 16), (68, some 15), (68, some 14), (68, some 13), (68, some 11), (68, some 9), (68, some 8), (68, some 7)] I0 q) := by
  rcases hP with rfl | rfl
  all_goals
    intro n
    induction n with
    | zero => intro b5 I h0; exact F.none
    | succ n ih =>
      intro b5 I h0
      rw [l126_159]
      refine F.ite (fun _ => ?_) (fun _ => ?_)
      · exact F.some h0
      · refine F.bind (S := fun q => True) ?_ (fun q12 hq12 => ?_)
        · refine F.ite (fun _ => ?_) (fun _ => ?_)
          · exact F.some trivial
          · refine F.ite (fun _ => ?_) (fun _ => ?_)
            · exact F.some trivial
            · exact F.some trivial
        refine F.bind (S := fun q => True) ?_ (fun q13 hq13 => ?_)
        · refine F.ite (fun _ => ?_) (fun _ => ?_)
          · exact F.some trivial
          · exact F.some trivial
        exact ih _ _ (Frm.ts2 h0 (fun _ => rfl))
theorem x126_fr {P : Nat} {a2 : Int32} (hP : P = 3 ∨ P = 18) (I0 I : St) (h0 : Frm [(75, none), (81, none), (72, some 3), (70, some 3), (76, some 3), (68, some 12), (68, some 18), (68, some 17), (68, some 16), (68, some 15), (68, some 14), (68, some 13), (68, some 11), (68, some 9), (68, some 8), (68, some 7)] I0 I) : Fq (x126 P I a2) (fun q => Frm [(75, none), (81, none), (72, some 3), (70, some 3), (76, some 3), (68, some 12), (68, some 18), (68, some 17), (68, some 16), (68, some 15), (68, some 14), (68, some 13), (68, some 11), (68, some 9), (68, some 8), (68, some 7)] I0 q) := by
  rcases hP with rfl | rfl
  all_goals
    unfold x126
    refine F.bind (x127_fr  _ _ Frm.refl) (fun q1 hq1 => ?_)
    refine F.bind (l126_22_fr (by decide) _ _ _ (Frm.tr (Frm.trans h0 hq1 rfl) rfl)) (fun q3 hq3 => ?_)
    refine F.letS (Frm.u2 (Frm.u2 (Frm.u2 (Frm.u2 (Frm.u2 (Frm.u2 (Frm.u2 hq3 rfl) rfl) rfl) rfl) rfl) rfl) rfl) (fun J9 hJ9 => ?_)
    refine F.letV (fun v10 => ?_)
    refine F.letV (fun v11 => ?_)
    refine F.bind (l126_159_fr (by decide) _ _ _ (Frm.u2 (Frm.u2 (Frm.u2 (Frm.u2 hJ9 rfl) rfl) rfl) rfl)) (fun q14 hq14 => ?_)
    exact F.some hq14
theorem x131_fr {a1 : Int32} {a2 : Int32} (I0 I : St) (h0 : Frm [(81, none), (68, some 11)] I0 I) : Fq (x131 I a1 a2) (fun q => Frm [(81, none), (68, some 11)] I0 q) := by
  unfold x131
  exact F.some (Frm.ts2 (Frm.u2 h0 rfl) (fun _ => rfl))
theorem x136_fr {a1 : Int32} {a2 : Int32} {a3 : Int32} (I0 I : St) (h0 : Frm [(68, some 11), (81, none)] I0 I) : Fq (x136 I a1 a2 a3) (fun q => Frm [(68, some 11), (81, none)] I0 q) := by
  unfold x136
  refine F.bind (x135_fr  _ _ Frm.refl) (fun q1 hq1 => ?_)
  refine F.bind (x131_fr  _ _ Frm.refl) (fun q2 hq2 => ?_)
  exact F.some (Frm.trans (Frm.trans h0 hq1 rfl) hq2 rfl)
theorem x138_fr {a1 : Int32} {a2 : Int32} (I0 I : St) (h0 : Frm [(73, none), (72, some 3), (71, none), (70, some 3), (68, some 14), (68, some 16), (68, some 15), (68, some 12)] I0 I) : Fq (x138 I a1 a2) (fun q => Frm [(73, none), (72, some 3), (71, none), (70, some 3), (68, some 14), (68, some 16), (68, some 15), (68, some 12)] I0 q) := by
  unfold x138
  refine F.bind (x139_fr  _ _ Frm.refl) (fun q1 hq1 => ?_)
  refine F.ite (fun _ => ?_) (fun _ => ?_)
  · exact F.some (Frm.u2 (Frm.trans h0 hq1 rfl) rfl)
  · refine F.bind (x140_fr  _ _ Frm.refl) (fun q2 hq2 => ?_)
    exact F.some (Frm.trans (Frm.trans h0 hq1 rfl) hq2 rfl)
theorem x142_fr {a1 : Int32} {a2 : Int32} (I0 I : St) (h0 : Frm [(68, some 11), (68, some 10)] I0 I) : Fq (x142 I a1 a2) (fun q => Frm [(68, some 11), (68, some 10)] I0 q) := by
  unfold x142
  refine F.bind (S := fun q => True) ?_ (fun q5 hq5 => ?_)
  · refine F.ite (fun _ => ?_) (fun _ => ?_)
    · exact F.some trivial
    · refine F.ite (fun _ => ?_) (fun _ => ?_)
      · refine F.ite (fun _ => ?_) (fun _ => ?_)
        · refine F.ite (fun _ => ?_) (fun _ => ?_)
          · refine F.bind (S := fun q => True) ?_ (fun q1 hq1 => ?_)
            · refine F.ite (fun _ => ?_) (fun _ => ?_)
              · exact F.some trivial
              · exact F.some trivial
            refine F.bind (S := fun q => True) ?_ (fun q2 hq2 => ?_)
            · refine F.ite (fun _ => ?_) (fun _ => ?_)
              · exact F.some trivial
              · exact F.some trivial
            refine F.ite (fun _ => ?_) (fun _ => ?_)
            · exact F.some trivial
            · exact F.some trivial
          · refine F.bind (S := fun q => True) ?_ (fun q3 hq3 => ?_)
            · refine F.ite (fun _ => ?_) (fun _ => ?_)
              · exact F.some trivial
              · exact F.some trivial
            refine F.bind (S := fun q => True) ?_ (fun q4 hq4 => ?_)
            · refine F.ite (fun _ => ?_) (fun _ => ?_)
              · exact F.some trivial
              · exact F.some trivial
            refine F.ite (fun _ => ?_) (fun _ => ?_)
            · exact F.some trivial
            · exact F.some trivial
        · exact F.some trivial
      · exact F.some trivial
  refine F.bind (x135_fr  _ _ Frm.refl) (fun q6 hq6 => ?_)
  refine F.ite (fun _ => ?_) (fun _ => ?_)
  · exact F.some (Frm.trans h0 hq6 rfl)
  · exact F.some (Frm.u2 (Frm.trans h0 hq6 rfl) rfl)
theorem l145_86_fr {P : Nat} {b2 : Int32} {b3 : Int32} {b4 : Int32} {b6 : Int32} {I0 : St} (hP : P = 3 ∨ P = 18) : ∀ (n : Nat) (b7 : Int32) (I : St), Frm [(73, none), (72, some 3), (71, none), (70, some 3), (68, some 14), (81, none), (68, some 11)] I0 I → Fq (l145_86 P b2 b3 b4 b6 n b7 I) (fun q => Frm [(73, none), (72, some 3), (71, none), (70, some 3), (68, some 14), (81, none), (68, some 11)] I0 q) := by
  rcases hP with rfl | rfl
  all_goals
    intro n
    induction n with
    | zero => intro b7 I h0; exact F.none
    | succ n ih =>
      intro b7 I h0
      rw [l145_86]
      refine F.ite (fun _ => ?_) (fun _ => ?_)
      · exact F.some h0
      · refine F.ite (fun _ => ?_) (fun _ => ?_)
        · refine F.bind (x146_fr  _ _ Frm.refl) (fun q2 hq2 => ?_)
          exact ih _ _ (Frm.trans h0 hq2 rfl)
        · exact ih _ _ h0
theorem l145_39_fr {P : Nat} {b2 : Int32} {I0 : St} (hP : P = 3 ∨ P = 18) : ∀ (n : Nat) (b3 : Int32) (b4 : Int32) (I : St), Frm [(73, none), (72, some 3), (71, none), (70, some 3), (68, some 14), (81, none), (68, some 11)] I0 I → Fq (l145_39 P b2 n b3 b4 I) (fun q => Frm [(73, none), (72, some 3), (71, none), (70, some 3), (68, some 14), (81, none), (68, some 11)] I0 q) := by
  rcases hP with rfl | rfl
  all_goals
    intro n
    induction n with
    | zero => intro b3 b4 I h0; exact F.none
    | succ n ih =>
      intro b3 b4 I h0
      rw [l145_39]
      refine F.ite (fun _ => ?_) (fun _ => ?_)
      · exact F.some h0
      · refine F.ite (fun _ => ?_) (fun _ => ?_)
        · exact F.some h0
        · refine F.bind (l145_86_fr (by decide) _ _ _ h0) (fun q3 hq3 => ?_)
          exact ih _ _ _ hq3
theorem x145_fr {P : Nat} {a1 : Int32} (hP : P = 3 ∨ P = 18) (I0 I : St) (h0 : Frm [(73, none), (72, some 3), (71, none), (70, some 3), (68, some 14), (81, none), (68, some 11)] I0 I) : Fq (x145 P I a1) (fun q => Frm [(73, none), (72, some 3), (71, none), (70, some 3), (68, some 14), (81, none), (68, some 11)] I0 q) := by
  rcases hP with rfl | rfl
  all_goals
    unfold x145
    refine F.bind (x139_fr  _ _ Frm.refl) (fun q1 hq1 => ?_)
    refine F.ite (fun _ => ?_) (fun _ => ?_)
    · exact F.some (Frm.u2 (Frm.trans h0 hq1 rfl) rfl)
    · refine F.bind (l145_39_fr (by decide) _ _ _ _ (Frm.trans h0 hq1 rfl)) (fun q8 hq8 => ?_)
      refine F.bind (x131_fr  _ _ Frm.refl) (fun q15 hq15 => ?_)
      exact F.some (Frm.trans hq8 hq15 rfl)
theorem x154_fr {P : Nat} {a1 : Int32} {a2 : Int32} (hP : P = 3 ∨ P = 18) (I0 I : St) (h0 : Frm [(73, none), (68, some 11), (72, some 3), (71, none), (70, some 3), (68, some 14), (68, some 16), (68, some 15), (68, some 12)] I0 I) : Fq (x154 P I a1 a2) (fun q => Frm [(73, none), (68, some 11), (72, some 3), (71, none), (70, some 3), (68, some 14), (68, some 16), (68, some 15), (68, some 12)] I0 q) := by
  rcases hP with rfl | rfl
  all_goals
    unfold x154
    refine F.bindr (fun q1 => ?_)
    refine F.ite (fun _ => ?_) (fun _ => ?_)
    · refine F.bind (x146_fr  _ _ Frm.refl) (fun q2 hq2 => ?_)
      refine F.bind (x135_fr  _ _ Frm.refl) (fun q3 hq3 => ?_)
      exact F.some (Frm.trans (Frm.trans h0 hq2 rfl) hq3 rfl)
    · refine F.bind (x138_fr  _ _ Frm.refl) (fun q4 hq4 => ?_)
      exact F.some (Frm.trans h0 hq4 rfl)
theorem x156_fr {a1 : Int32} (I0 I : St) (h0 : Frm [(73, none), (72, some 3), (71, none), (70, some 3), (68, some 14), (68, some 11), (81, none), (68, some 16), (68, some 15), (68, some 12)] I0 I) : Fq (x156 I a1) (fun q => Frm [(73, none), (72, some 3), (71, none), (70, some 3), (68, some 14), (68, some 11), (81, none), (68, some 16), (68, some 15), (68, some 12)] I0 q) := by
  unfold x156
  refine F.ite (fun _ => ?_) (fun _ => ?_)
  · refine F.bind (x139_fr  _ _ Frm.refl) (fun q1 hq1 => ?_)
    refine F.ite (fun _ => ?_) (fun _ => ?_)
    · exact F.some (Frm.u2 (Frm.trans h0 hq1 rfl) rfl)
    · refine F.bind (x136_fr  _ _ Frm.refl) (fun q2 hq2 => ?_)
      exact F.some (Frm.trans (Frm.trans h0 hq1 rfl) hq2 rfl)
  · refine F.bind (x138_fr  _ _ Frm.refl) (fun q3 hq3 => ?_)
    exact F.some (Frm.trans h0 hq3 rfl)
theorem x160_fr {a1 : Int32} (I0 I : St) (h0 : Frm [(73, none), (68, some 11), (72, some 3), (71, none), (70, some 3), (68, some 14), (68, some 16), (68, some 15), (68, some 12)] I0 I) : Fq (x160 I a1) (fun q => Frm [(73, none), (68, some 11), (72, some 3), (71, none), (70, some 3), (68, some 14), (68, some 16), (68, some 15), (68, some 12)] I0 q) := by
  unfold x160
  refine F.ite (fun _ => ?_) (fun _ => ?_)
  · refine F.bind (x146_fr  _ _ Frm.refl) (fun q1 hq1 => ?_)
    refine F.bind (x135_fr  _ _ Frm.refl) (fun q2 hq2 => ?_)
    exact F.some (Frm.trans (Frm.trans h0 hq1 rfl) hq2 rfl)
  · refine F.bind (x138_fr  _ _ Frm.refl) (fun q3 hq3 => ?_)
    exact F.some (Frm.trans h0 hq3 rfl)
theorem x161_fr (I0 I : St) (h0 : Frm [(73, none), (72, some 3), (71, none), (70, some 3), (68, some 14), (68, some 16), (68, some 15), (68, some 12), (68, some 11), (81, none)] I0 I) : Fq (x161 I) (fun q => Frm [(73, none), (72, some 3), (71, none), (70, some 3), (68, some 14), (68, some 16), (68, some 15), (68, some 12), (68, some 11), (81, none)] I0 q) := by
  unfold x161
  refine F.ite (fun _ => ?_) (fun _ => ?_)
  · refine F.bind (x138_fr  _ _ Frm.refl) (fun q1 hq1 => ?_)
    exact F.some (Frm.trans h0 hq1 rfl)
  · refine F.ite (fun _ => ?_) (fun _ => ?_)
    · refine F.bind (x136_fr  _ _ Frm.refl) (fun q2 hq2 => ?_)
      exact F.some (Frm.trans h0 hq2 rfl)
    · refine F.bind (x138_fr  _ _ Frm.refl) (fun q3 hq3 => ?_)
      exact F.some (Frm.trans h0 hq3 rfl)
theorem x165_fr {P : Nat} {a1 : Int32} {a2 : Int32} (hP : P = 3 ∨ P = 18) (I0 I : St) (h0 : Frm [(81, none), (79, none), (68, some 7), (68, some 10), (68, some 11), (68, some 8), (68, some 14), (73, none), (72, some 3), (71, none), (70, some 3), (68, some 16), (68, some 15), (68, some 12)] I0 I) : Fq (x165 P I a1 a2) (fun q => Frm [(81, none), (79, none), (68, some 7), (68, some 10), (68, some 11), (68, some 8), (68, some 14), (73, none), (72, some 3), (71, none), (70, some 3), (68, some 16), (68, some 15), (68, some 12)] I0 q) := by
  rcases hP with rfl | rfl
  all_goals
    unfold x165
    refine F.bindr (fun q1 => ?_)
    refine F.ite (fun _ => ?_) (fun _ => ?_)
    · refine F.bind (x164_fr  _ _ Frm.refl) (fun q2 hq2 => ?_)
      exact F.some (Frm.trans h0 hq2 rfl)
    · refine F.bindr (fun q3 => ?_)
      refine F.bind (x138_fr  _ _ Frm.refl) (fun q9 hq9 => ?_)
      exact F.some (Frm.trans h0 hq9 rfl)
theorem x166_fr {P : Nat} (hP : P = 3 ∨ P = 18) (I0 I : St) (h0 : Frm [(68, some 16), (68, some 15), (68, some 14), (68, some 8), (68, some 7), (68, some 11), (68, some 9), (68, some 10), (81, none)] I0 I) : Fq (x166 P I) (fun q => Frm [(68, some 16), (68, some 15), (68, some 14), (68, some 8), (68, some 7), (68, some 11), (68, some 9), (68, some 10), (81, none)] I0 q) := by
  rcases hP with rfl | rfl
  all_goals
    unfold x166
    refine F.ite (fun _ => ?_) (fun _ => ?_)
    · exact F.some (Frm.u2 (Frm.u2 (Frm.u2 h0 rfl) rfl) rfl)
    · refine F.bind (x167_fr  _ _ Frm.refl) (fun q1 hq1 => ?_)
      refine F.ite (fun _ => ?_) (fun _ => ?_)
      · exact F.some (Frm.u2 (Frm.trans h0 hq1 rfl) rfl)
      · refine F.bind (x131_fr  _ _ Frm.refl) (fun q2 hq2 => ?_)
        exact F.some (Frm.trans (Frm.u2 (Frm.trans h0 hq1 rfl) rfl) hq2 rfl)
theorem x168_fr {P : Nat} {a1 : Int32} {a2 : Int32} (hP : P = 3 ∨ P = 18) (I0 I : St) (h0 : Frm [(68, some 11), (81, none), (73, none), (72, some 3), (71, none), (70, some 3), (68, some 14), (68, some 16), (68, some 15), (68, some 12), (76, some 3), (77, none), (68, some 18)] I0 I) : Fq (x168 P I a1 a2) (fun q => Frm [(68, some 11), (81, none), (73, none), (72, some 3), (71, none), (70, some 3), (68, some 14), (68, some 16), (68, some 15), (68, some 12), (76, some 3), (77, none), (68, some 18)] I0 q) := by
  rcases hP with rfl | rfl
  all_goals
    unfold x168
    refine F.ite (fun _ => ?_) (fun _ => ?_)
    · refine F.bind (S := fun q => True) ?_ (fun q2 hq2 => ?_)
      · refine F.ite (fun _ => ?_) (fun _ => ?_)
        · exact F.some trivial
        · refine F.bindr (fun q1 => ?_)
          refine F.ite (fun _ => ?_) (fun _ => ?_)
          · exact F.some trivial
          · exact F.some trivial
      refine F.bind (x136_fr  _ _ Frm.refl) (fun q3 hq3 => ?_)
      exact F.some (Frm.trans h0 hq3 rfl)
    · refine F.ite (fun _ => ?_) (fun _ => ?_)
      · refine F.ite (fun _ => ?_) (fun _ => ?_)
        · exact F.some h0
        · refine F.bindr (fun q4 => ?_)
          refine F.ite (fun _ => ?_) (fun _ => ?_)
          · refine F.bind (x138_fr  _ _ Frm.refl) (fun q5 hq5 => ?_)
            exact F.some (Frm.trans h0 hq5 rfl)
          · exact F.some h0
      · refine F.ite (fun _ => ?_) (fun _ => ?_)
        · refine F.bind (x131_fr  _ _ Frm.refl) (fun q6 hq6 => ?_)
          exact F.some (Frm.trans h0 hq6 rfl)
        · refine F.ite (fun _ => ?_) (fun _ => ?_)
          · refine F.bind (x169_fr  _ _ Frm.refl) (fun q7 hq7 => ?_)
            refine F.bind (x135_fr  _ _ Frm.refl) (fun q8 hq8 => ?_)
            exact F.some (Frm.trans (Frm.trans h0 hq7 rfl) hq8 rfl)
          · refine F.ite (fun _ => ?_) (fun _ => ?_)
            · refine F.bind (x136_fr  _ _ Frm.refl) (fun q9 hq9 => ?_)
              exact F.some (Frm.trans h0 hq9 rfl)
            · refine F.bind (x136_fr  _ _ Frm.refl) (fun q10 hq10 => ?_)
              exact F.some (Frm.trans h0 hq10 rfl)
theorem l170_20_fr {P : Nat} {b1 : Int32} {I0 : St} (hP : P = 3 ∨ P = 18) : ∀ (n : Nat) (b2 : Int32) (b3 : Int32) (I : St), Frm [(68, some 8), (68, some 7), (68, some 11), (68, some 9), (68, some 14), (68, some 12), (81, none), (68, some 10)] I0 I → Fq (l170_20 P b1 n b2 b3 I) (fun q => Frm [(68, some 8), (68, some 7), (68, some 11), (68, some 9), (68, some 14), (68, some 12), (81, none), (68, some 10)] I0 q.2) := by
  rcases hP with rfl | rfl
  all_goals
    intro n
    induction n with
    | zero => intro b2 b3 I h0; exact F.none
    | succ n ih =>
      intro b2 b3 I h0
      rw [l170_20]
      refine F.ite (fun _ => ?_) (fun _ => ?_)
      · exact F.some h0
      · refine F.ite (fun _ => ?_) (fun _ => ?_)
        · refine F.ite (fun _ => ?_) (fun _ => ?_)
          · exact F.some h0
          · refine F.bind (x167_fr  _ _ Frm.refl) (fun q2 hq2 => ?_)
            refine F.bindr (fun q3 => ?_)
            exact ih _ _ _ (Frm.trans h0 hq2 rfl)
        · exact F.some h0
theorem x170_fr {P : Nat} (hP : P = 3 ∨ P = 18) (I0 I : St) (h0 : Frm [(68, some 8), (68, some 7), (68, some 11), (68, some 9), (68, some 14), (68, some 12), (81, none), (68, some 10)] I0 I) : Fq (x170 P I) (fun q => Frm [(68, some 8), (68, some 7), (68, some 11), (68, some 9), (68, some 14), (68, some 12), (81, none), (68, some 10)] I0 q) := by
  rcases hP with rfl | rfl
  all_goals
    unfold x170
    refine F.bindr (fun q1 => ?_)
    refine F.bind (l170_20_fr (by decide) _ _ _ _ h0) (fun q4 hq4 => ?_)
    refine F.ite (fun _ => ?_) (fun _ => ?_)
    · exact F.some (Frm.u2 (Frm.u2 hq4 rfl) rfl)
    · refine F.bind (x131_fr  _ _ Frm.refl) (fun q7 hq7 => ?_)
      exact F.some (Frm.u2 (Frm.trans (Frm.u2 (Frm.u2 hq4 rfl) rfl) hq7 rfl) rfl)
theorem l185_25_fr {Z : Nat} {b1 : Int32} {I0 : St} (hZ : Z = 85 ∨ Z = 126) : ∀ (n : Nat) (b3 : Int32) (I : St), Frm [((Z + 1), none), (Z, some 4), ((Z + 3), none), ((Z + 2), none), ((Z + 4), none), (Z, some 5), (Z, some 3), ((Z + 6), none), ((Z + 8), none), (Z, some 10), (Z, some 9), (Z, some 8), (Z, some 7), (Z, some 6), (Z, some 11)] I0 I → Fq (l185_25 Z b1 n b3 I) (fun q => Frm [((Z + 1), none), (Z, some 4), ((Z + 3), none), ((Z + 2), none), ((Z + 4), none), (Z, some 5), (Z, some 3), ((Z + 6), none), ((Z + 8), none), (Z, some 10), (Z, some 9), (Z, some 8), (Z, some 7), (Z, some 6), (Z, some 11)] I0 q.2) := by
  rcases hZ with rfl | rfl
  all_goals
    intro n
    induction n with
    | zero => intro b3 I h0; exact F.none
    | succ n ih =>
      intro b3 I h0
      rw [l185_25]
      refine F.ite (fun _ => ?_) (fun _ => ?_)
      · refine F.ite (fun _ => ?_) (fun _ => ?_)
        · exact F.some h0
        · refine F.ite (fun _ => ?_) (fun _ => ?_)
          · refine F.ite (fun _ => ?_) (fun _ => ?_)
            · refine F.letS (Frm.u2 h0 rfl) (fun J2 hJ2 => ?_)
              exact ih _ _ (Frm.u2 hJ2 rfl)
            · exact F.none
          · exact F.none
      · exact F.none
theorem l185_14_fr {Z : Nat} {I0 : St} (hZ : Z = 85 ∨ Z = 126) : ∀ (n : Nat) (b1 : Int32) (I : St), Frm [((Z + 1), none), (Z, some 4), ((Z + 3), none), ((Z + 2), none), ((Z + 4), none), (Z, some 5), (Z, some 3), ((Z + 6), none), ((Z + 8), none), (Z, some 10), (Z, some 9), (Z, some 8), (Z, some 7), (Z, some 6), (Z, some 11)] I0 I → Fq (l185_14 Z n b1 I) (fun q => Frm [((Z + 1), none), (Z, some 4), ((Z + 3), none), ((Z + 2), none), ((Z + 4), none), (Z, some 5), (Z, some 3), ((Z + 6), none), ((Z + 8), none), (Z, some 10), (Z, some 9), (Z, some 8), (Z, some 7), (Z, some 6), (Z, some 11)] I0 q) := by
  rcases hZ with rfl | rfl
  all_goals
    intro n
    induction n with
    | zero => intro b1 I h0; exact F.none
    | succ n ih =>
      intro b1 I h0
      rw [l185_14]
      refine F.ite (fun _ => ?_) (fun _ => ?_)
      · exact F.some h0
      · refine F.bind (l185_25_fr (by decide) _ _ _ h0) (fun q3 hq3 => ?_)
        refine F.ite (fun _ => ?_) (fun _ => ?_)
        · refine F.ite (fun _ => ?_) (fun _ => ?_)
          · refine F.letS (Frm.u2 (Frm.u2 hq3 rfl) rfl) (fun J6 hJ6 => ?_)
            refine F.ite (fun _ => ?_) (fun _ => ?_)
            · refine F.letS (Frm.u2 (Frm.u2 (Frm.u2 hJ6 rfl) rfl) rfl) (fun J7 hJ7 => ?_)
              refine F.bind (S := fun q => True) ?_ (fun q8 hq8 => ?_)
              · refine F.ite (fun _ => ?_) (fun _ => ?_)
                · exact F.some trivial
                · refine F.ite (fun _ => ?_) (fun _ => ?_)
                  · exact F.some trivial
                  · exact F.some trivial
              refine F.ite (fun _ => ?_) (fun _ => ?_)
              · refine F.ite (fun _ => ?_) (fun _ => ?_)
                · exact ih _ _ (Frm.u2 (Frm.u2 hJ7 rfl) rfl)
                · exact F.none
              · exact F.none
            · exact F.none
          · exact F.none
        · exact F.none
theorem x185_fr {Z : Nat} (hZ : Z = 85 ∨ Z = 126) (I0 I : St) (h0 : Frm [((Z + 1), none), (Z, some 4), ((Z + 3), none), ((Z + 2), none), ((Z + 4), none), (Z, some 5), (Z, some 3), ((Z + 6), none), ((Z + 8), none), (Z, some 10), (Z, some 9), (Z, some 8), (Z, some 7), (Z, some 6), (Z, some 11)] I0 I) : Fq (x185 Z I) (fun q => Frm [((Z + 1), none), (Z, some 4), ((Z + 3), none), ((Z + 2), none), ((Z + 4), none), (Z, some 5), (Z, some 3), ((Z + 6), none), ((Z + 8), none), (Z, some 10), (Z, some 9), (Z, some 8), (Z, some 7), (Z, some 6), (Z, some 11)] I0 q) := by
  rcases hZ with rfl | rfl
  all_goals
    unfold x185
    refine F.bind (x186_fr (by decide) _ _ Frm.refl) (fun q1 hq1 => ?_)
    refine F.bind (l185_14_fr (by decide) _ _ _ (Frm.trans h0 hq1 rfl)) (fun q9 hq9 => ?_)
    exact F.some hq9
theorem x188_fr {a1 : Int32} {a2 : Int32} {a3 : Int32} {a4 : Int32} {a5 : Int32} (I0 I : St) (h0 : Frm [(82, some 1), (83, none)] I0 I) : Fq (x188 I a1 a2 a3 a4 a5) (fun q => Frm [(82, some 1), (83, none)] I0 q.2) := by
  unfold x188
  refine F.ite (fun _ => ?_) (fun _ => ?_)
  · refine F.bind (x189_fr  _ _ Frm.refl) (fun q1 hq1 => ?_)
    refine F.bind (x189_fr  _ _ Frm.refl) (fun q2 hq2 => ?_)
    refine F.bind (x189_fr  _ _ Frm.refl) (fun q3 hq3 => ?_)
    refine F.bind (x189_fr  _ _ Frm.refl) (fun q4 hq4 => ?_)
    refine F.bind (x189_fr  _ _ Frm.refl) (fun q5 hq5 => ?_)
    exact F.some (Frm.trans (Frm.trans (Frm.trans (Frm.trans (Frm.trans h0 hq1 rfl) hq2 rfl) hq3 rfl) hq4 rfl) hq5 rfl)
  · exact F.some h0
theorem l192_21_fr {b1 : Int32} {I0 : St} : ∀ (n : Nat) (I : St), Frm [(82, some 11), (82, some 16), (82, some 13), (82, some 14), (82, some 12), (82, some 15)] I0 I → Fq (l192_21 b1 n I) (fun q => Frm [(82, some 11), (82, some 16), (82, some 13), (82, some 14), (82, some 12), (82, some 15)] I0 q) := by
  intro n
  induction n with
  | zero => intro I h0; exact F.none
  | succ n ih =>
    intro I h0
    rw [l192_21]
    refine F.ite (fun _ => ?_) (fun _ => ?_)
    · exact F.some h0
    · refine F.bindr (fun q2 => ?_)
      refine F.ite (fun _ => ?_) (fun _ => ?_)
      · exact F.some h0
      · exact ih  _ (Frm.u2 h0 rfl)
theorem l192_2_fr {I0 : St} : ∀ (n : Nat) (b1 : Int32) (I : St), Frm [(82, some 11), (82, some 16), (82, some 13), (82, some 14), (82, some 12), (82, some 15)] I0 I → Fq (l192_2 n b1 I) (fun q => Frm [(82, some 11), (82, some 16), (82, some 13), (82, some 14), (82, some 12), (82, some 15)] I0 q) := by
  intro n
  induction n with
  | zero => intro b1 I h0; exact F.none
  | succ n ih =>
    intro b1 I h0
    rw [l192_2]
    refine F.ite (fun _ => ?_) (fun _ => ?_)
    · exact F.some h0
    · refine F.bindr (fun q1 => ?_)
      refine F.ite (fun _ => ?_) (fun _ => ?_)
      · refine F.bind (l192_21_fr  _  _ h0) (fun q3 hq3 => ?_)
        exact ih _ _ hq3
      · refine F.bind (S := fun q => True) ?_ (fun q7 hq7 => ?_)
        · refine F.ite (fun _ => ?_) (fun _ => ?_)
          · exact F.some trivial
          · refine F.ite (fun _ => ?_) (fun _ => ?_)
            · exact F.some trivial
            · refine F.ite (fun _ => ?_) (fun _ => ?_)
              · exact F.some trivial
              · refine F.ite (fun _ => ?_) (fun _ => ?_)
                · exact F.some trivial
                · exact F.some trivial
        refine F.ite (fun _ => ?_) (fun _ => ?_)
        · exact ih _ _ h0
        · exact ih _ _ (Frm.u2 h0 rfl)
theorem l192_267_fr {I0 : St} : ∀ (n : Nat) (b3 : Int64) (I : St), Frm [(82, some 11), (82, some 16), (82, some 13), (82, some 14), (82, some 12), (82, some 15)] I0 I → Fq (l192_267 n b3 I) (fun q => Frm [(82, some 11), (82, some 16), (82, some 13), (82, some 14), (82, some 12), (82, some 15)] I0 q.2) := by
  intro n
  induction n with
  | zero => intro b3 I h0; exact F.none
  | succ n ih =>
    intro b3 I h0
    rw [l192_267]
    refine F.bindr (fun q23 => ?_)
    refine F.ite (fun _ => ?_) (fun _ => ?_)
    · exact F.some h0
    · refine F.ite (fun _ => ?_) (fun _ => ?_)
      · refine F.ite (fun _ => ?_) (fun _ => ?_)
        · refine F.bindr (fun q24 => ?_)
          exact ih _ _ (Frm.u2 h0 rfl)
        · exact ih _ _ (Frm.u2 h0 rfl)
      · refine F.bindr (fun q25 => ?_)
        refine F.ite (fun _ => ?_) (fun _ => ?_)
        · exact F.some h0
        · refine F.ite (fun _ => ?_) (fun _ => ?_)
          · refine F.bindr (fun q26 => ?_)
            exact ih _ _ (Frm.u2 h0 rfl)
          · exact ih _ _ (Frm.u2 h0 rfl)
theorem l192_147_fr {I0 : St} : ∀ (n : Nat) (I : St), Frm [(82, some 11), (82, some 16), (82, some 13), (82, some 14), (82, some 12), (82, some 15)] I0 I → Fq (l192_147 n I) (fun q => Frm [(82, some 11), (82, some 16), (82, some 13), (82, some 14), (82, some 12), (82, some 15)] I0 q) := by
  intro n
  induction n with
  | zero => intro I h0; exact F.none
  | succ n ih =>
    intro I h0
    rw [l192_147]
    refine F.bindr (fun q30 => ?_)
    refine F.ite (fun _ => ?_) (fun _ => ?_)
    · refine F.bindr (fun q31 => ?_)
      refine F.ite (fun _ => ?_) (fun _ => ?_)
      · exact F.some h0
      · refine F.ite (fun _ => ?_) (fun _ => ?_)
        · refine F.ite (fun _ => ?_) (fun _ => ?_)
          · exact ih  _ (Frm.u2 (Frm.u2 h0 rfl) rfl)
          · exact ih  _ (Frm.u2 h0 rfl)
        · exact ih  _ (Frm.u2 h0 rfl)
    · refine F.ite (fun _ => ?_) (fun _ => ?_)
      · refine F.ite (fun _ => ?_) (fun _ => ?_)
        · exact ih  _ (Frm.u2 (Frm.u2 h0 rfl) rfl)
        · exact ih  _ (Frm.u2 h0 rfl)
      · exact ih  _ (Frm.u2 h0 rfl)
theorem x192_fr (I0 I : St) (h0 : Frm [(82, some 11), (82, some 16), (82, some 13), (82, some 14), (82, some 12), (82, some 15)] I0 I) : Fq (x192 I) (fun q => Frm [(82, some 11), (82, some 16), (82, some 13), (82, some 14), (82, some 12), (82, some 15)] I0 q) := by
  unfold x192
  refine F.bind (l192_2_fr  _ _ _ h0) (fun q8 hq8 => ?_)
  refine F.bindr (fun q13 => ?_)
  refine F.ite (fun _ => ?_) (fun _ => ?_)
  · exact F.some (Frm.u2 (Frm.u2 (Frm.u2 (Frm.u2 hq8 rfl) rfl) rfl) rfl)
  · refine F.ite (fun _ => ?_) (fun _ => ?_)
    · refine F.ite (fun _ => ?_) (fun _ => ?_)
      · refine F.ite (fun _ => ?_) (fun _ => ?_)
        · refine F.letS (Frm.u2 (Frm.u2 (Frm.u2 (Frm.u2 (Frm.u2 hq8 rfl) rfl) rfl) rfl) rfl) (fun J14 hJ14 => ?_)
          exact F.some hJ14
        · refine F.ite (fun _ => ?_) (fun _ => ?_)
          · refine F.letS (Frm.u2 (Frm.u2 (Frm.u2 (Frm.u2 (Frm.u2 hq8 rfl) rfl) rfl) rfl) rfl) (fun J15 hJ15 => ?_)
            exact F.some hJ15
          · refine F.ite (fun _ => ?_) (fun _ => ?_)
            · refine F.letS (Frm.u2 (Frm.u2 (Frm.u2 (Frm.u2 (Frm.u2 hq8 rfl) rfl) rfl) rfl) rfl) (fun J16 hJ16 => ?_)
              exact F.some hJ16
            · refine F.ite (fun _ => ?_) (fun _ => ?_)
              · refine F.letS (Frm.u2 (Frm.u2 (Frm.u2 (Frm.u2 (Frm.u2 hq8 rfl) rfl) rfl) rfl) rfl) (fun J17 hJ17 => ?_)
                exact F.some hJ17
              · refine F.ite (fun _ => ?_) (fun _ => ?_)
                · refine F.letS (Frm.u2 (Frm.u2 (Frm.u2 (Frm.u2 (Frm.u2 hq8 rfl) rfl) rfl) rfl) rfl) (fun J18 hJ18 => ?_)
                  exact F.some hJ18
                · refine F.ite (fun _ => ?_) (fun _ => ?_)
                  · refine F.letS (Frm.u2 (Frm.u2 (Frm.u2 (Frm.u2 (Frm.u2 hq8 rfl) rfl) rfl) rfl) rfl) (fun J19 hJ19 => ?_)
                    exact F.some hJ19
                  · refine F.ite (fun _ => ?_) (fun _ => ?_)
                    · refine F.letS (Frm.u2 (Frm.u2 (Frm.u2 (Frm.u2 (Frm.u2 hq8 rfl) rfl) rfl) rfl) rfl) (fun J20 hJ20 => ?_)
                      exact F.some hJ20
                    · refine F.ite (fun _ => ?_) (fun _ => ?_)
                      · refine F.letS (Frm.u2 (Frm.u2 (Frm.u2 (Frm.u2 (Frm.u2 hq8 rfl) rfl) rfl) rfl) rfl) (fun J21 hJ21 => ?_)
                        exact F.some hJ21
                      · refine F.letS (Frm.u2 (Frm.u2 (Frm.u2 (Frm.u2 (Frm.u2 hq8 rfl) rfl) rfl) rfl) rfl) (fun J22 hJ22 => ?_)
                        exact F.some hJ22
      · refine F.bind (l192_267_fr  _ _ _ (Frm.u2 (Frm.u2 hq8 rfl) rfl)) (fun q27 hq27 => ?_)
        refine F.ite (fun _ => ?_) (fun _ => ?_)
        · exact F.some (Frm.u2 (Frm.u2 (Frm.u2 hq27 rfl) rfl) rfl)
        · refine F.ite (fun _ => ?_) (fun _ => ?_)
          · exact F.some (Frm.u2 (Frm.u2 (Frm.u2 hq27 rfl) rfl) rfl)
          · exact F.some (Frm.u2 (Frm.u2 (Frm.u2 hq27 rfl) rfl) rfl)
    · refine F.bind (l192_147_fr  _  _ (Frm.u2 (Frm.u2 hq8 rfl) rfl)) (fun q32 hq32 => ?_)
      refine F.ite (fun _ => ?_) (fun _ => ?_)
      · refine F.bindr (fun q37 => ?_)
        refine F.ite (fun _ => ?_) (fun _ => ?_)
        · refine F.bindr (fun q38 => ?_)
          refine F.ite (fun _ => ?_) (fun _ => ?_)
          · exact F.some (Frm.u2 (Frm.u2 hq32 rfl) rfl)
          · exact F.some (Frm.u2 (Frm.u2 hq32 rfl) rfl)
        · exact F.some (Frm.u2 (Frm.u2 hq32 rfl) rfl)
      · exact F.some (Frm.u2 (Frm.u2 hq32 rfl) rfl)
theorem x199_fr {a1 : Int32} (I0 I : St) (h0 : Frm [(82, some 11)] I0 I) : Fq (x199 I a1) (fun q => Frm [(82, some 11)] I0 q.2) := by
  unfold x199
  refine F.ite (fun _ => ?_) (fun _ => ?_)
  · refine F.bind (x200_fr (by decide) _ _ Frm.refl) (fun q1 hq1 => ?_)
    refine F.ite (fun _ => ?_) (fun _ => ?_)
    · exact F.some (Frm.trans h0 hq1 rfl)
    · exact F.some (Frm.trans h0 hq1 rfl)
  · exact F.some h0
theorem x201_fr {Z : Nat} (hZ : Z = 85 ∨ Z = 126) (I0 I : St) (h0 : Frm [(Z, some 4), ((Z + 1), none), ((Z + 2), none), (Z, some 3), ((Z + 3), none), (82, some 11), (82, some 16), (82, some 13), (82, some 14), (82, some 12), (82, some 15), (84, some 0)] I0 I) : Fq (x201 Z I) (fun q => Sum.elim (fun a => Frm [(Z, some 4), ((Z + 1), none), ((Z + 2), none), (Z, some 3), ((Z + 3), none), (82, some 11), (82, some 16), (82, some 13), (82, some 14), (82, some 12), (82, some 15), (84, some 0)] I0 a) (fun b => Frm [(Z, some 4), ((Z + 1), none), ((Z + 2), none), (Z, some 3), ((Z + 3), none), (82, some 11), (82, some 16), (82, some 13), (82, some 14), (82, some 12), (82, some 15), (84, some 0)] I0 b.2) q) := by
  rcases hZ with rfl | rfl
  all_goals
    unfold x201
    refine F.ite (fun _ => ?_) (fun _ => ?_)
    · refine F.ite (fun _ => ?_) (fun _ => ?_)
      · refine F.bind (x202_fr (by decide) _ _ Frm.refl) (fun q1 hq1 => ?_)
        refine F.bind (x192_fr  _ _ Frm.refl) (fun q2 hq2 => ?_)
        exact F.some (Frm.trans (Frm.trans h0 hq1 rfl) hq2 rfl)
      · exact F.some (Frm.u2 h0 rfl)
    · exact F.some (Frm.u2 h0 rfl)
theorem x204_fr {a1 : Int32} (I0 I : St) (h0 : Frm [(84, some 0), (82, some 11), (82, some 16), (82, some 13), (82, some 14), (82, some 12), (82, some 15)] I0 I) : Fq (x204 I a1) (fun q => Sum.elim (fun a => Frm [(84, some 0), (82, some 11), (82, some 16), (82, some 13), (82, some 14), (82, some 12), (82, some 15)] I0 a) (fun b => Frm [(84, some 0), (82, some 11), (82, some 16), (82, some 13), (82, some 14), (82, some 12), (82, some 15)] I0 b) q) := by
  unfold x204
  refine F.bindr (fun q1 => ?_)
  refine F.ite (fun _ => ?_) (fun _ => ?_)
  · exact F.some (Frm.u2 h0 rfl)
  · refine F.bind (x192_fr  _ _ Frm.refl) (fun q2 hq2 => ?_)
    exact F.some (Frm.trans h0 hq2 rfl)
theorem x207_fr {a1 : Int32} (I0 I : St) (h0 : Frm [(82, some 11), (84, some 0), (82, some 16), (82, some 13), (82, some 14), (82, some 12), (82, some 15)] I0 I) : Fq (x207 I a1) (fun q => Sum.elim (fun a => Frm [(82, some 11), (84, some 0), (82, some 16), (82, some 13), (82, some 14), (82, some 12), (82, some 15)] I0 a) (fun b => Frm [(82, some 11), (84, some 0), (82, some 16), (82, some 13), (82, some 14), (82, some 12), (82, some 15)] I0 b.2) q) := by
  unfold x207
  refine F.bind (x199_fr  _ _ Frm.refl) (fun q1 hq1 => ?_)
  refine F.bind (S := fun q => Frm [(82, some 11), (84, some 0), (82, some 16), (82, some 13), (82, some 14), (82, some 12), (82, some 15)] I0 q.2) ?_ (fun q4 hq4 => ?_)
  · refine F.ite (fun _ => ?_) (fun _ => ?_)
    · refine F.bind (x199_fr  _ _ Frm.refl) (fun q2 hq2 => ?_)
      refine F.ite (fun _ => ?_) (fun _ => ?_)
      · refine F.ite (fun _ => ?_) (fun _ => ?_)
        · exact F.some (Frm.trans (Frm.trans h0 hq1 rfl) hq2 rfl)
        · refine F.bind (x199_fr  _ _ Frm.refl) (fun q3 hq3 => ?_)
          refine F.ite (fun _ => ?_) (fun _ => ?_)
          · exact F.some (Frm.trans (Frm.trans (Frm.trans h0 hq1 rfl) hq2 rfl) hq3 rfl)
          · exact F.some (Frm.trans (Frm.trans (Frm.trans h0 hq1 rfl) hq2 rfl) hq3 rfl)
      · exact F.some (Frm.trans (Frm.trans h0 hq1 rfl) hq2 rfl)
    · exact F.some (Frm.trans h0 hq1 rfl)
  refine F.ite (fun _ => ?_) (fun _ => ?_)
  · exact F.some (Frm.u2 hq4 rfl)
  · refine F.bind (x192_fr  _ _ Frm.refl) (fun q5 hq5 => ?_)
    exact F.some (Frm.trans hq4 hq5 rfl)
theorem x208_fr {Z : Nat} {a1 : Int32} (hZ : Z = 85 ∨ Z = 126) (I0 I : St) (h0 : Frm [(82, some 11), (82, some 16), (82, some 13), (82, some 14), (82, some 12), (82, some 15), (Z, some 4), ((Z + 1), none), ((Z + 2), none), (Z, some 3), ((Z + 3), none), (84, some 0), (173, none), (172, none), (171, none), (82, some 20), ((Z + 13), none), ((Z + 12), none), (Z, some 6), ((Z + 14), none)] I0 I) : Fq (x208 Z I a1) (fun q => Sum.elim (fun a => Frm [(82, some 11), (82, some 16), (82, some 13), (82, some 14), (82, some 12), (82, some 15), (Z, some 4), ((Z + 1), none), ((Z + 2), none), (Z, some 3), ((Z + 3), none), (84, some 0), (173, none), (172, none), (171, none), (82, some 20), ((Z + 13), none), ((Z + 12), none), (Z, some 6), ((Z + 14), none)] I0 a) (fun b => Frm [(82, some 11), (82, some 16), (82, some 13), (82, some 14), (82, some 12), (82, some 15), (Z, some 4), ((Z + 1), none), ((Z + 2), none), (Z, some 3), ((Z + 3), none), (84, some 0), (173, none), (172, none), (171, none), (82, some 20), ((Z + 13), none), ((Z + 12), none), (Z, some 6), ((Z + 14), none)] I0 b) q) := by
  rcases hZ with rfl | rfl
  all_goals
    unfold x208
    refine F.bind (x192_fr  _ _ Frm.refl) (fun q1 hq1 => ?_)
    refine F.bindT (x201_fr (by decide) _ _ Frm.refl) (fun J hJ => ?_) (fun q2 hq2 => ?_)
    · exact F.some (Frm.trans (Frm.trans h0 hq1 rfl) hJ rfl)
    · refine F.bind (x206_fr  _ _ Frm.refl) (fun q3 hq3 => ?_)
      refine F.ite (fun _ => ?_) (fun _ => ?_)
      · refine F.ite (fun _ => ?_) (fun _ => ?_)
        · refine F.bindT (x207_fr  _ _ Frm.refl) (fun J hJ => ?_) (fun q4 hq4 => ?_)
          · exact F.some (Frm.trans (Frm.u2 (Frm.u2 (Frm.trans (Frm.trans (Frm.trans h0 hq1 rfl) hq2 rfl) hq3 rfl) rfl) rfl) hJ rfl)
          · refine F.ite (fun _ => ?_) (fun _ => ?_)
            · refine F.letS (Frm.u2 (Frm.u2 (Frm.trans (Frm.u2 (Frm.u2 (Frm.trans (Frm.trans (Frm.trans h0 hq1 rfl) hq2 rfl) hq3 rfl) rfl) rfl) hq4 rfl) rfl) rfl) (fun J5 hJ5 => ?_)
              refine F.bindT (x204_fr  _ _ Frm.refl) (fun J hJ => ?_) (fun q6 hq6 => ?_)
              · exact F.some (Frm.trans hJ5 hJ rfl)
              · exact F.some (Frm.trans hJ5 hq6 rfl)
            · exact F.none
        · exact F.none
      · exact F.none
theorem x210_fr {Z : Nat} {a1 : Int32} (hZ : Z = 85 ∨ Z = 126) (I0 I : St) (h0 : Frm [(82, some 11), (84, some 0), (82, some 16), (82, some 13), (82, some 14), (82, some 12), (82, some 15), ((Z + 19), none), ((Z + 18), none)] I0 I) : Fq (x210 Z I a1) (fun q => Sum.elim (fun a => Frm [(82, some 11), (84, some 0), (82, some 16), (82, some 13), (82, some 14), (82, some 12), (82, some 15), ((Z + 19), none), ((Z + 18), none)] I0 a) (fun b => Frm [(82, some 11), (84, some 0), (82, some 16), (82, some 13), (82, some 14), (82, some 12), (82, some 15), ((Z + 19), none), ((Z + 18), none)] I0 b) q) := by
  rcases hZ with rfl | rfl
  all_goals
    unfold x210
    refine F.bindT (x207_fr  _ _ Frm.refl) (fun J hJ => ?_) (fun q1 hq1 => ?_)
    · exact F.some (Frm.trans h0 hJ rfl)
    · refine F.ite (fun _ => ?_) (fun _ => ?_)
      · refine F.ite (fun _ => ?_) (fun _ => ?_)
        · refine F.ite (fun _ => ?_) (fun _ => ?_)
          · refine F.ite (fun _ => ?_) (fun _ => ?_)
            · refine F.letS (Frm.u2 (Frm.trans h0 hq1 rfl) rfl) (fun J2 hJ2 => ?_)
              refine F.ite (fun _ => ?_) (fun _ => ?_)
              · refine F.ite (fun _ => ?_) (fun _ => ?_)
                · exact F.some (Frm.u2 hJ2 rfl)
                · exact F.none
              · exact F.none
            · exact F.none
          · exact F.none
        · exact F.none
      · refine F.ite (fun _ => ?_) (fun _ => ?_)
        · refine F.ite (fun _ => ?_) (fun _ => ?_)
          · exact F.some (Frm.u2 (Frm.trans h0 hq1 rfl) rfl)
          · exact F.none
        · exact F.none
theorem l211_24_fr {Z : Nat} {b2 : Int32} {I0 : St} (hZ : Z = 85 ∨ Z = 126) : ∀ (n : Nat) (b3 : Int32) (I : St), Frm [((Z + 39), none), (Z, some 4), ((Z + 1), none), ((Z + 2), none), (Z, some 3), ((Z + 3), none), (82, some 11), (82, some 16), (82, some 13), (82, some 14), (82, some 12), (82, some 15), (84, some 0), ((Z + 38), none), ((Z + 37), none), (Z, some 11)] I0 I → Fq (l211_24 Z b2 n b3 I) (fun q => Sum.elim (fun a => Frm [((Z + 39), none), (Z, some 4), ((Z + 1), none), ((Z + 2), none), (Z, some 3), ((Z + 3), none), (82, some 11), (82, some 16), (82, some 13), (82, some 14), (82, some 12), (82, some 15), (84, some 0), ((Z + 38), none), ((Z + 37), none), (Z, some 11)] I0 a) (fun b => Sum.elim (fun a => Frm [((Z + 39), none), (Z, some 4), ((Z + 1), none), ((Z + 2), none), (Z, some 3), ((Z + 3), none), (82, some 11), (82, some 16), (82, some 13), (82, some 14), (82, some 12), (82, some 15), (84, some 0), ((Z + 38), none), ((Z + 37), none), (Z, some 11)] I0 a) (fun b => Frm [((Z + 39), none), (Z, some 4), ((Z + 1), none), ((Z + 2), none), (Z, some 3), ((Z + 3), none), (82, some 11), (82, some 16), (82, some 13), (82, some 14), (82, some 12), (82, some 15), (84, some 0), ((Z + 38), none), ((Z + 37), none), (Z, some 11)] I0 b) b) q) := by
  rcases hZ with rfl | rfl
  all_goals
    intro n
    induction n with
    | zero => intro b3 I h0; exact F.none
    | succ n ih =>
      intro b3 I h0
      rw [l211_24]
      refine F.ite (fun _ => ?_) (fun _ => ?_)
      · exact F.some h0
      · refine F.ite (fun _ => ?_) (fun _ => ?_)
        · refine F.bindT (x201_fr (by decide) _ _ Frm.refl) (fun J hJ => ?_) (fun q2 hq2 => ?_)
          · exact F.some (Frm.trans (Frm.u2 h0 rfl) hJ rfl)
          · refine F.ite (fun _ => ?_) (fun _ => ?_)
            · exact ih _ _ (Frm.u2 (Frm.trans (Frm.u2 h0 rfl) hq2 rfl) rfl)
            · exact F.none
        · exact F.none
theorem x211_fr {Z : Nat} {a1 : Int32} (hZ : Z = 85 ∨ Z = 126) (I0 I : St) (h0 : Frm [((Z + 39), none), (Z, some 4), ((Z + 1), none), ((Z + 2), none), (Z, some 3), ((Z + 3), none), (82, some 11), (82, some 16), (82, some 13), (82, some 14), (82, some 12), (82, some 15), (84, some 0), ((Z + 38), none), ((Z + 37), none), (Z, some 11)] I0 I) : Fq (x211 Z I a1) (fun q => Sum.elim (fun a => Frm [((Z + 39), none), (Z, some 4), ((Z + 1), none), ((Z + 2), none), (Z, some 3), ((Z + 3), none), (82, some 11), (82, some 16), (82, some 13), (82, some 14), (82, some 12), (82, some 15), (84, some 0), ((Z + 38), none), ((Z + 37), none), (Z, some 11)] I0 a) (fun b => Frm [((Z + 39), none), (Z, some 4), ((Z + 1), none), ((Z + 2), none), (Z, some 3), ((Z + 3), none), (82, some 11), (82, some 16), (82, some 13), (82, some 14), (82, some 12), (82, some 15), (84, some 0), ((Z + 38), none), ((Z + 37), none), (Z, some 11)] I0 b) q) := by
  rcases hZ with rfl | rfl
  all_goals
    unfold x211
    refine F.bind (x192_fr  _ _ Frm.refl) (fun q1 hq1 => ?_)
    refine F.ite (fun _ => ?_) (fun _ => ?_)
    · refine F.bindE (l211_24_fr (by decide) _ _ _ (Frm.u2 (Frm.trans h0 hq1 rfl) rfl)) (fun q3 hq3 => ?_) (fun r hr => ?_)
      · refine F.bindT (x204_fr  _ _ Frm.refl) (fun J hJ => ?_) (fun q7 hq7 => ?_)
        · exact F.some (Frm.trans (Frm.u2 hq3 rfl) hJ rfl)
        · exact F.some (Frm.trans (Frm.u2 hq3 rfl) hq7 rfl)
      · exact F.some hr
    · exact F.none
theorem x214_fr {a1 : Int32} (I0 I : St) (h0 : Frm [(84, some 0), (82, some 11), (82, some 16), (82, some 13), (82, some 14), (82, some 12), (82, some 15)] I0 I) : Fq (x214 I a1) (fun q => Sum.elim (fun a => Frm [(84, some 0), (82, some 11), (82, some 16), (82, some 13), (82, some 14), (82, some 12), (82, some 15)] I0 a) (fun b => Frm [(84, some 0), (82, some 11), (82, some 16), (82, some 13), (82, some 14), (82, some 12), (82, some 15)] I0 b.2) q) := by
  unfold x214
  refine F.ite (fun _ => ?_) (fun _ => ?_)
  · refine F.ite (fun _ => ?_) (fun _ => ?_)
    · exact F.some (Frm.u2 h0 rfl)
    · refine F.ite (fun _ => ?_) (fun _ => ?_)
      · refine F.bind (x192_fr  _ _ Frm.refl) (fun q1 hq1 => ?_)
        exact F.some (Frm.trans h0 hq1 rfl)
      · exact F.some (Frm.u2 h0 rfl)
  · exact F.some (Frm.u2 h0 rfl)
theorem x218_fr {Z : Nat} {a1 : Int32} (hZ : Z = 85 ∨ Z = 126) (I0 I : St) (h0 : Frm [(82, some 5), (82, some 22)] I0 I) : Fq (x218 Z I a1) (fun q => Frm [(82, some 5), (82, some 22)] I0 q) := by
  rcases hZ with rfl | rfl
  all_goals
    unfold x218
    refine F.ite (fun _ => ?_) (fun _ => ?_)
    · refine F.ite (fun _ => ?_) (fun _ => ?_)
      · exact F.some h0
      · refine F.ite (fun _ => ?_) (fun _ => ?_)
        · refine F.ite (fun _ => ?_) (fun _ => ?_)
          · refine F.ite (fun _ => ?_) (fun _ => ?_)
            · refine F.bindr (fun q1 => ?_)
              refine F.ite (fun _ => ?_) (fun _ => ?_)
              · exact F.some h0
              · refine F.ite (fun _ => ?_) (fun _ => ?_)
                · refine F.ite (fun _ => ?_) (fun _ => ?_)
                  · refine F.ite (fun _ => ?_) (fun _ => ?_)
                    · refine F.ite (fun _ => ?_) (fun _ => ?_)
                      · refine F.ite (fun _ => ?_) (fun _ => ?_)
                        · refine F.ite (fun _ => ?_) (fun _ => ?_)
                          · refine F.ite (fun _ => ?_) (fun _ => ?_)
                            · refine F.ite (fun _ => ?_) (fun _ => ?_)
                              · refine F.ite (fun _ => ?_) (fun _ => ?_)
                                · exact F.some h0
                                · refine F.ite (fun _ => ?_) (fun _ => ?_)
                                  · refine F.bind (x217_fr  _ _ Frm.refl) (fun q2 hq2 => ?_)
                                    exact F.some (Frm.trans h0 hq2 rfl)
                                  · exact F.none
                              · exact F.none
                            · exact F.none
                          · refine F.ite (fun _ => ?_) (fun _ => ?_)
                            · refine F.bind (x217_fr  _ _ Frm.refl) (fun q3 hq3 => ?_)
                              exact F.some (Frm.trans h0 hq3 rfl)
                            · exact F.none
                        · exact F.none
                      · exact F.none
                    · refine F.ite (fun _ => ?_) (fun _ => ?_)
                      · refine F.bind (x217_fr  _ _ Frm.refl) (fun q4 hq4 => ?_)
                        exact F.some (Frm.trans h0 hq4 rfl)
                      · exact F.none
                  · exact F.none
                · exact F.none
            · exact F.none
          · exact F.none
        · exact F.none
    · exact F.none
