/-! FRAMES: what a function may change, by program (wip/gen/frames.py) -/
theorem x243_fr {Q : Nat} {a1 : Int32} {a2 : Int32} (hQ : Q = 85 ∨ Q = 126) (I0 I : St) (h0 : Frm [(186, none), (185, none), (181, none), (82, some 40), (82, some 41), (184, none), (183, none), (182, none), (82, some 48), (82, some 34), (82, some 65), (82, some 64), (199, none), (198, none), (82, some 63), (82, some 55), (82, some 36), (82, some 35)] I0 I) : Fq (x243 Q I a1 a2) (fun q => Frm [(186, none), (185, none), (181, none), (82, some 40), (82, some 41), (184, none), (183, none), (182, none), (82, some 48), (82, some 34), (82, some 65), (82, some 64), (199, none), (198, none), (82, some 63), (82, some 55), (82, some 36), (82, some 35)] I0 q) := by
  rcases hQ with rfl | rfl
  all_goals
    unfold x243
    refine F.bind (x244_fr  _ _ Frm.refl) (fun q1 hq1 => ?_)
    refine F.ite (fun _ => ?_) (fun _ => ?_)
    · exact F.some (Frm.trans h0 hq1 rfl)
    · refine F.bind (x245_fr (by decide) _ _ Frm.refl) (fun q2 hq2 => ?_)
      exact F.some (Frm.trans (Frm.trans h0 hq1 rfl) hq2 rfl)
theorem x253_fr {Q : Nat} {a1 : Int32} {a2 : Int32} (hQ : Q = 85 ∨ Q = 126) (I0 I : St) (h0 : Frm [(82, some 66), (82, some 65), (186, none), (185, none), (181, none), (82, some 40), (82, some 41), (184, none), (183, none), (182, none), (82, some 48), (82, some 34), (82, some 64), (199, none), (198, none), (82, some 63), (82, some 55), (82, some 36), (82, some 35)] I0 I) : Fq (x253 Q I a1 a2) (fun q => Frm [(82, some 66), (82, some 65), (186, none), (185, none), (181, none), (82, some 40), (82, some 41), (184, none), (183, none), (182, none), (82, some 48), (82, some 34), (82, some 64), (199, none), (198, none), (82, some 63), (82, some 55), (82, some 36), (82, some 35)] I0 q) := by
  rcases hQ with rfl | rfl
  all_goals
    unfold x253
    refine F.bind (S := fun q => Frm [(82, some 66), (82, some 65), (186, none), (185, none), (181, none), (82, some 40), (82, some 41), (184, none), (183, none), (182, none), (82, some 48), (82, some 34), (82, some 64), (199, none), (198, none), (82, some 63), (82, some 55), (82, some 36), (82, some 35)] I0 q.2) ?_ (fun q2 hq2 => ?_)
    · refine F.ite (fun _ => ?_) (fun _ => ?_)
      · refine F.bind (x240_fr  _ _ Frm.refl) (fun q1 hq1 => ?_)
        exact F.some (Frm.trans h0 hq1 rfl)
      · exact F.some h0
    refine F.bind (S := fun q => True) ?_ (fun q3 hq3 => ?_)
    · refine F.ite (fun _ => ?_) (fun _ => ?_)
      · exact F.some trivial
      · exact F.some trivial
    refine F.bind (x240_fr  _ _ Frm.refl) (fun q4 hq4 => ?_)
    refine F.ite (fun _ => ?_) (fun _ => ?_)
    · refine F.bind (S := fun q => True) ?_ (fun q5 hq5 => ?_)
      · refine F.ite (fun _ => ?_) (fun _ => ?_)
        · exact F.some trivial
        · exact F.some trivial
      refine F.bind (x243_fr (by decide) _ _ Frm.refl) (fun q6 hq6 => ?_)
      exact F.some (Frm.trans (Frm.trans hq2 hq4 rfl) hq6 rfl)
    · refine F.ite (fun _ => ?_) (fun _ => ?_)
      · refine F.bindr (fun q7 => ?_)
        refine F.ite (fun _ => ?_) (fun _ => ?_)
        · refine F.bind (S := fun q => True) ?_ (fun q8 hq8 => ?_)
          · refine F.ite (fun _ => ?_) (fun _ => ?_)
            · exact F.some trivial
            · exact F.some trivial
          refine F.bind (x243_fr (by decide) _ _ Frm.refl) (fun q9 hq9 => ?_)
          exact F.some (Frm.trans (Frm.trans hq2 hq4 rfl) hq9 rfl)
        · refine F.ite (fun _ => ?_) (fun _ => ?_)
          · refine F.ite (fun _ => ?_) (fun _ => ?_)
            · refine F.bindr (fun q10 => ?_)
              refine F.ite (fun _ => ?_) (fun _ => ?_)
              · refine F.ite (fun _ => ?_) (fun _ => ?_)
                · refine F.ite (fun _ => ?_) (fun _ => ?_)
                  · refine F.ite (fun _ => ?_) (fun _ => ?_)
                    · refine F.letS (Frm.u2 (Frm.u2 (Frm.trans hq2 hq4 rfl) rfl) rfl) (fun J11 hJ11 => ?_)
                      exact F.some (Frm.u2 hJ11 rfl)
                    · exact F.none
                  · refine F.ite (fun _ => ?_) (fun _ => ?_)
                    · refine F.letS (Frm.u2 (Frm.u2 (Frm.trans hq2 hq4 rfl) rfl) rfl) (fun J12 hJ12 => ?_)
                      exact F.some (Frm.u2 hJ12 rfl)
                    · exact F.none
                · exact F.none
              · refine F.ite (fun _ => ?_) (fun _ => ?_)
                · refine F.ite (fun _ => ?_) (fun _ => ?_)
                  · refine F.bind (S := fun q => True) ?_ (fun q13 hq13 => ?_)
                    · refine F.ite (fun _ => ?_) (fun _ => ?_)
                      · exact F.some trivial
                      · exact F.some trivial
                    refine F.bind (x239_fr  _ _ Frm.refl) (fun q14 hq14 => ?_)
                    exact F.some (Frm.u2 (Frm.trans (Frm.trans hq2 hq4 rfl) hq14 rfl) rfl)
                  · exact F.none
                · exact F.none
            · exact F.none
          · exact F.none
      · exact F.none
theorem x256_fr {Q : Nat} {a1 : Int32} {a2 : Int32} (hQ : Q = 85 ∨ Q = 126) (I0 I : St) (h0 : Frm [(82, some 66), (82, some 65), (186, none), (185, none), (181, none), (82, some 40), (82, some 41), (184, none), (183, none), (182, none), (82, some 48), (82, some 34), (199, none), (198, none), (82, some 64), (82, some 63), (82, some 55), (82, some 36), (82, some 35)] I0 I) : Fq (x256 Q I a1 a2) (fun q => Frm [(82, some 66), (82, some 65), (186, none), (185, none), (181, none), (82, some 40), (82, some 41), (184, none), (183, none), (182, none), (82, some 48), (82, some 34), (199, none), (198, none), (82, some 64), (82, some 63), (82, some 55), (82, some 36), (82, some 35)] I0 q) := by
  rcases hQ with rfl | rfl
  all_goals
    unfold x256
    refine F.bind (x240_fr  _ _ Frm.refl) (fun q1 hq1 => ?_)
    refine F.ite (fun _ => ?_) (fun _ => ?_)
    · refine F.ite (fun _ => ?_) (fun _ => ?_)
      · refine F.bind (S := fun q => True) ?_ (fun q2 hq2 => ?_)
        · refine F.ite (fun _ => ?_) (fun _ => ?_)
          · exact F.some trivial
          · exact F.some trivial
        refine F.bind (x244_fr  _ _ Frm.refl) (fun q3 hq3 => ?_)
        refine F.ite (fun _ => ?_) (fun _ => ?_)
        · exact F.some (Frm.trans (Frm.trans h0 hq1 rfl) hq3 rfl)
        · refine F.ite (fun _ => ?_) (fun _ => ?_)
          · refine F.bind (x239_fr  _ _ Frm.refl) (fun q4 hq4 => ?_)
            exact F.some (Frm.u2 (Frm.trans (Frm.u2 (Frm.trans (Frm.trans h0 hq1 rfl) hq3 rfl) rfl) hq4 rfl) rfl)
          · exact F.none
      · exact F.some (Frm.u2 (Frm.trans h0 hq1 rfl) rfl)
    · refine F.bind (x243_fr (by decide) _ _ Frm.refl) (fun q5 hq5 => ?_)
      exact F.some (Frm.trans (Frm.trans h0 hq1 rfl) hq5 rfl)
theorem x257_fr {Q : Nat} {a1 : Int32} {a2 : Int32} (hQ : Q = 85 ∨ Q = 126) (I0 I : St) (h0 : Frm [(82, some 66), (82, some 65), (186, none), (185, none), (181, none), (82, some 40), (82, some 41), (184, none), (183, none), (182, none), (82, some 48), (82, some 34), (82, some 64), (199, none), (198, none), (82, some 63), (82, some 55), (82, some 36), (82, some 35)] I0 I) : Fq (x257 Q I a1 a2) (fun q => Frm [(82, some 66), (82, some 65), (186, none), (185, none), (181, none), (82, some 40), (82, some 41), (184, none), (183, none), (182, none), (82, some 48), (82, some 34), (82, some 64), (199, none), (198, none), (82, some 63), (82, some 55), (82, some 36), (82, some 35)] I0 q) := by
  rcases hQ with rfl | rfl
  all_goals
    unfold x257
    refine F.bind (S := fun q => True) ?_ (fun q1 hq1 => ?_)
    · refine F.ite (fun _ => ?_) (fun _ => ?_)
      · exact F.some trivial
      · refine F.ite (fun _ => ?_) (fun _ => ?_)
        · exact F.some trivial
        · exact F.some trivial
    refine F.bind (S := fun q => Frm [(82, some 66), (82, some 65), (186, none), (185, none), (181, none), (82, some 40), (82, some 41), (184, none), (183, none), (182, none), (82, some 48), (82, some 34), (82, some 64), (199, none), (198, none), (82, some 63), (82, some 55), (82, some 36), (82, some 35)] I0 q.2) ?_ (fun q3 hq3 => ?_)
    · refine F.ite (fun _ => ?_) (fun _ => ?_)
      · exact F.some h0
      · refine F.bind (x240_fr  _ _ Frm.refl) (fun q2 hq2 => ?_)
        exact F.some (Frm.trans h0 hq2 rfl)
    refine F.bind (S := fun q => True) ?_ (fun q4 hq4 => ?_)
    · refine F.ite (fun _ => ?_) (fun _ => ?_)
      · exact F.some trivial
      · exact F.some trivial
    refine F.bind (x240_fr  _ _ Frm.refl) (fun q5 hq5 => ?_)
    refine F.bind (x240_fr  _ _ Frm.refl) (fun q6 hq6 => ?_)
    refine F.bind (S := fun q => True) ?_ (fun q7 hq7 => ?_)
    · refine F.ite (fun _ => ?_) (fun _ => ?_)
      · exact F.some trivial
      · refine F.ite (fun _ => ?_) (fun _ => ?_)
        · exact F.some trivial
        · exact F.some trivial
    refine F.ite (fun _ => ?_) (fun _ => ?_)
    · refine F.bind (S := fun q => True) ?_ (fun q8 hq8 => ?_)
      · refine F.ite (fun _ => ?_) (fun _ => ?_)
        · exact F.some trivial
        · exact F.some trivial
      refine F.bind (x243_fr (by decide) _ _ Frm.refl) (fun q9 hq9 => ?_)
      exact F.some (Frm.trans (Frm.trans (Frm.trans hq3 hq5 rfl) hq6 rfl) hq9 rfl)
    · refine F.ite (fun _ => ?_) (fun _ => ?_)
      · refine F.ite (fun _ => ?_) (fun _ => ?_)
        · refine F.ite (fun _ => ?_) (fun _ => ?_)
          · refine F.bind (x243_fr (by decide) _ _ Frm.refl) (fun q10 hq10 => ?_)
            exact F.some (Frm.trans (Frm.trans (Frm.trans hq3 hq5 rfl) hq6 rfl) hq10 rfl)
          · refine F.ite (fun _ => ?_) (fun _ => ?_)
            · refine F.ite (fun _ => ?_) (fun _ => ?_)
              · refine F.ite (fun _ => ?_) (fun _ => ?_)
                · refine F.bind (S := fun q => True) ?_ (fun q11 hq11 => ?_)
                  · refine F.ite (fun _ => ?_) (fun _ => ?_)
                    · exact F.some trivial
                    · exact F.some trivial
                  refine F.ite (fun _ => ?_) (fun _ => ?_)
                  · refine F.ite (fun _ => ?_) (fun _ => ?_)
                    · refine F.ite (fun _ => ?_) (fun _ => ?_)
                      · refine F.bind (S := fun q => True) ?_ (fun q12 hq12 => ?_)
                        · refine F.ite (fun _ => ?_) (fun _ => ?_)
                          · exact F.some trivial
                          · exact F.some trivial
                        refine F.bind (x239_fr  _ _ Frm.refl) (fun q13 hq13 => ?_)
                        exact F.some (Frm.u2 (Frm.trans (Frm.trans (Frm.trans hq3 hq5 rfl) hq6 rfl) hq13 rfl) rfl)
                      · exact F.none
                    · exact F.none
                  · refine F.ite (fun _ => ?_) (fun _ => ?_)
                    · refine F.ite (fun _ => ?_) (fun _ => ?_)
                      · refine F.ite (fun _ => ?_) (fun _ => ?_)
                        · refine F.letS (Frm.u2 (Frm.u2 (Frm.trans (Frm.trans hq3 hq5 rfl) hq6 rfl) rfl) rfl) (fun J14 hJ14 => ?_)
                          exact F.some (Frm.u2 hJ14 rfl)
                        · exact F.none
                      · refine F.ite (fun _ => ?_) (fun _ => ?_)
                        · refine F.letS (Frm.u2 (Frm.u2 (Frm.trans (Frm.trans hq3 hq5 rfl) hq6 rfl) rfl) rfl) (fun J15 hJ15 => ?_)
                          exact F.some (Frm.u2 hJ15 rfl)
                        · exact F.none
                    · exact F.none
                · exact F.none
              · refine F.bind (x243_fr (by decide) _ _ Frm.refl) (fun q16 hq16 => ?_)
                exact F.some (Frm.trans (Frm.trans (Frm.trans hq3 hq5 rfl) hq6 rfl) hq16 rfl)
            · exact F.none
        · refine F.bind (S := fun q => True) ?_ (fun q17 hq17 => ?_)
          · refine F.ite (fun _ => ?_) (fun _ => ?_)
            · exact F.some trivial
            · exact F.some trivial
          refine F.bind (x243_fr (by decide) _ _ Frm.refl) (fun q18 hq18 => ?_)
          exact F.some (Frm.trans (Frm.trans (Frm.trans hq3 hq5 rfl) hq6 rfl) hq18 rfl)
      · exact F.none
theorem x258_fr {Q : Nat} {a1 : Int32} (hQ : Q = 85 ∨ Q = 126) (I0 I : St) (h0 : Frm [(82, some 66), (82, some 65), (186, none), (185, none), (181, none), (82, some 40), (82, some 41), (184, none), (183, none), (182, none), (82, some 48), (82, some 34), (82, some 64), (199, none), (198, none), (82, some 63), (82, some 55), (82, some 36), (82, some 35)] I0 I) : Fq (x258 Q I a1) (fun q => Frm [(82, some 66), (82, some 65), (186, none), (185, none), (181, none), (82, some 40), (82, some 41), (184, none), (183, none), (182, none), (82, some 48), (82, some 34), (82, some 64), (199, none), (198, none), (82, some 63), (82, some 55), (82, some 36), (82, some 35)] I0 q) := by
  rcases hQ with rfl | rfl
  all_goals
    unfold x258
    refine F.bind (x240_fr  _ _ Frm.refl) (fun q1 hq1 => ?_)
    refine F.ite (fun _ => ?_) (fun _ => ?_)
    · refine F.bind (S := fun q => True) ?_ (fun q2 hq2 => ?_)
      · refine F.ite (fun _ => ?_) (fun _ => ?_)
        · exact F.some trivial
        · exact F.some trivial
      refine F.bind (x243_fr (by decide) _ _ Frm.refl) (fun q3 hq3 => ?_)
      exact F.some (Frm.trans (Frm.trans h0 hq1 rfl) hq3 rfl)
    · refine F.ite (fun _ => ?_) (fun _ => ?_)
      · refine F.ite (fun _ => ?_) (fun _ => ?_)
        · refine F.ite (fun _ => ?_) (fun _ => ?_)
          · refine F.ite (fun _ => ?_) (fun _ => ?_)
            · refine F.bind (S := fun q => True) ?_ (fun q4 hq4 => ?_)
              · refine F.ite (fun _ => ?_) (fun _ => ?_)
                · exact F.some trivial
                · exact F.some trivial
              refine F.bind (x239_fr  _ _ Frm.refl) (fun q5 hq5 => ?_)
              exact F.some (Frm.u2 (Frm.trans (Frm.trans h0 hq1 rfl) hq5 rfl) rfl)
            · exact F.none
          · exact F.none
        · refine F.bind (S := fun q => True) ?_ (fun q6 hq6 => ?_)
          · refine F.ite (fun _ => ?_) (fun _ => ?_)
            · exact F.some trivial
            · exact F.some trivial
          refine F.bind (x243_fr (by decide) _ _ Frm.refl) (fun q7 hq7 => ?_)
          exact F.some (Frm.trans (Frm.trans h0 hq1 rfl) hq7 rfl)
      · exact F.none
theorem l259_242_fr {Q : Nat} {b3 : Int32} {b4 : Int32} {b5 : Int32} {I0 : St} (hQ : Q = 85 ∨ Q = 126) : ∀ (n : Nat) (b6 : Int32) (I : St), Frm [(197, none), (196, none), (186, none), (185, none), (181, none), (82, some 40), (82, some 41), (184, none), (183, none), (182, none), (82, some 48), (82, some 34), (82, some 65), (82, some 64), (199, none), (198, none), (82, some 63), (82, some 55), (82, some 36), (82, some 35), (195, none), (194, none), (193, none)] I0 I → Fq (l259_242 Q b3 b4 b5 n b6 I) (fun q => Frm [(197, none), (196, none), (186, none), (185, none), (181, none), (82, some 40), (82, some 41), (184, none), (183, none), (182, none), (82, some 48), (82, some 34), (82, some 65), (82, some 64), (199, none), (198, none), (82, some 63), (82, some 55), (82, some 36), (82, some 35), (195, none), (194, none), (193, none)] I0 q) := by
  rcases hQ with rfl | rfl
  all_goals
    intro n
    induction n with
    | zero => intro b6 I h0; exact F.none
    | succ n ih =>
      intro b6 I h0
      rw [l259_242]
      refine F.ite (fun _ => ?_) (fun _ => ?_)
      · exact F.some h0
      · refine F.bind (S := fun q => True) ?_ (fun q14 hq14 => ?_)
        · refine F.ite (fun _ => ?_) (fun _ => ?_)
          · exact F.some trivial
          · refine F.ite (fun _ => ?_) (fun _ => ?_)
            · exact F.some trivial
            · exact F.none
        refine F.ite (fun _ => ?_) (fun _ => ?_)
        · refine F.ite (fun _ => ?_) (fun _ => ?_)
          · refine F.ite (fun _ => ?_) (fun _ => ?_)
            · refine F.letS (Frm.u2 (Frm.u2 h0 rfl) rfl) (fun J15 hJ15 => ?_)
              exact ih _ _ hJ15
            · exact F.none
          · refine F.ite (fun _ => ?_) (fun _ => ?_)
            · refine F.ite (fun _ => ?_) (fun _ => ?_)
              · refine F.letS (Frm.u2 (Frm.u2 h0 rfl) rfl) (fun J16 hJ16 => ?_)
                exact ih _ _ hJ16
              · exact F.none
            · exact F.none
        · exact F.none
theorem x259_fr {Q : Nat} {a1 : Int32} {a2 : Int32} (hQ : Q = 85 ∨ Q = 126) (I0 I : St) (h0 : Frm [(197, none), (196, none), (186, none), (185, none), (181, none), (82, some 40), (82, some 41), (184, none), (183, none), (182, none), (82, some 48), (82, some 34), (82, some 65), (82, some 64), (199, none), (198, none), (82, some 63), (82, some 55), (82, some 36), (82, some 35), (195, none), (194, none), (193, none)] I0 I) : Fq (x259 Q I a1 a2) (fun q => Frm [(197, none), (196, none), (186, none), (185, none), (181, none), (82, some 40), (82, some 41), (184, none), (183, none), (182, none), (82, some 48), (82, some 34), (82, some 65), (82, some 64), (199, none), (198, none), (82, some 63), (82, some 55), (82, some 36), (82, some 35), (195, none), (194, none), (193, none)] I0 q) := by
  rcases hQ with rfl | rfl
  all_goals
    unfold x259
    refine F.ite (fun _ => ?_) (fun _ => ?_)
    · refine F.ite (fun _ => ?_) (fun _ => ?_)
      · refine F.bind (S := fun q => True) ?_ (fun q1 hq1 => ?_)
        · refine F.ite (fun _ => ?_) (fun _ => ?_)
          · exact F.some trivial
          · exact F.some trivial
        refine F.letV (fun v2 => ?_)
        refine F.ite (fun _ => ?_) (fun _ => ?_)
        · refine F.ite (fun _ => ?_) (fun _ => ?_)
          · refine F.bindr (fun q3 => ?_)
            refine F.ite (fun _ => ?_) (fun _ => ?_)
            · refine F.bind (S := fun q => True) ?_ (fun q6 hq6 => ?_)
              · refine F.ite (fun _ => ?_) (fun _ => ?_)
                · exact F.some trivial
                · exact F.some trivial
              refine F.bind (x243_fr (by decide) _ _ Frm.refl) (fun q7 hq7 => ?_)
              exact F.some (Frm.trans h0 hq7 rfl)
            · refine F.ite (fun _ => ?_) (fun _ => ?_)
              · refine F.bindr (fun q8 => ?_)
                refine F.ite (fun _ => ?_) (fun _ => ?_)
                · refine F.bind (S := fun q => True) ?_ (fun q9 hq9 => ?_)
                  · refine F.ite (fun _ => ?_) (fun _ => ?_)
                    · exact F.some trivial
                    · exact F.some trivial
                  refine F.bind (x243_fr (by decide) _ _ Frm.refl) (fun q10 hq10 => ?_)
                  exact F.some (Frm.trans h0 hq10 rfl)
                · refine F.ite (fun _ => ?_) (fun _ => ?_)
                  · refine F.ite (fun _ => ?_) (fun _ => ?_)
                    · refine F.bindr (fun q11 => ?_)
                      refine F.ite (fun _ => ?_) (fun _ => ?_)
                      · exact F.some (Frm.u2 h0 rfl)
                      · refine F.letS (Frm.u2 h0 rfl) (fun J12 hJ12 => ?_)
                        refine F.ite (fun _ => ?_) (fun _ => ?_)
                        · refine F.ite (fun _ => ?_) (fun _ => ?_)
                          · refine F.ite (fun _ => ?_) (fun _ => ?_)
                            · refine F.letS (Frm.u2 (Frm.u2 (Frm.u2 hJ12 rfl) rfl) rfl) (fun J13 hJ13 => ?_)
                              refine F.bind (l259_242_fr (by decide) _ _ _ (Frm.u2 hJ13 rfl)) (fun q17 hq17 => ?_)
                              refine F.ite (fun _ => ?_) (fun _ => ?_)
                              · refine F.letS (Frm.u2 (Frm.u2 (Frm.u2 hq17 rfl) rfl) rfl) (fun J25 hJ25 => ?_)
                                exact F.some hJ25
                              · exact F.none
                            · exact F.none
                          · exact F.none
                        · exact F.none
                    · exact F.none
                  · exact F.none
              · exact F.none
          · exact F.none
        · refine F.ite (fun _ => ?_) (fun _ => ?_)
          · exact F.some (Frm.u2 h0 rfl)
          · refine F.letS (Frm.u2 h0 rfl) (fun J26 hJ26 => ?_)
            refine F.ite (fun _ => ?_) (fun _ => ?_)
            · refine F.ite (fun _ => ?_) (fun _ => ?_)
              · refine F.ite (fun _ => ?_) (fun _ => ?_)
                · refine F.letS (Frm.u2 (Frm.u2 (Frm.u2 hJ26 rfl) rfl) rfl) (fun J27 hJ27 => ?_)
                  refine F.bind (l259_242_fr (by decide) _ _ _ (Frm.u2 hJ27 rfl)) (fun q28 hq28 => ?_)
                  refine F.ite (fun _ => ?_) (fun _ => ?_)
                  · refine F.letS (Frm.u2 (Frm.u2 hq28 rfl) rfl) (fun J36 hJ36 => ?_)
                    exact F.some (Frm.u2 hJ36 rfl)
                  · exact F.none
                · exact F.none
              · exact F.none
            · exact F.none
      · exact F.none
    · exact F.none
theorem l25_27_fr {b1 : Int32} {I0 : St} : ∀ (n : Nat) (b2 : Int32) (b3 : Int32) (I : St), Frm [(35, none), (34, some 3), (36, some 4), (40, none), (39, some 3), (36, some 3), (38, none), (37, some 3), (42, none)] I0 I → Fq (l25_27 b1 n b2 b3 I) (fun q => Frm [(35, none), (34, some 3), (36, some 4), (40, none), (39, some 3), (36, some 3), (38, none), (37, some 3), (42, none)] I0 q) := by
  intro n
  induction n with
  | zero => intro b2 b3 I h0; exact F.none
  | succ n ih =>
    intro b2 b3 I h0
    rw [l25_27]
    refine F.ite (fun _ => ?_) (fun _ => ?_)
    · exact F.some h0
    · refine F.ite (fun _ => ?_) (fun _ => ?_)
      · exact F.some h0
      · refine F.ite (fun _ => ?_) (fun _ => ?_)
        · refine F.ite (fun _ => ?_) (fun _ => ?_)
          · refine F.bindr (fun q2 => ?_)
            exact ih _ _ _ h0
          · refine F.ite (fun _ => ?_) (fun _ => ?_)
            · refine F.ite (fun _ => ?_) (fun _ => ?_)
              · refine F.bind (S := fun q => True) ?_ (fun q3 hq3 => ?_)
                · refine F.ite (fun _ => ?_) (fun _ => ?_)
                  · exact F.some trivial
                  · exact F.some trivial
                refine F.bind (x45_fr  _ _ Frm.refl) (fun q4 hq4 => ?_)
                exact ih _ _ _ (Frm.trans h0 hq4 rfl)
              · refine F.bind (x46_fr  _ _ Frm.refl) (fun q5 hq5 => ?_)
                exact ih _ _ _ (Frm.trans h0 hq5 rfl)
            · refine F.bind (x43_fr  _ _ Frm.refl) (fun q6 hq6 => ?_)
              exact ih _ _ _ (Frm.trans h0 hq6 rfl)
        · exact ih _ _ _ h0
theorem x25_fr (I0 I : St) (h0 : Frm [(35, none), (34, some 3), (36, some 4), (40, none), (39, some 3), (36, some 3), (38, none), (37, some 3), (42, none)] I0 I) : Fq (x25 I) (fun q => Frm [(35, none), (34, some 3), (36, some 4), (40, none), (39, some 3), (36, some 3), (38, none), (37, some 3), (42, none)] I0 q) := by
  unfold x25
  refine F.bind (x26_fr  _ _ Frm.refl) (fun q1 hq1 => ?_)
  refine F.bind (l25_27_fr  _ _ _ _ (Frm.trans (Frm.tr h0 rfl) hq1 rfl)) (fun q7 hq7 => ?_)
  refine F.bind (x45_fr  _ _ Frm.refl) (fun q11 hq11 => ?_)
  exact F.some (Frm.trans hq7 hq11 rfl)
theorem x63_fr {P : Nat} (hP : P = 3 ∨ P = 18) (I0 I : St) (h0 : Frm [(56, some 5), ((P + 2), none), (56, some 3), (56, some 6), ((P + 8), none), ((P + 7), some 3), (47, none), (46, some 3), (49, none), (48, some 3), (56, some 4), ((P + 6), none), ((P + 5), some 3), ((P + 4), none), ((P + 3), some 3)] I0 I) : Fq (x63 P I) (fun q => Frm [(56, some 5), ((P + 2), none), (56, some 3), (56, some 6), ((P + 8), none), ((P + 7), some 3), (47, none), (46, some 3), (49, none), (48, some 3), (56, some 4), ((P + 6), none), ((P + 5), some 3), ((P + 4), none), ((P + 3), some 3)] I0 q) := by
  rcases hP with rfl | rfl
  all_goals
    unfold x63
    refine F.ite (fun _ => ?_) (fun _ => ?_)
    · refine F.ite (fun _ => ?_) (fun _ => ?_)
      · refine F.ite (fun _ => ?_) (fun _ => ?_)
        · refine F.ite (fun _ => ?_) (fun _ => ?_)
          · refine F.ite (fun _ => ?_) (fun _ => ?_)
            · refine F.bind (x58_fr  _ _ Frm.refl) (fun q1 hq1 => ?_)
              exact F.some (Frm.trans h0 hq1 rfl)
            · refine F.bind (x69_fr (by decide) _ _ Frm.refl) (fun q2 hq2 => ?_)
              exact F.some (Frm.trans h0 hq2 rfl)
          · refine F.bind (x69_fr (by decide) _ _ Frm.refl) (fun q3 hq3 => ?_)
            exact F.some (Frm.trans h0 hq3 rfl)
        · refine F.bind (x68_fr (by decide) _ _ Frm.refl) (fun q4 hq4 => ?_)
          exact F.some (Frm.trans h0 hq4 rfl)
      · refine F.bind (x64_fr (by decide) _ _ Frm.refl) (fun q5 hq5 => ?_)
        exact F.some (Frm.trans h0 hq5 rfl)
    · exact F.some (Frm.u2 (Frm.u2 h0 rfl) rfl)
theorem x71_fr {P : Nat} (hP : P = 3 ∨ P = 18) (I0 I : St) (h0 : Frm [(56, some 5), (56, some 3), (56, some 6), (51, none), (50, some 3), (49, none), ((P + 10), none), (52, some 3), ((P + 9), some 3), ((P + 8), none), (53, none), (55, none), ((P + 12), none), (54, some 3), ((P + 11), some 3), (56, some 4)] I0 I) : Fq (x71 P I) (fun q => Frm [(56, some 5), (56, some 3), (56, some 6), (51, none), (50, some 3), (49, none), ((P + 10), none), (52, some 3), ((P + 9), some 3), ((P + 8), none), (53, none), (55, none), ((P + 12), none), (54, some 3), ((P + 11), some 3), (56, some 4)] I0 q) := by
  rcases hP with rfl | rfl
  all_goals
    unfold x71
    refine F.ite (fun _ => ?_) (fun _ => ?_)
    · refine F.ite (fun _ => ?_) (fun _ => ?_)
      · refine F.ite (fun _ => ?_) (fun _ => ?_)
        · refine F.ite (fun _ => ?_) (fun _ => ?_)
          · refine F.bind (x80_fr (by decide) _ _ Frm.refl) (fun q1 hq1 => ?_)
            exact F.some (Frm.trans h0 hq1 rfl)
          · refine F.bind (x75_fr (by decide) _ _ Frm.refl) (fun q2 hq2 => ?_)
            exact F.some (Frm.trans h0 hq2 rfl)
        · refine F.bind (x80_fr (by decide) _ _ Frm.refl) (fun q3 hq3 => ?_)
          exact F.some (Frm.trans h0 hq3 rfl)
      · refine F.bind (x73_fr (by decide) _ _ Frm.refl) (fun q4 hq4 => ?_)
        exact F.some (Frm.trans h0 hq4 rfl)
    · refine F.letS (Frm.u2 (Frm.u2 (Frm.ts h0 (fun _ => rfl)) rfl) rfl) (fun J5 hJ5 => ?_)
      exact F.some hJ5
theorem l81_17_fr {P : Nat} {I0 : St} (hP : P = 3 ∨ P = 18) : ∀ (n : Nat) (b2 : Int32) (I : St), Frm [(57, some 4), (57, some 3), ((P + 2), none), (38, none), ((P + 12), none), ((P + 10), none), ((P + 4), none), ((P + 14), none)] I0 I → Fq (l81_17 P n b2 I) (fun q => Frm [(57, some 4), (57, some 3), ((P + 2), none), (38, none), ((P + 12), none), ((P + 10), none), ((P + 4), none), ((P + 14), none)] I0 q) := by
  rcases hP with rfl | rfl
  all_goals
    intro n
    induction n with
    | zero => intro b2 I h0; exact F.none
    | succ n ih =>
      intro b2 I h0
      rw [l81_17]
      refine F.ite (fun _ => ?_) (fun _ => ?_)
      · exact F.some h0
      · refine F.bind (x82_fr (by decide) _ _ Frm.refl) (fun q1 hq1 => ?_)
        exact ih _ _ (Frm.trans h0 hq1 rfl)
theorem l81_52_fr {P : Nat} {I0 : St} (hP : P = 3 ∨ P = 18) : ∀ (n : Nat) (b2 : Int32) (I : St), Frm [(57, some 4), (57, some 3), ((P + 2), none), (38, none), ((P + 12), none), ((P + 10), none), ((P + 4), none), ((P + 14), none)] I0 I → Fq (l81_52 P n b2 I) (fun q => Frm [(57, some 4), (57, some 3), ((P + 2), none), (38, none), ((P + 12), none), ((P + 10), none), ((P + 4), none), ((P + 14), none)] I0 q) := by
  rcases hP with rfl | rfl
  all_goals
    intro n
    induction n with
    | zero => intro b2 I h0; exact F.none
    | succ n ih =>
      intro b2 I h0
      rw [l81_52]
      refine F.ite (fun _ => ?_) (fun _ => ?_)
      · exact F.some h0
      · refine F.bind (x86_fr (by decide) _ _ Frm.refl) (fun q6 hq6 => ?_)
        refine F.bind (x90_fr  _ _ Frm.refl) (fun q7 hq7 => ?_)
        refine F.bind (x91_fr (by decide) _ _ Frm.refl) (fun q8 hq8 => ?_)
        refine F.bind (x94_fr (by decide) _ _ Frm.refl) (fun q9 hq9 => ?_)
        exact ih _ _ (Frm.trans (Frm.trans (Frm.trans (Frm.trans h0 hq6 rfl) hq7 rfl) hq8 rfl) hq9 rfl)
theorem x81_fr {P : Nat} (hP : P = 3 ∨ P = 18) (I0 I : St) (h0 : Frm [(57, some 4), (57, some 3), ((P + 2), none), (38, none), ((P + 12), none), ((P + 10), none), ((P + 4), none), ((P + 14), none)] I0 I) : Fq (x81 P I) (fun q => Frm [(57, some 4), (57, some 3), ((P + 2), none), (38, none), ((P + 12), none), ((P + 10), none), ((P + 4), none), ((P + 14), none)] I0 q.2) := by
  rcases hP with rfl | rfl
  all_goals
    unfold x81
    refine F.bind (l81_17_fr (by decide) _ _ _ (Frm.u2 (Frm.u2 h0 rfl) rfl)) (fun q2 hq2 => ?_)
    refine F.bind (x84_fr (by decide) _ _ Frm.refl) (fun q4 hq4 => ?_)
    refine F.bind (x85_fr  _ _ Frm.refl) (fun q5 hq5 => ?_)
    refine F.bind (l81_52_fr (by decide) _ _ _ (Frm.trans (Frm.trans hq2 hq4 rfl) hq5 rfl)) (fun q10 hq10 => ?_)
    refine F.ite (fun _ => ?_) (fun _ => ?_)
    · refine F.bind (x96_fr (by decide) _ _ Frm.refl) (fun q12 hq12 => ?_)
      exact F.some (Frm.trans hq10 hq12 rfl)
    · exact F.some hq10
theorem x108_fr {P : Nat} {a1 : Int32} {a2 : Int32} {a3 : Int32} (hP : P = 3 ∨ P = 18) (I0 I : St) (h0 : Frm [(58, some 8), (58, some 7), (58, some 11), (58, some 10), (58, some 9)] I0 I) : Fq (x108 P I a1 a2 a3) (fun q => Frm [(58, some 8), (58, some 7), (58, some 11), (58, some 10), (58, some 9)] I0 q.2) := by
  rcases hP with rfl | rfl
  all_goals
    unfold x108
    refine F.ite (fun _ => ?_) (fun _ => ?_)
    · refine F.bind (x110_fr  _ _ Frm.refl) (fun q1 hq1 => ?_)
      refine F.ite (fun _ => ?_) (fun _ => ?_)
      · exact F.some (Frm.trans h0 hq1 rfl)
      · exact F.some (Frm.trans h0 hq1 rfl)
    · refine F.ite (fun _ => ?_) (fun _ => ?_)
      · refine F.bind (x111_fr  _ _ Frm.refl) (fun q2 hq2 => ?_)
        refine F.bind (x100_fr  _ _ Frm.refl) (fun q3 hq3 => ?_)
        refine F.ite (fun _ => ?_) (fun _ => ?_)
        · exact F.some (Frm.trans (Frm.trans h0 hq2 rfl) hq3 rfl)
        · exact F.some (Frm.trans (Frm.trans h0 hq2 rfl) hq3 rfl)
      · refine F.ite (fun _ => ?_) (fun _ => ?_)
        · refine F.ite (fun _ => ?_) (fun _ => ?_)
          · exact F.some h0
          · exact F.some h0
        · refine F.ite (fun _ => ?_) (fun _ => ?_)
          · refine F.bind (x111_fr  _ _ Frm.refl) (fun q4 hq4 => ?_)
            refine F.bind (x110_fr  _ _ Frm.refl) (fun q5 hq5 => ?_)
            refine F.bind (x110_fr  _ _ Frm.refl) (fun q6 hq6 => ?_)
            refine F.ite (fun _ => ?_) (fun _ => ?_)
            · exact F.some (Frm.trans (Frm.trans (Frm.trans h0 hq4 rfl) hq5 rfl) hq6 rfl)
            · exact F.some (Frm.trans (Frm.trans (Frm.trans h0 hq4 rfl) hq5 rfl) hq6 rfl)
          · refine F.ite (fun _ => ?_) (fun _ => ?_)
            · refine F.bind (x111_fr  _ _ Frm.refl) (fun q7 hq7 => ?_)
              refine F.ite (fun _ => ?_) (fun _ => ?_)
              · exact F.some (Frm.trans h0 hq7 rfl)
              · exact F.some (Frm.trans h0 hq7 rfl)
            · refine F.ite (fun _ => ?_) (fun _ => ?_)
              · refine F.bind (x111_fr  _ _ Frm.refl) (fun q8 hq8 => ?_)
                refine F.bind (x111_fr  _ _ Frm.refl) (fun q9 hq9 => ?_)
                refine F.bind (x110_fr  _ _ Frm.refl) (fun q10 hq10 => ?_)
                refine F.bind (x110_fr  _ _ Frm.refl) (fun q11 hq11 => ?_)
                refine F.ite (fun _ => ?_) (fun _ => ?_)
                · exact F.some (Frm.trans (Frm.trans (Frm.trans (Frm.trans h0 hq8 rfl) hq9 rfl) hq10 rfl) hq11 rfl)
                · exact F.some (Frm.trans (Frm.trans (Frm.trans (Frm.trans h0 hq8 rfl) hq9 rfl) hq10 rfl) hq11 rfl)
              · refine F.ite (fun _ => ?_) (fun _ => ?_)
                · refine F.ite (fun _ => ?_) (fun _ => ?_)
                  · exact F.some h0
                  · refine F.bind (x111_fr  _ _ Frm.refl) (fun q12 hq12 => ?_)
                    refine F.ite (fun _ => ?_) (fun _ => ?_)
                    · exact F.some (Frm.trans h0 hq12 rfl)
                    · exact F.some (Frm.trans h0 hq12 rfl)
                · refine F.bind (x112_fr (by decide) _ _ Frm.refl) (fun q13 hq13 => ?_)
                  refine F.ite (fun _ => ?_) (fun _ => ?_)
                  · exact F.some (Frm.trans h0 hq13 rfl)
                  · exact F.none
theorem x144_fr {P : Nat} {a1 : Int32} {a2 : Int32} {a3 : Int32} (hP : P = 3 ∨ P = 18) (I0 I : St) (h0 : Frm [(73, none), (72, some 3), (71, none), (70, some 3), (68, some 14), (81, none), (68, some 11), (68, some 16), (68, some 15), (68, some 12), (75, none)] I0 I) : Fq (x144 P I a1 a2 a3) (fun q => Frm [(73, none), (72, some 3), (71, none), (70, some 3), (68, some 14), (81, none), (68, some 11), (68, some 16), (68, some 15), (68, some 12), (75, none)] I0 q) := by
  rcases hP with rfl | rfl
  all_goals
    unfold x144
    refine F.ite (fun _ => ?_) (fun _ => ?_)
    · refine F.bind (x145_fr (by decide) _ _ Frm.refl) (fun q1 hq1 => ?_)
      exact F.some (Frm.trans h0 hq1 rfl)
    · refine F.ite (fun _ => ?_) (fun _ => ?_)
      · refine F.bind (x147_fr (by decide) _ _ Frm.refl) (fun q2 hq2 => ?_)
        exact F.some (Frm.trans h0 hq2 rfl)
      · refine F.ite (fun _ => ?_) (fun _ => ?_)
        · refine F.bind (x154_fr (by decide) _ _ Frm.refl) (fun q3 hq3 => ?_)
          exact F.some (Frm.trans h0 hq3 rfl)
        · refine F.ite (fun _ => ?_) (fun _ => ?_)
          · refine F.bind (x131_fr  _ _ Frm.refl) (fun q4 hq4 => ?_)
            exact F.some (Frm.trans h0 hq4 rfl)
          · refine F.bind (x135_fr  _ _ Frm.refl) (fun q5 hq5 => ?_)
            exact F.some (Frm.trans (Frm.ts2 h0 (fun _ => rfl)) hq5 rfl)
theorem x155_fr {a1 : Int32} (I0 I : St) (h0 : Frm [(73, none), (72, some 3), (71, none), (70, some 3), (68, some 14), (68, some 11), (81, none), (68, some 16), (68, some 15), (68, some 12)] I0 I) : Fq (x155 I a1) (fun q => Frm [(73, none), (72, some 3), (71, none), (70, some 3), (68, some 14), (68, some 11), (81, none), (68, some 16), (68, some 15), (68, some 12)] I0 q) := by
  unfold x155
  refine F.ite (fun _ => ?_) (fun _ => ?_)
  · refine F.bind (x156_fr  _ _ Frm.refl) (fun q1 hq1 => ?_)
    exact F.some (Frm.trans h0 hq1 rfl)
  · refine F.ite (fun _ => ?_) (fun _ => ?_)
    · refine F.bind (x156_fr  _ _ Frm.refl) (fun q2 hq2 => ?_)
      exact F.some (Frm.trans h0 hq2 rfl)
    · refine F.ite (fun _ => ?_) (fun _ => ?_)
      · refine F.bind (x157_fr  _ _ Frm.refl) (fun q3 hq3 => ?_)
        exact F.some (Frm.trans h0 hq3 rfl)
      · refine F.ite (fun _ => ?_) (fun _ => ?_)
        · refine F.bind (x160_fr  _ _ Frm.refl) (fun q4 hq4 => ?_)
          exact F.some (Frm.trans h0 hq4 rfl)
        · refine F.ite (fun _ => ?_) (fun _ => ?_)
          · refine F.bind (x157_fr  _ _ Frm.refl) (fun q5 hq5 => ?_)
            exact F.some (Frm.trans h0 hq5 rfl)
          · refine F.ite (fun _ => ?_) (fun _ => ?_)
            · refine F.bind (x160_fr  _ _ Frm.refl) (fun q6 hq6 => ?_)
              exact F.some (Frm.trans h0 hq6 rfl)
            · refine F.bind (x161_fr  _ _ Frm.refl) (fun q7 hq7 => ?_)
              exact F.some (Frm.trans h0 hq7 rfl)
theorem x212_fr {Z : Nat} {a1 : Int32} (hZ : Z = 85 ∨ Z = 126) (I0 I : St) (h0 : Frm [(82, some 11), (84, some 0), ((Z + 28), none), ((Z + 26), none), ((Z + 31), none), ((Z + 29), none), ((Z + 27), none), (82, some 16), (82, some 13), (82, some 14), (82, some 12), (82, some 15), ((Z + 30), none), (Z, some 4), ((Z + 1), none), ((Z + 2), none), (Z, some 3), ((Z + 3), none), ((Z + 32), none), (Z, some 9)] I0 I) : Fq (x212 Z I a1) (fun q => Sum.elim (fun a => Frm [(82, some 11), (84, some 0), ((Z + 28), none), ((Z + 26), none), ((Z + 31), none), ((Z + 29), none), ((Z + 27), none), (82, some 16), (82, some 13), (82, some 14), (82, some 12), (82, some 15), ((Z + 30), none), (Z, some 4), ((Z + 1), none), ((Z + 2), none), (Z, some 3), ((Z + 3), none), ((Z + 32), none), (Z, some 9)] I0 a) (fun b => Frm [(82, some 11), (84, some 0), ((Z + 28), none), ((Z + 26), none), ((Z + 31), none), ((Z + 29), none), ((Z + 27), none), (82, some 16), (82, some 13), (82, some 14), (82, some 12), (82, some 15), ((Z + 30), none), (Z, some 4), ((Z + 1), none), ((Z + 2), none), (Z, some 3), ((Z + 3), none), ((Z + 32), none), (Z, some 9)] I0 b) q) := by
  rcases hZ with rfl | rfl
  · unfold x212
    refine F.bind (S := fun q => Frm [(82, some 11), (84, some 0), ((85 + 28), none), ((85 + 26), none), ((85 + 31), none), ((85 + 29), none), ((85 + 27), none), (82, some 16), (82, some 13), (82, some 14), (82, some 12), (82, some 15), ((85 + 30), none), (85, some 4), ((85 + 1), none), ((85 + 2), none), (85, some 3), ((85 + 3), none), ((85 + 32), none), (85, some 9)] I0 q.2) ?_ (fun q2 hq2 => ?_)
    · refine F.ite (fun _ => ?_) (fun _ => ?_)
      · refine F.bind (x200_fr (by decide) _ _ Frm.refl) (fun q1 hq1 => ?_)
        exact F.some (Frm.trans h0 hq1 rfl)
      · exact F.some h0
    refine F.ite (fun _ => ?_) (fun _ => ?_)
    · exact F.some (Frm.u2 hq2 rfl)
    · refine F.ite (fun _ => ?_) (fun _ => ?_)
      · refine F.ite (fun _ => ?_) (fun _ => ?_)
        · exact F.some (Frm.u2 hq2 rfl)
        · refine F.ite (fun _ => ?_) (fun _ => ?_)
          · refine F.ite (fun _ => ?_) (fun _ => ?_)
            · refine F.letS (Frm.u2 (Frm.u2 hq2 rfl) rfl) (fun J3 hJ3 => ?_)
              refine F.ite (fun _ => ?_) (fun _ => ?_)
              · refine F.ite (fun _ => ?_) (fun _ => ?_)
                · refine F.letS (Frm.u2 (Frm.u2 hJ3 rfl) rfl) (fun J4 hJ4 => ?_)
                  refine F.ite (fun _ => ?_) (fun _ => ?_)
                  · refine F.bind (x192_fr  _ _ Frm.refl) (fun q5 hq5 => ?_)
                    refine F.bind (S := fun q => Sum.elim (fun a => Frm [(82, some 11), (84, some 0), ((85 + 28), none), ((85 + 26), none), ((85 + 31), none), ((85 + 29), none), ((85 + 27), none), (82, some 16), (82, some 13), (82, some 14), (82, some 12), (82, some 15), ((85 + 30), none), (85, some 4), ((85 + 1), none), ((85 + 2), none), (85, some 3), ((85 + 3), none), ((85 + 32), none), (85, some 9)] I0 a) (fun b => Frm [(82, some 11), (84, some 0), ((85 + 28), none), ((85 + 26), none), ((85 + 31), none), ((85 + 29), none), ((85 + 27), none), (82, some 16), (82, some 13), (82, some 14), (82, some 12), (82, some 15), ((85 + 30), none), (85, some 4), ((85 + 1), none), ((85 + 2), none), (85, some 3), ((85 + 3), none), ((85 + 32), none), (85, some 9)] I0 b) q) ?_ (fun z hz => ?_)
                    · refine F.ite (fun _ => ?_) (fun _ => ?_)
                      · refine F.bindT (x213_fr  _ _ Frm.refl) (fun J hJ => ?_) (fun q6 hq6 => ?_)
                        · exact F.some (Frm.trans (Frm.trans (Frm.u2 hJ4 rfl) hq5 rfl) hJ rfl)
                        · refine F.ite (fun _ => ?_) (fun _ => ?_)
                          · exact F.some (Frm.u2 (Frm.trans (Frm.trans (Frm.u2 hJ4 rfl) hq5 rfl) hq6 rfl) rfl)
                          · exact F.none
                      · exact F.some (Frm.trans (Frm.u2 hJ4 rfl) hq5 rfl)
                    cases z with
                    | inl J =>
                      exact F.some hz
                    | inr q7 =>
                      refine F.bind (S := fun q => Sum.elim (fun a => Frm [(82, some 11), (84, some 0), ((85 + 28), none), ((85 + 26), none), ((85 + 31), none), ((85 + 29), none), ((85 + 27), none), (82, some 16), (82, some 13), (82, some 14), (82, some 12), (82, some 15), ((85 + 30), none), (85, some 4), ((85 + 1), none), ((85 + 2), none), (85, some 3), ((85 + 3), none), ((85 + 32), none), (85, some 9)] I0 a) (fun b => Frm [(82, some 11), (84, some 0), ((85 + 28), none), ((85 + 26), none), ((85 + 31), none), ((85 + 29), none), ((85 + 27), none), (82, some 16), (82, some 13), (82, some 14), (82, some 12), (82, some 15), ((85 + 30), none), (85, some 4), ((85 + 1), none), ((85 + 2), none), (85, some 3), ((85 + 3), none), ((85 + 32), none), (85, some 9)] I0 b) q) ?_ (fun z hz => ?_)
                      · refine F.ite (fun _ => ?_) (fun _ => ?_)
                        · refine F.bindT (x214_fr  _ _ Frm.refl) (fun J hJ => ?_) (fun q8 hq8 => ?_)
                          · exact F.some (Frm.trans hz hJ rfl)
                          · refine F.ite (fun _ => ?_) (fun _ => ?_)
                            · exact F.some (Frm.u2 (Frm.trans hz hq8 rfl) rfl)
                            · exact F.none
                        · refine F.ite (fun _ => ?_) (fun _ => ?_)
                          · refine F.bindT (x214_fr  _ _ Frm.refl) (fun J hJ => ?_) (fun q9 hq9 => ?_)
                            · exact F.some (Frm.trans hz hJ rfl)
                            · refine F.ite (fun _ => ?_) (fun _ => ?_)
                              · exact F.some (Frm.u2 (Frm.trans hz hq9 rfl) rfl)
                              · exact F.none
                          · refine F.ite (fun _ => ?_) (fun _ => ?_)
                            · refine F.bindT (x214_fr  _ _ Frm.refl) (fun J hJ => ?_) (fun q10 hq10 => ?_)
                              · exact F.some (Frm.trans hz hJ rfl)
                              · refine F.ite (fun _ => ?_) (fun _ => ?_)
                                · exact F.some (Frm.u2 (Frm.trans hz hq10 rfl) rfl)
                                · exact F.none
                            · refine F.ite (fun _ => ?_) (fun _ => ?_)
                              · refine F.bindT (x214_fr  _ _ Frm.refl) (fun J hJ => ?_) (fun q11 hq11 => ?_)
                                · exact F.some (Frm.trans hz hJ rfl)
                                · refine F.ite (fun _ => ?_) (fun _ => ?_)
                                  · exact F.some (Frm.u2 (Frm.trans hz hq11 rfl) rfl)
                                  · exact F.none
                              · refine F.ite (fun _ => ?_) (fun _ => ?_)
                                · refine F.bindT (x214_fr  _ _ Frm.refl) (fun J hJ => ?_) (fun q12 hq12 => ?_)
                                  · exact F.some (Frm.trans hz hJ rfl)
                                  · refine F.ite (fun _ => ?_) (fun _ => ?_)
                                    · exact F.some (Frm.u2 (Frm.trans hz hq12 rfl) rfl)
                                    · exact F.none
                                · exact F.some hz
                      cases z with
                      | inl J =>
                        exact F.some hz
                      | inr q13 =>
                        refine F.bind (S := fun q => Sum.elim (fun a => Frm [(82, some 11), (84, some 0), ((85 + 28), none), ((85 + 26), none), ((85 + 31), none), ((85 + 29), none), ((85 + 27), none), (82, some 16), (82, some 13), (82, some 14), (82, some 12), (82, some 15), ((85 + 30), none), (85, some 4), ((85 + 1), none), ((85 + 2), none), (85, some 3), ((85 + 3), none), ((85 + 32), none), (85, some 9)] I0 a) (fun b => Frm [(82, some 11), (84, some 0), ((85 + 28), none), ((85 + 26), none), ((85 + 31), none), ((85 + 29), none), ((85 + 27), none), (82, some 16), (82, some 13), (82, some 14), (82, some 12), (82, some 15), ((85 + 30), none), (85, some 4), ((85 + 1), none), ((85 + 2), none), (85, some 3), ((85 + 3), none), ((85 + 32), none), (85, some 9)] I0 b) q) ?_ (fun z hz => ?_)
                        · refine F.ite (fun _ => ?_) (fun _ => ?_)
                          · refine F.bindT (x213_fr  _ _ Frm.refl) (fun J hJ => ?_) (fun q14 hq14 => ?_)
                            · exact F.some (Frm.trans hz hJ rfl)
                            · refine F.ite (fun _ => ?_) (fun _ => ?_)
                              · exact F.some (Frm.u2 (Frm.trans hz hq14 rfl) rfl)
                              · exact F.none
                          · exact F.some hz
                        cases z with
                        | inl J =>
                          exact F.some hz
                        | inr q15 =>
                          refine F.bind (S := fun q => Sum.elim (fun a => Frm [(82, some 11), (84, some 0), ((85 + 28), none), ((85 + 26), none), ((85 + 31), none), ((85 + 29), none), ((85 + 27), none), (82, some 16), (82, some 13), (82, some 14), (82, some 12), (82, some 15), ((85 + 30), none), (85, some 4), ((85 + 1), none), ((85 + 2), none), (85, some 3), ((85 + 3), none), ((85 + 32), none), (85, some 9)] I0 a) (fun b => Frm [(82, some 11), (84, some 0), ((85 + 28), none), ((85 + 26), none), ((85 + 31), none), ((85 + 29), none), ((85 + 27), none), (82, some 16), (82, some 13), (82, some 14), (82, some 12), (82, some 15), ((85 + 30), none), (85, some 4), ((85 + 1), none), ((85 + 2), none), (85, some 3), ((85 + 3), none), ((85 + 32), none), (85, some 9)] I0 b) q) ?_ (fun z hz => ?_)
                          · refine F.ite (fun _ => ?_) (fun _ => ?_)
                            · refine F.bindT (x214_fr  _ _ Frm.refl) (fun J hJ => ?_) (fun q16 hq16 => ?_)
                              · exact F.some (Frm.trans hz hJ rfl)
                              · refine F.ite (fun _ => ?_) (fun _ => ?_)
                                · exact F.some (Frm.u2 (Frm.trans hz hq16 rfl) rfl)
                                · exact F.none
                            · refine F.ite (fun _ => ?_) (fun _ => ?_)
                              · refine F.bindT (x214_fr  _ _ Frm.refl) (fun J hJ => ?_) (fun q17 hq17 => ?_)
                                · exact F.some (Frm.trans hz hJ rfl)
                                · refine F.ite (fun _ => ?_) (fun _ => ?_)
                                  · exact F.some (Frm.u2 (Frm.trans hz hq17 rfl) rfl)
                                  · exact F.none
                              · exact F.some hz
                          cases z with
                          | inl J =>
                            exact F.some hz
                          | inr q18 =>
                            refine F.bind (S := fun q => True) ?_ (fun q19 hq19 => ?_)
                            · refine F.ite (fun _ => ?_) (fun _ => ?_)
                              · exact F.some trivial
                              · refine F.ite (fun _ => ?_) (fun _ => ?_)
                                · exact F.some trivial
                                · exact F.some trivial
                            refine F.bind (S := fun q => True) ?_ (fun q20 hq20 => ?_)
                            · refine F.ite (fun _ => ?_) (fun _ => ?_)
                              · refine F.ite (fun _ => ?_) (fun _ => ?_)
                                · exact F.some trivial
                                · refine F.ite (fun _ => ?_) (fun _ => ?_)
                                  · exact F.some trivial
                                  · exact F.some trivial
                              · refine F.ite (fun _ => ?_) (fun _ => ?_)
                                · exact F.some trivial
                                · refine F.ite (fun _ => ?_) (fun _ => ?_)
                                  · exact F.some trivial
                                  · refine F.ite (fun _ => ?_) (fun _ => ?_)
                                    · exact F.some trivial
                                    · exact F.some trivial
                            refine F.bind (S := fun q => Sum.elim (fun a => Frm [(82, some 11), (84, some 0), ((85 + 28), none), ((85 + 26), none), ((85 + 31), none), ((85 + 29), none), ((85 + 27), none), (82, some 16), (82, some 13), (82, some 14), (82, some 12), (82, some 15), ((85 + 30), none), (85, some 4), ((85 + 1), none), ((85 + 2), none), (85, some 3), ((85 + 3), none), ((85 + 32), none), (85, some 9)] I0 a) (fun b => Frm [(82, some 11), (84, some 0), ((85 + 28), none), ((85 + 26), none), ((85 + 31), none), ((85 + 29), none), ((85 + 27), none), (82, some 16), (82, some 13), (82, some 14), (82, some 12), (82, some 15), ((85 + 30), none), (85, some 4), ((85 + 1), none), ((85 + 2), none), (85, some 3), ((85 + 3), none), ((85 + 32), none), (85, some 9)] I0 b) q) ?_ (fun z hz => ?_)
                            · refine F.ite (fun _ => ?_) (fun _ => ?_)
                              · refine F.ite (fun _ => ?_) (fun _ => ?_)
                                · refine F.ite (fun _ => ?_) (fun _ => ?_)
                                  · refine F.ite (fun _ => ?_) (fun _ => ?_)
                                    · refine F.bindT (x201_fr (by decide) _ _ Frm.refl) (fun J hJ => ?_) (fun q21 hq21 => ?_)
                                      · exact F.some (Frm.trans (Frm.u2 hz rfl) hJ rfl)
                                      · refine F.ite (fun _ => ?_) (fun _ => ?_)
                                        · exact F.some (Frm.u2 (Frm.trans (Frm.u2 hz rfl) hq21 rfl) rfl)
                                        · exact F.none
                                    · exact F.none
                                  · refine F.ite (fun _ => ?_) (fun _ => ?_)
                                    · refine F.ite (fun _ => ?_) (fun _ => ?_)
                                      · refine F.bindT (x201_fr (by decide) _ _ Frm.refl) (fun J hJ => ?_) (fun q22 hq22 => ?_)
                                        · exact F.some (Frm.trans (Frm.u2 hz rfl) hJ rfl)
                                        · refine F.ite (fun _ => ?_) (fun _ => ?_)
                                          · exact F.some (Frm.u2 (Frm.trans (Frm.u2 hz rfl) hq22 rfl) rfl)
                                          · exact F.none
                                      · exact F.none
                                    · refine F.ite (fun _ => ?_) (fun _ => ?_)
                                      · refine F.ite (fun _ => ?_) (fun _ => ?_)
                                        · refine F.bindT (x201_fr (by decide) _ _ Frm.refl) (fun J hJ => ?_) (fun q23 hq23 => ?_)
                                          · exact F.some (Frm.trans (Frm.u2 hz rfl) hJ rfl)
                                          · refine F.ite (fun _ => ?_) (fun _ => ?_)
                                            · exact F.some (Frm.u2 (Frm.trans (Frm.u2 hz rfl) hq23 rfl) rfl)
                                            · exact F.none
                                        · exact F.none
                                      · exact F.some hz
                                · refine F.ite (fun _ => ?_) (fun _ => ?_)
                                  · refine F.bindT (x201_fr (by decide) _ _ Frm.refl) (fun J hJ => ?_) (fun q24 hq24 => ?_)
                                    · exact F.some (Frm.trans (Frm.u2 hz rfl) hJ rfl)
                                    · refine F.ite (fun _ => ?_) (fun _ => ?_)
                                      · exact F.some (Frm.u2 (Frm.trans (Frm.u2 hz rfl) hq24 rfl) rfl)
                                      · exact F.none
                                  · exact F.none
                              · refine F.ite (fun _ => ?_) (fun _ => ?_)
                                · refine F.bindT (x201_fr (by decide) _ _ Frm.refl) (fun J hJ => ?_) (fun q25 hq25 => ?_)
                                  · exact F.some (Frm.trans (Frm.u2 hz rfl) hJ rfl)
                                  · refine F.ite (fun _ => ?_) (fun _ => ?_)
                                    · exact F.some (Frm.u2 (Frm.trans (Frm.u2 hz rfl) hq25 rfl) rfl)
                                    · exact F.none
                                · exact F.none
                            cases z with
                            | inl J =>
                              exact F.some hz
                            | inr q26 =>
                              refine F.bind (S := fun q => Sum.elim (fun a => Frm [(82, some 11), (84, some 0), ((85 + 28), none), ((85 + 26), none), ((85 + 31), none), ((85 + 29), none), ((85 + 27), none), (82, some 16), (82, some 13), (82, some 14), (82, some 12), (82, some 15), ((85 + 30), none), (85, some 4), ((85 + 1), none), ((85 + 2), none), (85, some 3), ((85 + 3), none), ((85 + 32), none), (85, some 9)] I0 a) (fun b => Frm [(82, some 11), (84, some 0), ((85 + 28), none), ((85 + 26), none), ((85 + 31), none), ((85 + 29), none), ((85 + 27), none), (82, some 16), (82, some 13), (82, some 14), (82, some 12), (82, some 15), ((85 + 30), none), (85, some 4), ((85 + 1), none), ((85 + 2), none), (85, some 3), ((85 + 3), none), ((85 + 32), none), (85, some 9)] I0 b) q) ?_ (fun z hz => ?_)
                              · refine F.ite (fun _ => ?_) (fun _ => ?_)
                                · exact F.some hz
                                · refine F.ite (fun _ => ?_) (fun _ => ?_)
                                  · refine F.bindT (x201_fr (by decide) _ _ Frm.refl) (fun J hJ => ?_) (fun q27 hq27 => ?_)
                                    · exact F.some (Frm.trans (Frm.u2 hz rfl) hJ rfl)
                                    · refine F.ite (fun _ => ?_) (fun _ => ?_)
                                      · exact F.some (Frm.u2 (Frm.trans (Frm.u2 hz rfl) hq27 rfl) rfl)
                                      · exact F.none
                                  · exact F.none
                              cases z with
                              | inl J =>
                                exact F.some hz
                              | inr q28 =>
                                refine F.bindT (x204_fr  _ _ Frm.refl) (fun J hJ => ?_) (fun q29 hq29 => ?_)
                                · exact F.some (Frm.trans (Frm.u2 hz rfl) hJ rfl)
                                · exact F.some (Frm.trans (Frm.u2 hz rfl) hq29 rfl)
                  · exact F.none
                · exact F.none
              · exact F.none
            · exact F.none
          · exact F.none
      · exact F.none
  · unfold x212
    refine F.bind (S := fun q => Frm [(82, some 11), (84, some 0), ((126 + 28), none), ((126 + 26), none), ((126 + 31), none), ((126 + 29), none), ((126 + 27), none), (82, some 16), (82, some 13), (82, some 14), (82, some 12), (82, some 15), ((126 + 30), none), (126, some 4), ((126 + 1), none), ((126 + 2), none), (126, some 3), ((126 + 3), none), ((126 + 32), none), (126, some 9)] I0 q.2) ?_ (fun q2 hq2 => ?_)
    · refine F.ite (fun _ => ?_) (fun _ => ?_)
      · refine F.bind (x200_fr (by decide) _ _ Frm.refl) (fun q1 hq1 => ?_)
        exact F.some (Frm.trans h0 hq1 rfl)
      · exact F.some h0
    refine F.ite (fun _ => ?_) (fun _ => ?_)
    · exact F.some (Frm.u2 hq2 rfl)
    · refine F.ite (fun _ => ?_) (fun _ => ?_)
      · refine F.ite (fun _ => ?_) (fun _ => ?_)
        · exact F.some (Frm.u2 hq2 rfl)
        · refine F.ite (fun _ => ?_) (fun _ => ?_)
          · refine F.ite (fun _ => ?_) (fun _ => ?_)
            · refine F.letS (Frm.u2 (Frm.u2 hq2 rfl) rfl) (fun J3 hJ3 => ?_)
              refine F.ite (fun _ => ?_) (fun _ => ?_)
              · refine F.ite (fun _ => ?_) (fun _ => ?_)
                · refine F.letS (Frm.u2 (Frm.u2 hJ3 rfl) rfl) (fun J4 hJ4 => ?_)
                  refine F.ite (fun _ => ?_) (fun _ => ?_)
                  · refine F.bind (x192_fr  _ _ Frm.refl) (fun q5 hq5 => ?_)
                    refine F.bind (S := fun q => Sum.elim (fun a => Frm [(82, some 11), (84, some 0), ((126 + 28), none), ((126 + 26), none), ((126 + 31), none), ((126 + 29), none), ((126 + 27), none), (82, some 16), (82, some 13), (82, some 14), (82, some 12), (82, some 15), ((126 + 30), none), (126, some 4), ((126 + 1), none), ((126 + 2), none), (126, some 3), ((126 + 3), none), ((126 + 32), none), (126, some 9)] I0 a) (fun b => Frm [(82, some 11), (84, some 0), ((126 + 28), none), ((126 + 26), none), ((126 + 31), none), ((126 + 29), none), ((126 + 27), none), (82, some 16), (82, some 13), (82, some 14), (82, some 12), (82, some 15), ((126 + 30), none), (126, some 4), ((126 + 1), none), ((126 + 2), none), (126, some 3), ((126 + 3), none), ((126 + 32), none), (126, some 9)] I0 b) q) ?_ (fun z hz => ?_)
                    · refine F.ite (fun _ => ?_) (fun _ => ?_)
                      · refine F.bindT (x213_fr  _ _ Frm.refl) (fun J hJ => ?_) (fun q6 hq6 => ?_)
                        · exact F.some (Frm.trans (Frm.trans (Frm.u2 hJ4 rfl) hq5 rfl) hJ rfl)
                        · refine F.ite (fun _ => ?_) (fun _ => ?_)
                          · exact F.some (Frm.u2 (Frm.trans (Frm.trans (Frm.u2 hJ4 rfl) hq5 rfl) hq6 rfl) rfl)
                          · exact F.none
                      · exact F.some (Frm.trans (Frm.u2 hJ4 rfl) hq5 rfl)
                    cases z with
                    | inl J =>
                      exact F.some hz
                    | inr q7 =>
                      refine F.bind (S := fun q => Sum.elim (fun a => Frm [(82, some 11), (84, some 0), ((126 + 28), none), ((126 + 26), none), ((126 + 31), none), ((126 + 29), none), ((126 + 27), none), (82, some 16), (82, some 13), (82, some 14), (82, some 12), (82, some 15), ((126 + 30), none), (126, some 4), ((126 + 1), none), ((126 + 2), none), (126, some 3), ((126 + 3), none), ((126 + 32), none), (126, some 9)] I0 a) (fun b => Frm [(82, some 11), (84, some 0), ((126 + 28), none), ((126 + 26), none), ((126 + 31), none), ((126 + 29), none), ((126 + 27), none), (82, some 16), (82, some 13), (82, some 14), (82, some 12), (82, some 15), ((126 + 30), none), (126, some 4), ((126 + 1), none), ((126 + 2), none), (126, some 3), ((126 + 3), none), ((126 + 32), none), (126, some 9)] I0 b) q) ?_ (fun z hz => ?_)
                      · refine F.ite (fun _ => ?_) (fun _ => ?_)
                        · refine F.bindT (x214_fr  _ _ Frm.refl) (fun J hJ => ?_) (fun q8 hq8 => ?_)
                          · exact F.some (Frm.trans hz hJ rfl)
                          · refine F.ite (fun _ => ?_) (fun _ => ?_)
                            · exact F.some (Frm.u2 (Frm.trans hz hq8 rfl) rfl)
                            · exact F.none
                        · refine F.ite (fun _ => ?_) (fun _ => ?_)
                          · refine F.bindT (x214_fr  _ _ Frm.refl) (fun J hJ => ?_) (fun q9 hq9 => ?_)
                            · exact F.some (Frm.trans hz hJ rfl)
                            · refine F.ite (fun _ => ?_) (fun _ => ?_)
                              · exact F.some (Frm.u2 (Frm.trans hz hq9 rfl) rfl)
                              · exact F.none
                          · refine F.ite (fun _ => ?_) (fun _ => ?_)
                            · refine F.bindT (x214_fr  _ _ Frm.refl) (fun J hJ => ?_) (fun q10 hq10 => ?_)
                              · exact F.some (Frm.trans hz hJ rfl)
                              · refine F.ite (fun _ => ?_) (fun _ => ?_)
                                · exact F.some (Frm.u2 (Frm.trans hz hq10 rfl) rfl)
                                · exact F.none
                            · refine F.ite (fun _ => ?_) (fun _ => ?_)
                              · refine F.bindT (x214_fr  _ _ Frm.refl) (fun J hJ => ?_) (fun q11 hq11 => ?_)
                                · exact F.some (Frm.trans hz hJ rfl)
                                · refine F.ite (fun _ => ?_) (fun _ => ?_)
                                  · exact F.some (Frm.u2 (Frm.trans hz hq11 rfl) rfl)
                                  · exact F.none
                              · refine F.ite (fun _ => ?_) (fun _ => ?_)
                                · refine F.bindT (x214_fr  _ _ Frm.refl) (fun J hJ => ?_) (fun q12 hq12 => ?_)
                                  · exact F.some (Frm.trans hz hJ rfl)
                                  · refine F.ite (fun _ => ?_) (fun _ => ?_)
                                    · exact F.some (Frm.u2 (Frm.trans hz hq12 rfl) rfl)
                                    · exact F.none
                                · exact F.some hz
                      cases z with
                      | inl J =>
                        exact F.some hz
                      | inr q13 =>
                        refine F.bind (S := fun q => Sum.elim (fun a => Frm [(82, some 11), (84, some 0), ((126 + 28), none), ((126 + 26), none), ((126 + 31), none), ((126 + 29), none), ((126 + 27), none), (82, some 16), (82, some 13), (82, some 14), (82, some 12), (82, some 15), ((126 + 30), none), (126, some 4), ((126 + 1), none), ((126 + 2), none), (126, some 3), ((126 + 3), none), ((126 + 32), none), (126, some 9)] I0 a) (fun b => Frm [(82, some 11), (84, some 0), ((126 + 28), none), ((126 + 26), none), ((126 + 31), none), ((126 + 29), none), ((126 + 27), none), (82, some 16), (82, some 13), (82, some 14), (82, some 12), (82, some 15), ((126 + 30), none), (126, some 4), ((126 + 1), none), ((126 + 2), none), (126, some 3), ((126 + 3), none), ((126 + 32), none), (126, some 9)] I0 b) q) ?_ (fun z hz => ?_)
                        · refine F.ite (fun _ => ?_) (fun _ => ?_)
                          · refine F.bindT (x213_fr  _ _ Frm.refl) (fun J hJ => ?_) (fun q14 hq14 => ?_)
                            · exact F.some (Frm.trans hz hJ rfl)
                            · refine F.ite (fun _ => ?_) (fun _ => ?_)
                              · exact F.some (Frm.u2 (Frm.trans hz hq14 rfl) rfl)
                              · exact F.none
                          · exact F.some hz
                        cases z with
                        | inl J =>
                          exact F.some hz
                        | inr q15 =>
                          refine F.bind (S := fun q => Sum.elim (fun a => Frm [(82, some 11), (84, some 0), ((126 + 28), none), ((126 + 26), none), ((126 + 31), none), ((126 + 29), none), ((126 + 27), none), (82, some 16), (82, some 13), (82, some 14), (82, some 12), (82, some 15), ((126 + 30), none), (126, some 4), ((126 + 1), none), ((126 + 2), none), (126, some 3), ((126 + 3), none), ((126 + 32), none), (126, some 9)] I0 a) (fun b => Frm [(82, some 11), (84, some 0), ((126 + 28), none), ((126 + 26), none), ((126 + 31), none), ((126 + 29), none), ((126 + 27), none), (82, some 16), (82, some 13), (82, some 14), (82, some 12), (82, some 15), ((126 + 30), none), (126, some 4), ((126 + 1), none), ((126 + 2), none), (126, some 3), ((126 + 3), none), ((126 + 32), none), (126, some 9)] I0 b) q) ?_ (fun z hz => ?_)
                          · refine F.ite (fun _ => ?_) (fun _ => ?_)
                            · refine F.bindT (x214_fr  _ _ Frm.refl) (fun J hJ => ?_) (fun q16 hq16 => ?_)
                              · exact F.some (Frm.trans hz hJ rfl)
                              · refine F.ite (fun _ => ?_) (fun _ => ?_)
                                · exact F.some (Frm.u2 (Frm.trans hz hq16 rfl) rfl)
                                · exact F.none
                            · refine F.ite (fun _ => ?_) (fun _ => ?_)
                              · refine F.bindT (x214_fr  _ _ Frm.refl) (fun J hJ => ?_) (fun q17 hq17 => ?_)
                                · exact F.some (Frm.trans hz hJ rfl)
                                · refine F.ite (fun _ => ?_) (fun _ => ?_)
                                  · exact F.some (Frm.u2 (Frm.trans hz hq17 rfl) rfl)
                                  · exact F.none
                              · exact F.some hz
                          cases z with
                          | inl J =>
                            exact F.some hz
                          | inr q18 =>
                            refine F.bind (S := fun q => True) ?_ (fun q19 hq19 => ?_)
                            · refine F.ite (fun _ => ?_) (fun _ => ?_)
                              · exact F.some trivial
                              · refine F.ite (fun _ => ?_) (fun _ => ?_)
                                · exact F.some trivial
                                · exact F.some trivial
                            refine F.bind (S := fun q => True) ?_ (fun q20 hq20 => ?_)
                            · refine F.ite (fun _ => ?_) (fun _ => ?_)
                              · refine F.ite (fun _ => ?_) (fun _ => ?_)
                                · exact F.some trivial
                                · refine F.ite (fun _ => ?_) (fun _ => ?_)
                                  · exact F.some trivial
                                  · exact F.some trivial
                              · refine F.ite (fun _ => ?_) (fun _ => ?_)
                                · exact F.some trivial
                                · refine F.ite (fun _ => ?_) (fun _ => ?_)
                                  · exact F.some trivial
                                  · refine F.ite (fun _ => ?_) (fun _ => ?_)
                                    · exact F.some trivial
                                    · exact F.some trivial
                            refine F.bind (S := fun q => Sum.elim (fun a => Frm [(82, some 11), (84, some 0), ((126 + 28), none), ((126 + 26), none), ((126 + 31), none), ((126 + 29), none), ((126 + 27), none), (82, some 16), (82, some 13), (82, some 14), (82, some 12), (82, some 15), ((126 + 30), none), (126, some 4), ((126 + 1), none), ((126 + 2), none), (126, some 3), ((126 + 3), none), ((126 + 32), none), (126, some 9)] I0 a) (fun b => Frm [(82, some 11), (84, some 0), ((126 + 28), none), ((126 + 26), none), ((126 + 31), none), ((126 + 29), none), ((126 + 27), none), (82, some 16), (82, some 13), (82, some 14), (82, some 12), (82, some 15), ((126 + 30), none), (126, some 4), ((126 + 1), none), ((126 + 2), none), (126, some 3), ((126 + 3), none), ((126 + 32), none), (126, some 9)] I0 b) q) ?_ (fun z hz => ?_)
                            · refine F.ite (fun _ => ?_) (fun _ => ?_)
                              · refine F.ite (fun _ => ?_) (fun _ => ?_)
                                · refine F.ite (fun _ => ?_) (fun _ => ?_)
                                  · refine F.ite (fun _ => ?_) (fun _ => ?_)
                                    · refine F.bindT (x201_fr (by decide) _ _ Frm.refl) (fun J hJ => ?_) (fun q21 hq21 => ?_)
                                      · exact F.some (Frm.trans (Frm.u2 hz rfl) hJ rfl)
                                      · refine F.ite (fun _ => ?_) (fun _ => ?_)
                                        · exact F.some (Frm.u2 (Frm.trans (Frm.u2 hz rfl) hq21 rfl) rfl)
                                        · exact F.none
                                    · exact F.none
                                  · refine F.ite (fun _ => ?_) (fun _ => ?_)
                                    · refine F.ite (fun _ => ?_) (fun _ => ?_)
                                      · refine F.bindT (x201_fr (by decide) _ _ Frm.refl) (fun J hJ => ?_) (fun q22 hq22 => ?_)
                                        · exact F.some (Frm.trans (Frm.u2 hz rfl) hJ rfl)
                                        · refine F.ite (fun _ => ?_) (fun _ => ?_)
                                          · exact F.some (Frm.u2 (Frm.trans (Frm.u2 hz rfl) hq22 rfl) rfl)
                                          · exact F.none
                                      · exact F.none
                                    · refine F.ite (fun _ => ?_) (fun _ => ?_)
                                      · refine F.ite (fun _ => ?_) (fun _ => ?_)
                                        · refine F.bindT (x201_fr (by decide) _ _ Frm.refl) (fun J hJ => ?_) (fun q23 hq23 => ?_)
                                          · exact F.some (Frm.trans (Frm.u2 hz rfl) hJ rfl)
                                          · refine F.ite (fun _ => ?_) (fun _ => ?_)
                                            · exact F.some (Frm.u2 (Frm.trans (Frm.u2 hz rfl) hq23 rfl) rfl)
                                            · exact F.none
                                        · exact F.none
                                      · exact F.some hz
                                · refine F.ite (fun _ => ?_) (fun _ => ?_)
                                  · refine F.bindT (x201_fr (by decide) _ _ Frm.refl) (fun J hJ => ?_) (fun q24 hq24 => ?_)
                                    · exact F.some (Frm.trans (Frm.u2 hz rfl) hJ rfl)
                                    · refine F.ite (fun _ => ?_) (fun _ => ?_)
                                      · exact F.some (Frm.u2 (Frm.trans (Frm.u2 hz rfl) hq24 rfl) rfl)
                                      · exact F.none
                                  · exact F.none
                              · refine F.ite (fun _ => ?_) (fun _ => ?_)
                                · refine F.bindT (x201_fr (by decide) _ _ Frm.refl) (fun J hJ => ?_) (fun q25 hq25 => ?_)
                                  · exact F.some (Frm.trans (Frm.u2 hz rfl) hJ rfl)
                                  · refine F.ite (fun _ => ?_) (fun _ => ?_)
                                    · exact F.some (Frm.u2 (Frm.trans (Frm.u2 hz rfl) hq25 rfl) rfl)
                                    · exact F.none
                                · exact F.none
                            cases z with
                            | inl J =>
                              exact F.some hz
                            | inr q26 =>
                              refine F.bind (S := fun q => Sum.elim (fun a => Frm [(82, some 11), (84, some 0), ((126 + 28), none), ((126 + 26), none), ((126 + 31), none), ((126 + 29), none), ((126 + 27), none), (82, some 16), (82, some 13), (82, some 14), (82, some 12), (82, some 15), ((126 + 30), none), (126, some 4), ((126 + 1), none), ((126 + 2), none), (126, some 3), ((126 + 3), none), ((126 + 32), none), (126, some 9)] I0 a) (fun b => Frm [(82, some 11), (84, some 0), ((126 + 28), none), ((126 + 26), none), ((126 + 31), none), ((126 + 29), none), ((126 + 27), none), (82, some 16), (82, some 13), (82, some 14), (82, some 12), (82, some 15), ((126 + 30), none), (126, some 4), ((126 + 1), none), ((126 + 2), none), (126, some 3), ((126 + 3), none), ((126 + 32), none), (126, some 9)] I0 b) q) ?_ (fun z hz => ?_)
                              · refine F.ite (fun _ => ?_) (fun _ => ?_)
                                · exact F.some hz
                                · refine F.ite (fun _ => ?_) (fun _ => ?_)
                                  · refine F.bindT (x201_fr (by decide) _ _ Frm.refl) (fun J hJ => ?_) (fun q27 hq27 => ?_)
                                    · exact F.some (Frm.trans (Frm.u2 hz rfl) hJ rfl)
                                    · refine F.ite (fun _ => ?_) (fun _ => ?_)
                                      · exact F.some (Frm.u2 (Frm.trans (Frm.u2 hz rfl) hq27 rfl) rfl)
                                      · exact F.none
                                  · exact F.none
                              cases z with
                              | inl J =>
                                exact F.some hz
                              | inr q28 =>
                                refine F.bindT (x204_fr  _ _ Frm.refl) (fun J hJ => ?_) (fun q29 hq29 => ?_)
                                · exact F.some (Frm.trans (Frm.u2 hz rfl) hJ rfl)
                                · exact F.some (Frm.trans (Frm.u2 hz rfl) hq29 rfl)
                  · exact F.none
                · exact F.none
              · exact F.none
            · exact F.none
          · exact F.none
      · exact F.none
theorem l230_17_fr {Z : Nat} {b1 : Int32} {b2 : Int32} {I0 : St} (hZ : Z = 85 ∨ Z = 126) : ∀ (n : Nat) (b3 : Int32) (I : St), Frm [(180, none), (179, none), (82, some 5), (82, some 22), (178, none), (177, none), (175, none), (176, none), ((Z + 24), none), (82, some 30), (82, some 29), (82, some 31)] I0 I → Fq (l230_17 Z b1 b2 n b3 I) (fun q => Frm [(180, none), (179, none), (82, some 5), (82, some 22), (178, none), (177, none), (175, none), (176, none), ((Z + 24), none), (82, some 30), (82, some 29), (82, some 31)] I0 q) := by
  rcases hZ with rfl | rfl
  all_goals
    intro n
    induction n with
    | zero => intro b3 I h0; exact F.none
    | succ n ih =>
      intro b3 I h0
      rw [l230_17]
      refine F.ite (fun _ => ?_) (fun _ => ?_)
      · exact F.some h0
      · refine F.ite (fun _ => ?_) (fun _ => ?_)
        · refine F.ite (fun _ => ?_) (fun _ => ?_)
          · exact ih _ _ (Frm.u2 h0 rfl)
          · exact F.none
        · exact F.none
theorem l230_323_fr {Z : Nat} {b2 : Int32} {I0 : St} (hZ : Z = 85 ∨ Z = 126) : ∀ (n : Nat) (b9 : Int32) (I : St), Frm [(180, none), (179, none), (82, some 5), (82, some 22), (178, none), (177, none), (175, none), (176, none), ((Z + 24), none), (82, some 30), (82, some 29), (82, some 31)] I0 I → Fq (l230_323 Z b2 n b9 I) (fun q => Frm [(180, none), (179, none), (82, some 5), (82, some 22), (178, none), (177, none), (175, none), (176, none), ((Z + 24), none), (82, some 30), (82, some 29), (82, some 31)] I0 q) := by
  rcases hZ with rfl | rfl
  all_goals
    intro n
    induction n with
    | zero => intro b9 I h0; exact F.none
    | succ n ih =>
      intro b9 I h0
      rw [l230_323]
      refine F.ite (fun _ => ?_) (fun _ => ?_)
      · exact F.some h0
      · refine F.ite (fun _ => ?_) (fun _ => ?_)
        · refine F.ite (fun _ => ?_) (fun _ => ?_)
          · refine F.ite (fun _ => ?_) (fun _ => ?_)
            · refine F.ite (fun _ => ?_) (fun _ => ?_)
              · exact ih _ _ h0
              · refine F.ite (fun _ => ?_) (fun _ => ?_)
                · refine F.ite (fun _ => ?_) (fun _ => ?_)
                  · exact ih _ _ h0
                  · refine F.ite (fun _ => ?_) (fun _ => ?_)
                    · refine F.ite (fun _ => ?_) (fun _ => ?_)
                      · refine F.bind (x227_fr (by decide) _ _ Frm.refl) (fun q23 hq23 => ?_)
                        exact ih _ _ (Frm.trans h0 hq23 rfl)
                      · exact F.none
                    · exact F.none
                · exact F.none
            · exact F.none
          · exact ih _ _ h0
        · exact F.none
theorem x230_fr {Z : Nat} {a1 : Int32} (hZ : Z = 85 ∨ Z = 126) (I0 I : St) (h0 : Frm [(180, none), (179, none), (82, some 5), (82, some 22), (178, none), (177, none), (175, none), (176, none), ((Z + 24), none), (82, some 30), (82, some 29), (82, some 31)] I0 I) : Fq (x230 Z I a1) (fun q => Frm [(180, none), (179, none), (82, some 5), (82, some 22), (178, none), (177, none), (175, none), (176, none), ((Z + 24), none), (82, some 30), (82, some 29), (82, some 31)] I0 q) := by
  rcases hZ with rfl | rfl
  · unfold x230
    refine F.ite (fun _ => ?_) (fun _ => ?_)
    · refine F.bind (l230_17_fr (by decide) _ _ _ h0) (fun q1 hq1 => ?_)
      refine F.ite (fun _ => ?_) (fun _ => ?_)
      · refine F.ite (fun _ => ?_) (fun _ => ?_)
        · refine F.letS (Frm.u2 (Frm.u2 hq1 rfl) rfl) (fun J9 hJ9 => ?_)
          refine F.ite (fun _ => ?_) (fun _ => ?_)
          · refine F.letV (fun v10 => ?_)
            refine F.ite (fun _ => ?_) (fun _ => ?_)
            · refine F.ite (fun _ => ?_) (fun _ => ?_)
              · refine F.letV (fun v11 => ?_)
                refine F.bind (S := fun q => Frm [(180, none), (179, none), (82, some 5), (82, some 22), (178, none), (177, none), (175, none), (176, none), ((85 + 24), none), (82, some 30), (82, some 29), (82, some 31)] I0 q.2) ?_ (fun q16 hq16 => ?_)
                · refine F.ite (fun _ => ?_) (fun _ => ?_)
                  · refine F.bind (x231_fr  _ _ Frm.refl) (fun q12 hq12 => ?_)
                    exact F.some (Frm.trans (Frm.u2 hJ9 rfl) hq12 rfl)
                  · refine F.ite (fun _ => ?_) (fun _ => ?_)
                    · refine F.bind (S := fun q => True) ?_ (fun q13 hq13 => ?_)
                      · refine F.ite (fun _ => ?_) (fun _ => ?_)
                        · exact F.some trivial
                        · refine F.ite (fun _ => ?_) (fun _ => ?_)
                          · exact F.some trivial
                          · exact F.some trivial
                      refine F.ite (fun _ => ?_) (fun _ => ?_)
                      · refine F.bind (x232_fr  _ _ Frm.refl) (fun q14 hq14 => ?_)
                        exact F.some (Frm.trans (Frm.u2 (Frm.u2 hJ9 rfl) rfl) hq14 rfl)
                      · exact F.none
                    · refine F.ite (fun _ => ?_) (fun _ => ?_)
                      · refine F.ite (fun _ => ?_) (fun _ => ?_)
                        · exact F.some (Frm.u2 (Frm.u2 hJ9 rfl) rfl)
                        · exact F.some (Frm.u2 (Frm.u2 hJ9 rfl) rfl)
                      · refine F.bind (x233_fr (by decide) _ _ Frm.refl) (fun q15 hq15 => ?_)
                        exact F.some (Frm.trans (Frm.u2 hJ9 rfl) hq15 rfl)
                refine F.ite (fun _ => ?_) (fun _ => ?_)
                · refine F.ite (fun _ => ?_) (fun _ => ?_)
                  · refine F.bind (x228_fr  _ _ Frm.refl) (fun q17 hq17 => ?_)
                    exact F.some (Frm.trans hq16 hq17 rfl)
                  · exact F.none
                · refine F.bind (S := fun q => Frm [(180, none), (179, none), (82, some 5), (82, some 22), (178, none), (177, none), (175, none), (176, none), ((85 + 24), none), (82, some 30), (82, some 29), (82, some 31)] I0 q) ?_ (fun q18 hq18 => ?_)
                  · refine F.ite (fun _ => ?_) (fun _ => ?_)
                    · exact F.some hq16
                    · refine F.ite (fun _ => ?_) (fun _ => ?_)
                      · exact F.some (Frm.u2 hq16 rfl)
                      · exact F.none
                  refine F.bind (S := fun q => Frm [(180, none), (179, none), (82, some 5), (82, some 22), (178, none), (177, none), (175, none), (176, none), ((85 + 24), none), (82, some 30), (82, some 29), (82, some 31)] I0 q) ?_ (fun q20 hq20 => ?_)
                  · refine F.ite (fun _ => ?_) (fun _ => ?_)
                    · exact F.some hq18
                    · refine F.ite (fun _ => ?_) (fun _ => ?_)
                      · exact F.some hq18
                      · refine F.ite (fun _ => ?_) (fun _ => ?_)
                        · exact F.some hq18
                        · refine F.bind (x227_fr (by decide) _ _ Frm.refl) (fun q19 hq19 => ?_)
                          exact F.some (Frm.trans hq18 hq19 rfl)
                  refine F.bind (S := fun q => Frm [(180, none), (179, none), (82, some 5), (82, some 22), (178, none), (177, none), (175, none), (176, none), ((85 + 24), none), (82, some 30), (82, some 29), (82, some 31)] I0 q) ?_ (fun q22 hq22 => ?_)
                  · refine F.ite (fun _ => ?_) (fun _ => ?_)
                    · exact F.some hq20
                    · refine F.ite (fun _ => ?_) (fun _ => ?_)
                      · exact F.some hq20
                      · refine F.ite (fun _ => ?_) (fun _ => ?_)
                        · refine F.ite (fun _ => ?_) (fun _ => ?_)
                          · refine F.bind (x227_fr (by decide) _ _ Frm.refl) (fun q21 hq21 => ?_)
                            exact F.some (Frm.trans hq20 hq21 rfl)
                          · exact F.none
                        · exact F.none
                  refine F.ite (fun _ => ?_) (fun _ => ?_)
                  · refine F.bind (l230_323_fr (by decide) _ _ _ (Frm.u2 hq22 rfl)) (fun q24 hq24 => ?_)
                    exact F.some hq24
                  · exact F.none
              · exact F.none
            · exact F.none
          · exact F.none
        · exact F.none
      · exact F.none
    · exact F.none
  · unfold x230
    refine F.ite (fun _ => ?_) (fun _ => ?_)
    · refine F.bind (l230_17_fr (by decide) _ _ _ h0) (fun q1 hq1 => ?_)
      refine F.ite (fun _ => ?_) (fun _ => ?_)
      · refine F.ite (fun _ => ?_) (fun _ => ?_)
        · refine F.letS (Frm.u2 (Frm.u2 hq1 rfl) rfl) (fun J9 hJ9 => ?_)
          refine F.ite (fun _ => ?_) (fun _ => ?_)
          · refine F.letV (fun v10 => ?_)
            refine F.ite (fun _ => ?_) (fun _ => ?_)
            · refine F.ite (fun _ => ?_) (fun _ => ?_)
              · refine F.letV (fun v11 => ?_)
                refine F.bind (S := fun q => Frm [(180, none), (179, none), (82, some 5), (82, some 22), (178, none), (177, none), (175, none), (176, none), ((126 + 24), none), (82, some 30), (82, some 29), (82, some 31)] I0 q.2) ?_ (fun q16 hq16 => ?_)
                · refine F.ite (fun _ => ?_) (fun _ => ?_)
                  · refine F.bind (x231_fr  _ _ Frm.refl) (fun q12 hq12 => ?_)
                    exact F.some (Frm.trans (Frm.u2 hJ9 rfl) hq12 rfl)
                  · refine F.ite (fun _ => ?_) (fun _ => ?_)
                    · refine F.bind (S := fun q => True) ?_ (fun q13 hq13 => ?_)
                      · refine F.ite (fun _ => ?_) (fun _ => ?_)
                        · exact F.some trivial
                        · refine F.ite (fun _ => ?_) (fun _ => ?_)
                          · exact F.some trivial
                          · exact F.some trivial
                      refine F.ite (fun _ => ?_) (fun _ => ?_)
                      · refine F.bind (x232_fr  _ _ Frm.refl) (fun q14 hq14 => ?_)
                        exact F.some (Frm.trans (Frm.u2 (Frm.u2 hJ9 rfl) rfl) hq14 rfl)
                      · exact F.none
                    · refine F.ite (fun _ => ?_) (fun _ => ?_)
                      · refine F.ite (fun _ => ?_) (fun _ => ?_)
                        · exact F.some (Frm.u2 (Frm.u2 hJ9 rfl) rfl)
                        · exact F.some (Frm.u2 (Frm.u2 hJ9 rfl) rfl)
                      · refine F.bind (x233_fr (by decide) _ _ Frm.refl) (fun q15 hq15 => ?_)
                        exact F.some (Frm.trans (Frm.u2 hJ9 rfl) hq15 rfl)
                refine F.ite (fun _ => ?_) (fun _ => ?_)
                · refine F.ite (fun _ => ?_) (fun _ => ?_)
                  · refine F.bind (x228_fr  _ _ Frm.refl) (fun q17 hq17 => ?_)
                    exact F.some (Frm.trans hq16 hq17 rfl)
                  · exact F.none
                · refine F.bind (S := fun q => Frm [(180, none), (179, none), (82, some 5), (82, some 22), (178, none), (177, none), (175, none), (176, none), ((126 + 24), none), (82, some 30), (82, some 29), (82, some 31)] I0 q) ?_ (fun q18 hq18 => ?_)
                  · refine F.ite (fun _ => ?_) (fun _ => ?_)
                    · exact F.some hq16
                    · refine F.ite (fun _ => ?_) (fun _ => ?_)
                      · exact F.some (Frm.u2 hq16 rfl)
                      · exact F.none
                  refine F.bind (S := fun q => Frm [(180, none), (179, none), (82, some 5), (82, some 22), (178, none), (177, none), (175, none), (176, none), ((126 + 24), none), (82, some 30), (82, some 29), (82, some 31)] I0 q) ?_ (fun q20 hq20 => ?_)
                  · refine F.ite (fun _ => ?_) (fun _ => ?_)
                    · exact F.some hq18
                    · refine F.ite (fun _ => ?_) (fun _ => ?_)
                      · exact F.some hq18
                      · refine F.ite (fun _ => ?_) (fun _ => ?_)
                        · exact F.some hq18
                        · refine F.bind (x227_fr (by decide) _ _ Frm.refl) (fun q19 hq19 => ?_)
                          exact F.some (Frm.trans hq18 hq19 rfl)
                  refine F.bind (S := fun q => Frm [(180, none), (179, none), (82, some 5), (82, some 22), (178, none), (177, none), (175, none), (176, none), ((126 + 24), none), (82, some 30), (82, some 29), (82, some 31)] I0 q) ?_ (fun q22 hq22 => ?_)
                  · refine F.ite (fun _ => ?_) (fun _ => ?_)
                    · exact F.some hq20
                    · refine F.ite (fun _ => ?_) (fun _ => ?_)
                      · exact F.some hq20
                      · refine F.ite (fun _ => ?_) (fun _ => ?_)
                        · refine F.ite (fun _ => ?_) (fun _ => ?_)
                          · refine F.bind (x227_fr (by decide) _ _ Frm.refl) (fun q21 hq21 => ?_)
                            exact F.some (Frm.trans hq20 hq21 rfl)
                          · exact F.none
                        · exact F.none
                  refine F.ite (fun _ => ?_) (fun _ => ?_)
                  · refine F.bind (l230_323_fr (by decide) _ _ _ (Frm.u2 hq22 rfl)) (fun q24 hq24 => ?_)
                    exact F.some hq24
                  · exact F.none
              · exact F.none
            · exact F.none
          · exact F.none
        · exact F.none
      · exact F.none
    · exact F.none
theorem x242_fr {Q : Nat} {a1 : Int32} {a2 : Int32} (hQ : Q = 85 ∨ Q = 126) (I0 I : St) (h0 : Frm [(82, some 66), (82, some 65), (186, none), (185, none), (181, none), (82, some 40), (82, some 41), (184, none), (183, none), (182, none), (82, some 48), (82, some 34), (82, some 64), (199, none), (198, none), (82, some 63), (82, some 55), (82, some 36), (82, some 35)] I0 I) : Fq (x242 Q I a1 a2) (fun q => Frm [(82, some 66), (82, some 65), (186, none), (185, none), (181, none), (82, some 40), (82, some 41), (184, none), (183, none), (182, none), (82, some 48), (82, some 34), (82, some 64), (199, none), (198, none), (82, some 63), (82, some 55), (82, some 36), (82, some 35)] I0 q) := by
  rcases hQ with rfl | rfl
  all_goals
    unfold x242
    refine F.bind (x240_fr  _ _ Frm.refl) (fun q1 hq1 => ?_)
    refine F.bind (x240_fr  _ _ Frm.refl) (fun q2 hq2 => ?_)
    refine F.ite (fun _ => ?_) (fun _ => ?_)
    · refine F.ite (fun _ => ?_) (fun _ => ?_)
      · refine F.bind (x243_fr (by decide) _ _ Frm.refl) (fun q3 hq3 => ?_)
        exact F.some (Frm.trans (Frm.trans (Frm.trans h0 hq1 rfl) hq2 rfl) hq3 rfl)
      · refine F.bindr (fun q4 => ?_)
        refine F.bind (x239_fr  _ _ Frm.refl) (fun q5 hq5 => ?_)
        exact F.some (Frm.u2 (Frm.trans (Frm.trans (Frm.trans h0 hq1 rfl) hq2 rfl) hq5 rfl) rfl)
    · refine F.ite (fun _ => ?_) (fun _ => ?_)
      · refine F.ite (fun _ => ?_) (fun _ => ?_)
        · refine F.bind (x243_fr (by decide) _ _ Frm.refl) (fun q6 hq6 => ?_)
          exact F.some (Frm.trans (Frm.trans (Frm.trans h0 hq1 rfl) hq2 rfl) hq6 rfl)
        · refine F.bindr (fun q7 => ?_)
          refine F.bind (x239_fr  _ _ Frm.refl) (fun q8 hq8 => ?_)
          exact F.some (Frm.u2 (Frm.trans (Frm.trans (Frm.trans h0 hq1 rfl) hq2 rfl) hq8 rfl) rfl)
      · refine F.bindr (fun q9 => ?_)
        refine F.bind (x239_fr  _ _ Frm.refl) (fun q10 hq10 => ?_)
        exact F.some (Frm.u2 (Frm.trans (Frm.trans (Frm.trans h0 hq1 rfl) hq2 rfl) hq10 rfl) rfl)
theorem x251_fr {Q : Nat} {a1 : Int32} {a2 : Int32} (hQ : Q = 85 ∨ Q = 126) (I0 I : St) (h0 : Frm [(186, none), (185, none), (181, none), (82, some 40), (82, some 41), (184, none), (183, none), (182, none), (82, some 48), (82, some 34), (199, none), (198, none), (82, some 65), (82, some 64), (82, some 66), (82, some 63), (82, some 55), (82, some 36), (82, some 35), (188, none), (187, none), (197, none), (196, none), (195, none), (194, none), (193, none)] I0 I) : Fq (x251 Q I a1 a2) (fun q => Frm [(186, none), (185, none), (181, none), (82, some 40), (82, some 41), (184, none), (183, none), (182, none), (82, some 48), (82, some 34), (199, none), (198, none), (82, some 65), (82, some 64), (82, some 66), (82, some 63), (82, some 55), (82, some 36), (82, some 35), (188, none), (187, none), (197, none), (196, none), (195, none), (194, none), (193, none)] I0 q) := by
  rcases hQ with rfl | rfl
  all_goals
    unfold x251
    refine F.ite (fun _ => ?_) (fun _ => ?_)
    · refine F.ite (fun _ => ?_) (fun _ => ?_)
      · refine F.ite (fun _ => ?_) (fun _ => ?_)
        · refine F.bindr (fun q1 => ?_)
          refine F.bind (x244_fr  _ _ Frm.refl) (fun q2 hq2 => ?_)
          refine F.ite (fun _ => ?_) (fun _ => ?_)
          · exact F.some (Frm.trans h0 hq2 rfl)
          · refine F.bind (x239_fr  _ _ Frm.refl) (fun q3 hq3 => ?_)
            exact F.some (Frm.u2 (Frm.trans (Frm.trans h0 hq2 rfl) hq3 rfl) rfl)
        · exact F.none
      · exact F.none
    · refine F.ite (fun _ => ?_) (fun _ => ?_)
      · refine F.bind (x253_fr (by decide) _ _ Frm.refl) (fun q4 hq4 => ?_)
        exact F.some (Frm.trans h0 hq4 rfl)
      · refine F.ite (fun _ => ?_) (fun _ => ?_)
        · refine F.bind (x253_fr (by decide) _ _ Frm.refl) (fun q5 hq5 => ?_)
          exact F.some (Frm.trans h0 hq5 rfl)
        · refine F.ite (fun _ => ?_) (fun _ => ?_)
          · refine F.ite (fun _ => ?_) (fun _ => ?_)
            · refine F.ite (fun _ => ?_) (fun _ => ?_)
              · refine F.ite (fun _ => ?_) (fun _ => ?_)
                · refine F.ite (fun _ => ?_) (fun _ => ?_)
                  · refine F.bind (x239_fr  _ _ Frm.refl) (fun q6 hq6 => ?_)
                    exact F.some (Frm.u2 (Frm.trans h0 hq6 rfl) rfl)
                  · exact F.none
                · exact F.none
              · exact F.none
            · exact F.none
          · refine F.ite (fun _ => ?_) (fun _ => ?_)
            · refine F.bind (x240_fr  _ _ Frm.refl) (fun q7 hq7 => ?_)
              refine F.ite (fun _ => ?_) (fun _ => ?_)
              · refine F.ite (fun _ => ?_) (fun _ => ?_)
                · refine F.ite (fun _ => ?_) (fun _ => ?_)
                  · refine F.ite (fun _ => ?_) (fun _ => ?_)
                    · refine F.letS (Frm.u2 (Frm.u2 (Frm.trans h0 hq7 rfl) rfl) rfl) (fun J8 hJ8 => ?_)
                      exact F.some (Frm.u2 hJ8 rfl)
                    · exact F.none
                  · exact F.none
                · exact F.none
              · exact F.none
            · refine F.ite (fun _ => ?_) (fun _ => ?_)
              · refine F.bind (x256_fr (by decide) _ _ Frm.refl) (fun q9 hq9 => ?_)
                exact F.some (Frm.trans h0 hq9 rfl)
              · refine F.ite (fun _ => ?_) (fun _ => ?_)
                · refine F.bind (x256_fr (by decide) _ _ Frm.refl) (fun q10 hq10 => ?_)
                  exact F.some (Frm.trans h0 hq10 rfl)
                · refine F.ite (fun _ => ?_) (fun _ => ?_)
                  · refine F.bind (x257_fr (by decide) _ _ Frm.refl) (fun q11 hq11 => ?_)
                    exact F.some (Frm.trans h0 hq11 rfl)
                  · refine F.ite (fun _ => ?_) (fun _ => ?_)
                    · refine F.bind (x257_fr (by decide) _ _ Frm.refl) (fun q12 hq12 => ?_)
                      exact F.some (Frm.trans h0 hq12 rfl)
                    · refine F.ite (fun _ => ?_) (fun _ => ?_)
                      · refine F.bind (x257_fr (by decide) _ _ Frm.refl) (fun q13 hq13 => ?_)
                        exact F.some (Frm.trans h0 hq13 rfl)
                      · refine F.ite (fun _ => ?_) (fun _ => ?_)
                        · refine F.bind (x257_fr (by decide) _ _ Frm.refl) (fun q14 hq14 => ?_)
                          exact F.some (Frm.trans h0 hq14 rfl)
                        · refine F.ite (fun _ => ?_) (fun _ => ?_)
                          · refine F.bind (x258_fr (by decide) _ _ Frm.refl) (fun q15 hq15 => ?_)
                            exact F.some (Frm.trans h0 hq15 rfl)
                          · refine F.ite (fun _ => ?_) (fun _ => ?_)
                            · refine F.bind (x259_fr (by decide) _ _ Frm.refl) (fun q16 hq16 => ?_)
                              exact F.some (Frm.trans h0 hq16 rfl)
                            · refine F.ite (fun _ => ?_) (fun _ => ?_)
                              · refine F.bind (x259_fr (by decide) _ _ Frm.refl) (fun q17 hq17 => ?_)
                                exact F.some (Frm.trans h0 hq17 rfl)
                              · refine F.ite (fun _ => ?_) (fun _ => ?_)
                                · refine F.bind (x260_fr (by decide) _ _ Frm.refl) (fun q18 hq18 => ?_)
                                  exact F.some (Frm.trans h0 hq18 rfl)
                                · refine F.ite (fun _ => ?_) (fun _ => ?_)
                                  · refine F.bind (x240_fr  _ _ Frm.refl) (fun q19 hq19 => ?_)
                                    refine F.ite (fun _ => ?_) (fun _ => ?_)
                                    · refine F.bind (x243_fr (by decide) _ _ Frm.refl) (fun q20 hq20 => ?_)
                                      exact F.some (Frm.trans (Frm.trans h0 hq19 rfl) hq20 rfl)
                                    · refine F.bind (x245_fr (by decide) _ _ Frm.refl) (fun q21 hq21 => ?_)
                                      exact F.some (Frm.trans (Frm.trans h0 hq19 rfl) hq21 rfl)
                                  · refine F.ite (fun _ => ?_) (fun _ => ?_)
                                    · refine F.bind (x240_fr  _ _ Frm.refl) (fun q22 hq22 => ?_)
                                      refine F.bind (S := fun q => True) ?_ (fun q24 hq24 => ?_)
                                      · refine F.ite (fun _ => ?_) (fun _ => ?_)
                                        · exact F.some trivial
                                        · refine F.ite (fun _ => ?_) (fun _ => ?_)
                                          · refine F.bindr (fun q23 => ?_)
                                            refine F.ite (fun _ => ?_) (fun _ => ?_)
                                            · exact F.some trivial
                                            · exact F.some trivial
                                          · exact F.none
                                      refine F.bind (x239_fr  _ _ Frm.refl) (fun q25 hq25 => ?_)
                                      exact F.some (Frm.u2 (Frm.trans (Frm.trans h0 hq22 rfl) hq25 rfl) rfl)
                                    · refine F.bind (x240_fr  _ _ Frm.refl) (fun q26 hq26 => ?_)
                                      refine F.ite (fun _ => ?_) (fun _ => ?_)
                                      · refine F.bind (x239_fr  _ _ Frm.refl) (fun q27 hq27 => ?_)
                                        exact F.some (Frm.u2 (Frm.trans (Frm.trans h0 hq26 rfl) hq27 rfl) rfl)
                                      · refine F.ite (fun _ => ?_) (fun _ => ?_)
                                        · refine F.bindr (fun q28 => ?_)
                                          refine F.ite (fun _ => ?_) (fun _ => ?_)
                                          · refine F.bind (x243_fr (by decide) _ _ Frm.refl) (fun q29 hq29 => ?_)
                                            exact F.some (Frm.trans (Frm.trans h0 hq26 rfl) hq29 rfl)
                                          · refine F.bind (x239_fr  _ _ Frm.refl) (fun q30 hq30 => ?_)
                                            exact F.some (Frm.u2 (Frm.trans (Frm.trans h0 hq26 rfl) hq30 rfl) rfl)
                                        · exact F.none
theorem l53_36_fr {P : Nat} {I0 : St} (hP : P = 3 ∨ P = 18) : ∀ (n : Nat) (b2 : Int32) (I : St), Frm [(56, some 5), (56, some 3), (56, some 6), ((P + 2), none), ((P + 1), some 3), (45, none), (44, some 3), (56, some 4), ((P + 8), none), ((P + 7), some 3), (47, none), (46, some 3), (49, none), (48, some 3), ((P + 6), none), ((P + 5), some 3), ((P + 4), none), ((P + 3), some 3), (51, none), (50, some 3), ((P + 10), none), (52, some 3), ((P + 9), some 3), (53, none), (55, none), ((P + 12), none), (54, some 3), ((P + 11), some 3)] I0 I → Fq (l53_36 P n b2 I) (fun q => Frm [(56, some 5), (56, some 3), (56, some 6), ((P + 2), none), ((P + 1), some 3), (45, none), (44, some 3), (56, some 4), ((P + 8), none), ((P + 7), some 3), (47, none), (46, some 3), (49, none), (48, some 3), ((P + 6), none), ((P + 5), some 3), ((P + 4), none), ((P + 3), some 3), (51, none), (50, some 3), ((P + 10), none), (52, some 3), ((P + 9), some 3), (53, none), (55, none), ((P + 12), none), (54, some 3), ((P + 11), some 3)] I0 q) := by
  rcases hP with rfl | rfl
  all_goals
    intro n
    induction n with
    | zero => intro b2 I h0; exact F.none
    | succ n ih =>
      intro b2 I h0
      rw [l53_36]
      refine F.ite (fun _ => ?_) (fun _ => ?_)
      · exact F.some h0
      · refine F.ite (fun _ => ?_) (fun _ => ?_)
        · refine F.ite (fun _ => ?_) (fun _ => ?_)
          · exact F.some h0
          · refine F.ite (fun _ => ?_) (fun _ => ?_)
            · refine F.bind (x55_fr (by decide) _ _ Frm.refl) (fun q3 hq3 => ?_)
              exact ih _ _ (Frm.trans h0 hq3 rfl)
            · refine F.ite (fun _ => ?_) (fun _ => ?_)
              · refine F.bind (x63_fr (by decide) _ _ Frm.refl) (fun q4 hq4 => ?_)
                exact ih _ _ (Frm.trans h0 hq4 rfl)
              · refine F.bind (x71_fr (by decide) _ _ Frm.refl) (fun q5 hq5 => ?_)
                exact ih _ _ (Frm.trans h0 hq5 rfl)
        · exact F.some h0
theorem x53_fr {P : Nat} (hP : P = 3 ∨ P = 18) (I0 I : St) (h0 : Frm [(56, some 5), (56, some 3), (56, some 6), ((P + 2), none), ((P + 1), some 3), (45, none), (44, some 3), (56, some 4), ((P + 8), none), ((P + 7), some 3), (47, none), (46, some 3), (49, none), (48, some 3), ((P + 6), none), ((P + 5), some 3), ((P + 4), none), ((P + 3), some 3), (51, none), (50, some 3), ((P + 10), none), (52, some 3), ((P + 9), some 3), (53, none), (55, none), ((P + 12), none), (54, some 3), ((P + 11), some 3)] I0 I) : Fq (x53 P I) (fun q => Frm [(56, some 5), (56, some 3), (56, some 6), ((P + 2), none), ((P + 1), some 3), (45, none), (44, some 3), (56, some 4), ((P + 8), none), ((P + 7), some 3), (47, none), (46, some 3), (49, none), (48, some 3), ((P + 6), none), ((P + 5), some 3), ((P + 4), none), ((P + 3), some 3), (51, none), (50, some 3), ((P + 10), none), (52, some 3), ((P + 9), some 3), (53, none), (55, none), ((P + 12), none), (54, some 3), ((P + 11), some 3)] I0 q.2) := by
  rcases hP with rfl | rfl
  all_goals
    unfold x53
    refine F.bind (x4_fr (by decide) _ _ Frm.refl) (fun q1 hq1 => ?_)
    refine F.bind (x54_fr  _ _ Frm.refl) (fun q2 hq2 => ?_)
    refine F.bind (l53_36_fr (by decide) _ _ _ (Frm.u2 (Frm.u2 (Frm.u2 (Frm.trans (Frm.trans h0 hq1 rfl) hq2 rfl) rfl) rfl) rfl)) (fun q6 hq6 => ?_)
    exact F.some hq6
theorem l106_199_fr {P : Nat} {b1 : Int32} {b4 : Int32} {I0 : St} (hP : P = 3 ∨ P = 18) : ∀ (n : Nat) (b5 : Int32) (I : St), Frm [(60, none), ((P + 8), none), (58, some 6), (58, some 9), (58, some 8), (58, some 7), (58, some 11), (58, some 10)] I0 I → Fq (l106_199 P b1 b4 n b5 I) (fun q => Frm [(60, none), ((P + 8), none), (58, some 6), (58, some 9), (58, some 8), (58, some 7), (58, some 11), (58, some 10)] I0 q) := by
  rcases hP with rfl | rfl
  all_goals
    intro n
    induction n with
    | zero => intro b5 I h0; exact F.none
    | succ n ih =>
      intro b5 I h0
      rw [l106_199]
      refine F.ite (fun _ => ?_) (fun _ => ?_)
      · exact F.some h0
      · refine F.ite (fun _ => ?_) (fun _ => ?_)
        · exact ih _ _ h0
        · refine F.ite (fun _ => ?_) (fun _ => ?_)
          · exact ih _ _ h0
          · refine F.bind (x101_fr (by decide) _ _ Frm.refl) (fun q11 hq11 => ?_)
            exact ih _ _ (Frm.trans h0 hq11 rfl)
theorem x106_fr {P : Nat} {a1 : Int32} (hP : P = 3 ∨ P = 18) (I0 I : St) (h0 : Frm [(60, none), ((P + 8), none), (58, some 6), (58, some 9), (58, some 8), (58, some 7), (58, some 11), (58, some 10)] I0 I) : Fq (x106 P I a1) (fun q => Frm [(60, none), ((P + 8), none), (58, some 6), (58, some 9), (58, some 8), (58, some 7), (58, some 11), (58, some 10)] I0 q) := by
  rcases hP with rfl | rfl
  · unfold x106
    refine F.bind (x107_fr  _ _ Frm.refl) (fun q1 hq1 => ?_)
    refine F.bind (x108_fr (by decide) _ _ Frm.refl) (fun q2 hq2 => ?_)
    refine F.ite (fun _ => ?_) (fun _ => ?_)
    · refine F.bind (x104_fr  _ _ Frm.refl) (fun q3 hq3 => ?_)
      exact F.some (Frm.trans (Frm.trans (Frm.trans (Frm.ts h0 (fun _ => rfl)) hq1 rfl) hq2 rfl) hq3 rfl)
    · refine F.ite (fun _ => ?_) (fun _ => ?_)
      · refine F.bind (S := fun q => Frm [(60, none), ((3 + 8), none), (58, some 6), (58, some 9), (58, some 8), (58, some 7), (58, some 11), (58, some 10)] I0 q) ?_ (fun q5 hq5 => ?_)
        · refine F.ite (fun _ => ?_) (fun _ => ?_)
          · exact F.some (Frm.trans (Frm.trans (Frm.ts h0 (fun _ => rfl)) hq1 rfl) hq2 rfl)
          · refine F.ite (fun _ => ?_) (fun _ => ?_)
            · exact F.some (Frm.trans (Frm.trans (Frm.ts h0 (fun _ => rfl)) hq1 rfl) hq2 rfl)
            · refine F.ite (fun _ => ?_) (fun _ => ?_)
              · exact F.some (Frm.trans (Frm.trans (Frm.ts h0 (fun _ => rfl)) hq1 rfl) hq2 rfl)
              · refine F.bind (x101_fr (by decide) _ _ Frm.refl) (fun q4 hq4 => ?_)
                exact F.some (Frm.trans (Frm.trans (Frm.trans (Frm.ts h0 (fun _ => rfl)) hq1 rfl) hq2 rfl) hq4 rfl)
        refine F.bindr (fun q6 => ?_)
        refine F.bind (S := fun q => Frm [(60, none), ((3 + 8), none), (58, some 6), (58, some 9), (58, some 8), (58, some 7), (58, some 11), (58, some 10)] I0 q) ?_ (fun q8 hq8 => ?_)
        · refine F.ite (fun _ => ?_) (fun _ => ?_)
          · refine F.bind (x101_fr (by decide) _ _ Frm.refl) (fun q7 hq7 => ?_)
            exact F.some (Frm.trans hq5 hq7 rfl)
          · exact F.some hq5
        refine F.bind (x107_fr  _ _ Frm.refl) (fun q9 hq9 => ?_)
        refine F.letV (fun v10 => ?_)
        refine F.bind (l106_199_fr (by decide) _ _ _ (Frm.u2 (Frm.u2 (Frm.trans hq8 hq9 rfl) rfl) rfl)) (fun q12 hq12 => ?_)
        exact F.some hq12
      · refine F.bind (x104_fr  _ _ Frm.refl) (fun q18 hq18 => ?_)
        exact F.some (Frm.trans (Frm.trans (Frm.trans (Frm.ts h0 (fun _ => rfl)) hq1 rfl) hq2 rfl) hq18 rfl)
  · unfold x106
    refine F.bind (x107_fr  _ _ Frm.refl) (fun q1 hq1 => ?_)
    refine F.bind (x108_fr (by decide) _ _ Frm.refl) (fun q2 hq2 => ?_)
    refine F.ite (fun _ => ?_) (fun _ => ?_)
    · refine F.bind (x104_fr  _ _ Frm.refl) (fun q3 hq3 => ?_)
      exact F.some (Frm.trans (Frm.trans (Frm.trans (Frm.ts h0 (fun _ => rfl)) hq1 rfl) hq2 rfl) hq3 rfl)
    · refine F.ite (fun _ => ?_) (fun _ => ?_)
      · refine F.bind (S := fun q => Frm [(60, none), ((18 + 8), none), (58, some 6), (58, some 9), (58, some 8), (58, some 7), (58, some 11), (58, some 10)] I0 q) ?_ (fun q5 hq5 => ?_)
        · refine F.ite (fun _ => ?_) (fun _ => ?_)
          · exact F.some (Frm.trans (Frm.trans (Frm.ts h0 (fun _ => rfl)) hq1 rfl) hq2 rfl)
          · refine F.ite (fun _ => ?_) (fun _ => ?_)
            · exact F.some (Frm.trans (Frm.trans (Frm.ts h0 (fun _ => rfl)) hq1 rfl) hq2 rfl)
            · refine F.ite (fun _ => ?_) (fun _ => ?_)
              · exact F.some (Frm.trans (Frm.trans (Frm.ts h0 (fun _ => rfl)) hq1 rfl) hq2 rfl)
              · refine F.bind (x101_fr (by decide) _ _ Frm.refl) (fun q4 hq4 => ?_)
                exact F.some (Frm.trans (Frm.trans (Frm.trans (Frm.ts h0 (fun _ => rfl)) hq1 rfl) hq2 rfl) hq4 rfl)
        refine F.bindr (fun q6 => ?_)
        refine F.bind (S := fun q => Frm [(60, none), ((18 + 8), none), (58, some 6), (58, some 9), (58, some 8), (58, some 7), (58, some 11), (58, some 10)] I0 q) ?_ (fun q8 hq8 => ?_)
        · refine F.ite (fun _ => ?_) (fun _ => ?_)
          · refine F.bind (x101_fr (by decide) _ _ Frm.refl) (fun q7 hq7 => ?_)
            exact F.some (Frm.trans hq5 hq7 rfl)
          · exact F.some hq5
        refine F.bind (x107_fr  _ _ Frm.refl) (fun q9 hq9 => ?_)
        refine F.letV (fun v10 => ?_)
        refine F.bind (l106_199_fr (by decide) _ _ _ (Frm.u2 (Frm.u2 (Frm.trans hq8 hq9 rfl) rfl) rfl)) (fun q12 hq12 => ?_)
        exact F.some hq12
      · refine F.bind (x104_fr  _ _ Frm.refl) (fun q18 hq18 => ?_)
        exact F.some (Frm.trans (Frm.trans (Frm.trans (Frm.ts h0 (fun _ => rfl)) hq1 rfl) hq2 rfl) hq18 rfl)
theorem x129_fr {P : Nat} {a1 : Int32} {a2 : Int32} {a3 : Int32} (hP : P = 3 ∨ P = 18) (I0 I : St) (h0 : Frm [(68, some 11), (81, none), (73, none), (72, some 3), (71, none), (70, some 3), (68, some 14), (68, some 16), (68, some 15), (68, some 12), (76, some 3), (77, none), (68, some 18), (79, none), (68, some 7), (68, some 10), (68, some 8), (68, some 9), (75, none)] I0 I) : Fq (x129 P I a1 a2 a3) (fun q => Frm [(68, some 11), (81, none), (73, none), (72, some 3), (71, none), (70, some 3), (68, some 14), (68, some 16), (68, some 15), (68, some 12), (76, some 3), (77, none), (68, some 18), (79, none), (68, some 7), (68, some 10), (68, some 8), (68, some 9), (75, none)] I0 q) := by
  rcases hP with rfl | rfl
  all_goals
    unfold x129
    refine F.ite (fun _ => ?_) (fun _ => ?_)
    · refine F.ite (fun _ => ?_) (fun _ => ?_)
      · refine F.ite (fun _ => ?_) (fun _ => ?_)
        · refine F.bind (x136_fr  _ _ Frm.refl) (fun q1 hq1 => ?_)
          exact F.some (Frm.trans h0 hq1 rfl)
        · refine F.ite (fun _ => ?_) (fun _ => ?_)
          · refine F.ite (fun _ => ?_) (fun _ => ?_)
            · refine F.ite (fun _ => ?_) (fun _ => ?_)
              · refine F.ite (fun _ => ?_) (fun _ => ?_)
                · refine F.bind (x168_fr (by decide) _ _ Frm.refl) (fun q2 hq2 => ?_)
                  exact F.some (Frm.trans h0 hq2 rfl)
                · refine F.bind (x163_fr (by decide) _ _ Frm.refl) (fun q3 hq3 => ?_)
                  exact F.some (Frm.trans h0 hq3 rfl)
              · refine F.bind (x155_fr  _ _ Frm.refl) (fun q4 hq4 => ?_)
                exact F.some (Frm.trans h0 hq4 rfl)
            · refine F.bind (x144_fr (by decide) _ _ Frm.refl) (fun q5 hq5 => ?_)
              exact F.some (Frm.trans h0 hq5 rfl)
          · refine F.bind (x142_fr  _ _ Frm.refl) (fun q6 hq6 => ?_)
            exact F.some (Frm.trans h0 hq6 rfl)
      · refine F.bind (x137_fr  _ _ Frm.refl) (fun q7 hq7 => ?_)
        exact F.some (Frm.trans h0 hq7 rfl)
    · refine F.bind (x130_fr  _ _ Frm.refl) (fun q8 hq8 => ?_)
      exact F.some (Frm.trans h0 hq8 rfl)
