/-! FRAMES: what a function may change, by program (wip/gen/frames.py) -/
theorem x220_fr {Z : Nat} {a1 : Int32} {a2 : Int32} (hZ : Z = 85 ∨ Z = 126) (I0 I : St) (h0 : Frm [((Z + 33), none), (82, some 5), (82, some 22), ((Z + 27), none)] I0 I) : Fq (x220 Z I a1 a2) (fun q => Frm [((Z + 33), none), (82, some 5), (82, some 22), ((Z + 27), none)] I0 q) := by
  rcases hZ with rfl | rfl
  all_goals
    unfold x220
    refine F.ite (fun _ => ?_) (fun _ => ?_)
    · refine F.ite (fun _ => ?_) (fun _ => ?_)
      · refine F.bind (S := fun q => True) ?_ (fun q1 hq1 => ?_)
        · refine F.ite (fun _ => ?_) (fun _ => ?_)
          · refine F.ite (fun _ => ?_) (fun _ => ?_)
            · exact F.some trivial
            · refine F.ite (fun _ => ?_) (fun _ => ?_)
              · exact F.some trivial
              · exact F.some trivial
          · refine F.ite (fun _ => ?_) (fun _ => ?_)
            · exact F.some trivial
            · refine F.ite (fun _ => ?_) (fun _ => ?_)
              · exact F.some trivial
              · refine F.ite (fun _ => ?_) (fun _ => ?_)
                · exact F.some trivial
                · exact F.some trivial
        refine F.ite (fun _ => ?_) (fun _ => ?_)
        · refine F.ite (fun _ => ?_) (fun _ => ?_)
          · refine F.ite (fun _ => ?_) (fun _ => ?_)
            · refine F.bindr (fun q2 => ?_)
              refine F.ite (fun _ => ?_) (fun _ => ?_)
              · refine F.ite (fun _ => ?_) (fun _ => ?_)
                · refine F.ite (fun _ => ?_) (fun _ => ?_)
                  · refine F.bind (x217_fr  _ _ Frm.refl) (fun q3 hq3 => ?_)
                    exact F.some (Frm.trans (Frm.u2 h0 rfl) hq3 rfl)
                  · exact F.none
                · refine F.ite (fun _ => ?_) (fun _ => ?_)
                  · exact F.some (Frm.u2 h0 rfl)
                  · refine F.ite (fun _ => ?_) (fun _ => ?_)
                    · refine F.bind (S := fun q => True) ?_ (fun q10 hq10 => ?_)
                      · refine F.ite (fun _ => ?_) (fun _ => ?_)
                        · refine F.bindr (fun q4 => ?_)
                          exact F.some trivial
                        · refine F.ite (fun _ => ?_) (fun _ => ?_)
                          · refine F.bindr (fun q5 => ?_)
                            exact F.some trivial
                          · refine F.ite (fun _ => ?_) (fun _ => ?_)
                            · refine F.bindr (fun q6 => ?_)
                              exact F.some trivial
                            · refine F.ite (fun _ => ?_) (fun _ => ?_)
                              · refine F.bindr (fun q7 => ?_)
                                exact F.some trivial
                              · refine F.bind (S := fun q => True) ?_ (fun q8 hq8 => ?_)
                                · refine F.ite (fun _ => ?_) (fun _ => ?_)
                                  · exact F.some trivial
                                  · exact F.some trivial
                                refine F.bindr (fun q9 => ?_)
                                exact F.some trivial
                      refine F.ite (fun _ => ?_) (fun _ => ?_)
                      · refine F.ite (fun _ => ?_) (fun _ => ?_)
                        · refine F.ite (fun _ => ?_) (fun _ => ?_)
                          · refine F.bind (x217_fr  _ _ Frm.refl) (fun q11 hq11 => ?_)
                            exact F.some (Frm.trans (Frm.u2 (Frm.u2 h0 rfl) rfl) hq11 rfl)
                          · exact F.none
                        · exact F.some (Frm.u2 (Frm.u2 h0 rfl) rfl)
                      · exact F.none
                    · exact F.none
              · exact F.none
            · exact F.none
          · refine F.ite (fun _ => ?_) (fun _ => ?_)
            · refine F.ite (fun _ => ?_) (fun _ => ?_)
              · refine F.bindr (fun q12 => ?_)
                refine F.ite (fun _ => ?_) (fun _ => ?_)
                · refine F.ite (fun _ => ?_) (fun _ => ?_)
                  · refine F.ite (fun _ => ?_) (fun _ => ?_)
                    · refine F.bind (x217_fr  _ _ Frm.refl) (fun q13 hq13 => ?_)
                      exact F.some (Frm.trans (Frm.u2 h0 rfl) hq13 rfl)
                    · exact F.none
                  · refine F.ite (fun _ => ?_) (fun _ => ?_)
                    · exact F.some (Frm.u2 h0 rfl)
                    · refine F.ite (fun _ => ?_) (fun _ => ?_)
                      · refine F.bind (S := fun q => True) ?_ (fun q20 hq20 => ?_)
                        · refine F.ite (fun _ => ?_) (fun _ => ?_)
                          · refine F.bindr (fun q14 => ?_)
                            exact F.some trivial
                          · refine F.ite (fun _ => ?_) (fun _ => ?_)
                            · refine F.bindr (fun q15 => ?_)
                              exact F.some trivial
                            · refine F.ite (fun _ => ?_) (fun _ => ?_)
                              · refine F.bindr (fun q16 => ?_)
                                exact F.some trivial
                              · refine F.ite (fun _ => ?_) (fun _ => ?_)
                                · refine F.bindr (fun q17 => ?_)
                                  exact F.some trivial
                                · refine F.bind (S := fun q => True) ?_ (fun q18 hq18 => ?_)
                                  · refine F.ite (fun _ => ?_) (fun _ => ?_)
                                    · exact F.some trivial
                                    · exact F.some trivial
                                  refine F.bindr (fun q19 => ?_)
                                  exact F.some trivial
                        refine F.ite (fun _ => ?_) (fun _ => ?_)
                        · refine F.ite (fun _ => ?_) (fun _ => ?_)
                          · refine F.ite (fun _ => ?_) (fun _ => ?_)
                            · refine F.bind (x217_fr  _ _ Frm.refl) (fun q21 hq21 => ?_)
                              exact F.some (Frm.trans (Frm.u2 (Frm.u2 h0 rfl) rfl) hq21 rfl)
                            · exact F.none
                          · exact F.some (Frm.u2 (Frm.u2 h0 rfl) rfl)
                        · exact F.none
                      · exact F.none
                · exact F.none
              · exact F.none
            · refine F.ite (fun _ => ?_) (fun _ => ?_)
              · refine F.ite (fun _ => ?_) (fun _ => ?_)
                · refine F.bindr (fun q22 => ?_)
                  refine F.ite (fun _ => ?_) (fun _ => ?_)
                  · refine F.ite (fun _ => ?_) (fun _ => ?_)
                    · refine F.ite (fun _ => ?_) (fun _ => ?_)
                      · refine F.bind (x217_fr  _ _ Frm.refl) (fun q23 hq23 => ?_)
                        exact F.some (Frm.trans (Frm.u2 h0 rfl) hq23 rfl)
                      · exact F.none
                    · refine F.ite (fun _ => ?_) (fun _ => ?_)
                      · exact F.some (Frm.u2 h0 rfl)
                      · refine F.ite (fun _ => ?_) (fun _ => ?_)
                        · refine F.bind (S := fun q => True) ?_ (fun q30 hq30 => ?_)
                          · refine F.ite (fun _ => ?_) (fun _ => ?_)
                            · refine F.bindr (fun q24 => ?_)
                              exact F.some trivial
                            · refine F.ite (fun _ => ?_) (fun _ => ?_)
                              · refine F.bindr (fun q25 => ?_)
                                exact F.some trivial
                              · refine F.ite (fun _ => ?_) (fun _ => ?_)
                                · refine F.bindr (fun q26 => ?_)
                                  exact F.some trivial
                                · refine F.ite (fun _ => ?_) (fun _ => ?_)
                                  · refine F.bindr (fun q27 => ?_)
                                    exact F.some trivial
                                  · refine F.bind (S := fun q => True) ?_ (fun q28 hq28 => ?_)
                                    · refine F.ite (fun _ => ?_) (fun _ => ?_)
                                      · exact F.some trivial
                                      · exact F.some trivial
                                    refine F.bindr (fun q29 => ?_)
                                    exact F.some trivial
                          refine F.ite (fun _ => ?_) (fun _ => ?_)
                          · refine F.ite (fun _ => ?_) (fun _ => ?_)
                            · refine F.ite (fun _ => ?_) (fun _ => ?_)
                              · refine F.bind (x217_fr  _ _ Frm.refl) (fun q31 hq31 => ?_)
                                exact F.some (Frm.trans (Frm.u2 (Frm.u2 h0 rfl) rfl) hq31 rfl)
                              · exact F.none
                            · exact F.some (Frm.u2 (Frm.u2 h0 rfl) rfl)
                          · exact F.none
                        · exact F.none
                  · exact F.none
                · exact F.none
              · exact F.some h0
        · refine F.ite (fun _ => ?_) (fun _ => ?_)
          · refine F.bindr (fun q32 => ?_)
            refine F.ite (fun _ => ?_) (fun _ => ?_)
            · refine F.ite (fun _ => ?_) (fun _ => ?_)
              · refine F.ite (fun _ => ?_) (fun _ => ?_)
                · refine F.bind (x217_fr  _ _ Frm.refl) (fun q33 hq33 => ?_)
                  exact F.some (Frm.trans (Frm.u2 h0 rfl) hq33 rfl)
                · exact F.none
              · refine F.ite (fun _ => ?_) (fun _ => ?_)
                · exact F.some (Frm.u2 h0 rfl)
                · refine F.ite (fun _ => ?_) (fun _ => ?_)
                  · refine F.bind (S := fun q => True) ?_ (fun q40 hq40 => ?_)
                    · refine F.ite (fun _ => ?_) (fun _ => ?_)
                      · refine F.bindr (fun q34 => ?_)
                        exact F.some trivial
                      · refine F.ite (fun _ => ?_) (fun _ => ?_)
                        · refine F.bindr (fun q35 => ?_)
                          exact F.some trivial
                        · refine F.ite (fun _ => ?_) (fun _ => ?_)
                          · refine F.bindr (fun q36 => ?_)
                            exact F.some trivial
                          · refine F.ite (fun _ => ?_) (fun _ => ?_)
                            · refine F.bindr (fun q37 => ?_)
                              exact F.some trivial
                            · refine F.bind (S := fun q => True) ?_ (fun q38 hq38 => ?_)
                              · refine F.ite (fun _ => ?_) (fun _ => ?_)
                                · exact F.some trivial
                                · exact F.some trivial
                              refine F.bindr (fun q39 => ?_)
                              exact F.some trivial
                    refine F.ite (fun _ => ?_) (fun _ => ?_)
                    · refine F.ite (fun _ => ?_) (fun _ => ?_)
                      · refine F.ite (fun _ => ?_) (fun _ => ?_)
                        · refine F.bind (x217_fr  _ _ Frm.refl) (fun q41 hq41 => ?_)
                          exact F.some (Frm.trans (Frm.u2 (Frm.u2 h0 rfl) rfl) hq41 rfl)
                        · exact F.none
                      · exact F.some (Frm.u2 (Frm.u2 h0 rfl) rfl)
                    · exact F.none
                  · exact F.none
            · exact F.none
          · exact F.none
      · refine F.ite (fun _ => ?_) (fun _ => ?_)
        · refine F.bind (S := fun q => True) ?_ (fun q42 hq42 => ?_)
          · refine F.ite (fun _ => ?_) (fun _ => ?_)
            · refine F.ite (fun _ => ?_) (fun _ => ?_)
              · exact F.some trivial
              · refine F.ite (fun _ => ?_) (fun _ => ?_)
                · exact F.some trivial
                · exact F.some trivial
            · refine F.ite (fun _ => ?_) (fun _ => ?_)
              · exact F.some trivial
              · refine F.ite (fun _ => ?_) (fun _ => ?_)
                · exact F.some trivial
                · refine F.ite (fun _ => ?_) (fun _ => ?_)
                  · exact F.some trivial
                  · exact F.some trivial
          refine F.ite (fun _ => ?_) (fun _ => ?_)
          · refine F.ite (fun _ => ?_) (fun _ => ?_)
            · refine F.ite (fun _ => ?_) (fun _ => ?_)
              · refine F.bindr (fun q43 => ?_)
                refine F.ite (fun _ => ?_) (fun _ => ?_)
                · refine F.ite (fun _ => ?_) (fun _ => ?_)
                  · refine F.ite (fun _ => ?_) (fun _ => ?_)
                    · refine F.bind (x217_fr  _ _ Frm.refl) (fun q44 hq44 => ?_)
                      exact F.some (Frm.trans (Frm.u2 h0 rfl) hq44 rfl)
                    · exact F.none
                  · refine F.ite (fun _ => ?_) (fun _ => ?_)
                    · exact F.some (Frm.u2 h0 rfl)
                    · refine F.ite (fun _ => ?_) (fun _ => ?_)
                      · refine F.bind (S := fun q => True) ?_ (fun q51 hq51 => ?_)
                        · refine F.ite (fun _ => ?_) (fun _ => ?_)
                          · refine F.bindr (fun q45 => ?_)
                            exact F.some trivial
                          · refine F.ite (fun _ => ?_) (fun _ => ?_)
                            · refine F.bindr (fun q46 => ?_)
                              exact F.some trivial
                            · refine F.ite (fun _ => ?_) (fun _ => ?_)
                              · refine F.bindr (fun q47 => ?_)
                                exact F.some trivial
                              · refine F.ite (fun _ => ?_) (fun _ => ?_)
                                · refine F.bindr (fun q48 => ?_)
                                  exact F.some trivial
                                · refine F.bind (S := fun q => True) ?_ (fun q49 hq49 => ?_)
                                  · refine F.ite (fun _ => ?_) (fun _ => ?_)
                                    · exact F.some trivial
                                    · exact F.some trivial
                                  refine F.bindr (fun q50 => ?_)
                                  exact F.some trivial
                        refine F.ite (fun _ => ?_) (fun _ => ?_)
                        · refine F.ite (fun _ => ?_) (fun _ => ?_)
                          · refine F.ite (fun _ => ?_) (fun _ => ?_)
                            · refine F.bind (x217_fr  _ _ Frm.refl) (fun q52 hq52 => ?_)
                              exact F.some (Frm.trans (Frm.u2 (Frm.u2 h0 rfl) rfl) hq52 rfl)
                            · exact F.none
                          · exact F.some (Frm.u2 (Frm.u2 h0 rfl) rfl)
                        · exact F.none
                      · exact F.none
                · exact F.none
              · exact F.none
            · refine F.ite (fun _ => ?_) (fun _ => ?_)
              · refine F.ite (fun _ => ?_) (fun _ => ?_)
                · refine F.bindr (fun q53 => ?_)
                  refine F.ite (fun _ => ?_) (fun _ => ?_)
                  · refine F.ite (fun _ => ?_) (fun _ => ?_)
                    · refine F.ite (fun _ => ?_) (fun _ => ?_)
                      · refine F.bind (x217_fr  _ _ Frm.refl) (fun q54 hq54 => ?_)
                        exact F.some (Frm.trans (Frm.u2 h0 rfl) hq54 rfl)
                      · exact F.none
                    · refine F.ite (fun _ => ?_) (fun _ => ?_)
                      · exact F.some (Frm.u2 h0 rfl)
                      · refine F.ite (fun _ => ?_) (fun _ => ?_)
                        · refine F.bind (S := fun q => True) ?_ (fun q61 hq61 => ?_)
                          · refine F.ite (fun _ => ?_) (fun _ => ?_)
                            · refine F.bindr (fun q55 => ?_)
                              exact F.some trivial
                            · refine F.ite (fun _ => ?_) (fun _ => ?_)
                              · refine F.bindr (fun q56 => ?_)
                                exact F.some trivial
                              · refine F.ite (fun _ => ?_) (fun _ => ?_)
                                · refine F.bindr (fun q57 => ?_)
                                  exact F.some trivial
                                · refine F.ite (fun _ => ?_) (fun _ => ?_)
                                  · refine F.bindr (fun q58 => ?_)
                                    exact F.some trivial
                                  · refine F.bind (S := fun q => True) ?_ (fun q59 hq59 => ?_)
                                    · refine F.ite (fun _ => ?_) (fun _ => ?_)
                                      · exact F.some trivial
                                      · exact F.some trivial
                                    refine F.bindr (fun q60 => ?_)
                                    exact F.some trivial
                          refine F.ite (fun _ => ?_) (fun _ => ?_)
                          · refine F.ite (fun _ => ?_) (fun _ => ?_)
                            · refine F.ite (fun _ => ?_) (fun _ => ?_)
                              · refine F.bind (x217_fr  _ _ Frm.refl) (fun q62 hq62 => ?_)
                                exact F.some (Frm.trans (Frm.u2 (Frm.u2 h0 rfl) rfl) hq62 rfl)
                              · exact F.none
                            · exact F.some (Frm.u2 (Frm.u2 h0 rfl) rfl)
                          · exact F.none
                        · exact F.none
                  · exact F.none
                · exact F.none
              · refine F.ite (fun _ => ?_) (fun _ => ?_)
                · refine F.ite (fun _ => ?_) (fun _ => ?_)
                  · refine F.bindr (fun q63 => ?_)
                    refine F.ite (fun _ => ?_) (fun _ => ?_)
                    · refine F.ite (fun _ => ?_) (fun _ => ?_)
                      · refine F.ite (fun _ => ?_) (fun _ => ?_)
                        · refine F.bind (x217_fr  _ _ Frm.refl) (fun q64 hq64 => ?_)
                          exact F.some (Frm.trans (Frm.u2 h0 rfl) hq64 rfl)
                        · exact F.none
                      · refine F.ite (fun _ => ?_) (fun _ => ?_)
                        · exact F.some (Frm.u2 h0 rfl)
                        · refine F.ite (fun _ => ?_) (fun _ => ?_)
                          · refine F.bind (S := fun q => True) ?_ (fun q71 hq71 => ?_)
                            · refine F.ite (fun _ => ?_) (fun _ => ?_)
                              · refine F.bindr (fun q65 => ?_)
                                exact F.some trivial
                              · refine F.ite (fun _ => ?_) (fun _ => ?_)
                                · refine F.bindr (fun q66 => ?_)
                                  exact F.some trivial
                                · refine F.ite (fun _ => ?_) (fun _ => ?_)
                                  · refine F.bindr (fun q67 => ?_)
                                    exact F.some trivial
                                  · refine F.ite (fun _ => ?_) (fun _ => ?_)
                                    · refine F.bindr (fun q68 => ?_)
                                      exact F.some trivial
                                    · refine F.bind (S := fun q => True) ?_ (fun q69 hq69 => ?_)
                                      · refine F.ite (fun _ => ?_) (fun _ => ?_)
                                        · exact F.some trivial
                                        · exact F.some trivial
                                      refine F.bindr (fun q70 => ?_)
                                      exact F.some trivial
                            refine F.ite (fun _ => ?_) (fun _ => ?_)
                            · refine F.ite (fun _ => ?_) (fun _ => ?_)
                              · refine F.ite (fun _ => ?_) (fun _ => ?_)
                                · refine F.bind (x217_fr  _ _ Frm.refl) (fun q72 hq72 => ?_)
                                  exact F.some (Frm.trans (Frm.u2 (Frm.u2 h0 rfl) rfl) hq72 rfl)
                                · exact F.none
                              · exact F.some (Frm.u2 (Frm.u2 h0 rfl) rfl)
                            · exact F.none
                          · exact F.none
                    · exact F.none
                  · exact F.none
                · exact F.some h0
          · refine F.ite (fun _ => ?_) (fun _ => ?_)
            · refine F.bindr (fun q73 => ?_)
              refine F.ite (fun _ => ?_) (fun _ => ?_)
              · refine F.ite (fun _ => ?_) (fun _ => ?_)
                · refine F.ite (fun _ => ?_) (fun _ => ?_)
                  · refine F.bind (x217_fr  _ _ Frm.refl) (fun q74 hq74 => ?_)
                    exact F.some (Frm.trans (Frm.u2 h0 rfl) hq74 rfl)
                  · exact F.none
                · refine F.ite (fun _ => ?_) (fun _ => ?_)
                  · exact F.some (Frm.u2 h0 rfl)
                  · refine F.ite (fun _ => ?_) (fun _ => ?_)
                    · refine F.bind (S := fun q => True) ?_ (fun q81 hq81 => ?_)
                      · refine F.ite (fun _ => ?_) (fun _ => ?_)
                        · refine F.bindr (fun q75 => ?_)
                          exact F.some trivial
                        · refine F.ite (fun _ => ?_) (fun _ => ?_)
                          · refine F.bindr (fun q76 => ?_)
                            exact F.some trivial
                          · refine F.ite (fun _ => ?_) (fun _ => ?_)
                            · refine F.bindr (fun q77 => ?_)
                              exact F.some trivial
                            · refine F.ite (fun _ => ?_) (fun _ => ?_)
                              · refine F.bindr (fun q78 => ?_)
                                exact F.some trivial
                              · refine F.bind (S := fun q => True) ?_ (fun q79 hq79 => ?_)
                                · refine F.ite (fun _ => ?_) (fun _ => ?_)
                                  · exact F.some trivial
                                  · exact F.some trivial
                                refine F.bindr (fun q80 => ?_)
                                exact F.some trivial
                      refine F.ite (fun _ => ?_) (fun _ => ?_)
                      · refine F.ite (fun _ => ?_) (fun _ => ?_)
                        · refine F.ite (fun _ => ?_) (fun _ => ?_)
                          · refine F.bind (x217_fr  _ _ Frm.refl) (fun q82 hq82 => ?_)
                            exact F.some (Frm.trans (Frm.u2 (Frm.u2 h0 rfl) rfl) hq82 rfl)
                          · exact F.none
                        · exact F.some (Frm.u2 (Frm.u2 h0 rfl) rfl)
                      · exact F.none
                    · exact F.none
              · exact F.none
            · exact F.none
        · refine F.ite (fun _ => ?_) (fun _ => ?_)
          · refine F.bindr (fun q83 => ?_)
            refine F.ite (fun _ => ?_) (fun _ => ?_)
            · refine F.ite (fun _ => ?_) (fun _ => ?_)
              · refine F.ite (fun _ => ?_) (fun _ => ?_)
                · refine F.ite (fun _ => ?_) (fun _ => ?_)
                  · refine F.bind (x217_fr  _ _ Frm.refl) (fun q84 hq84 => ?_)
                    exact F.some (Frm.trans (Frm.u2 h0 rfl) hq84 rfl)
                  · exact F.none
                · exact F.some (Frm.u2 h0 rfl)
              · exact F.none
            · exact F.none
          · exact F.none
    · exact F.none
theorem l227_116_fr {Z : Nat} {b1 : Int32} {b2 : Int32} {b3 : Int32} {I0 : St} (hZ : Z = 85 ∨ Z = 126) : ∀ (n : Nat) (b4 : Int32) (b5 : Int32) (I : St), Frm [(179, none), (82, some 5), (82, some 22), (178, none), (177, none), (175, none), (176, none), ((Z + 24), none)] I0 I → Fq (l227_116 Z b1 b2 b3 n b4 b5 I) (fun q => Frm [(179, none), (82, some 5), (82, some 22), (178, none), (177, none), (175, none), (176, none), ((Z + 24), none)] I0 q.2) := by
  rcases hZ with rfl | rfl
  all_goals
    intro n
    induction n with
    | zero => intro b4 b5 I h0; exact F.none
    | succ n ih =>
      intro b4 b5 I h0
      rw [l227_116]
      refine F.ite (fun _ => ?_) (fun _ => ?_)
      · exact F.some h0
      · refine F.ite (fun _ => ?_) (fun _ => ?_)
        · refine F.bind (S := fun q => True) ?_ (fun q3 hq3 => ?_)
          · refine F.ite (fun _ => ?_) (fun _ => ?_)
            · exact F.some trivial
            · refine F.ite (fun _ => ?_) (fun _ => ?_)
              · exact F.some trivial
              · exact F.none
          refine F.ite (fun _ => ?_) (fun _ => ?_)
          · refine F.ite (fun _ => ?_) (fun _ => ?_)
            · refine F.ite (fun _ => ?_) (fun _ => ?_)
              · refine F.ite (fun _ => ?_) (fun _ => ?_)
                · refine F.ite (fun _ => ?_) (fun _ => ?_)
                  · exact ih _ _ _ (Frm.u2 h0 rfl)
                  · exact ih _ _ _ (Frm.u2 h0 rfl)
                · exact F.none
              · exact ih _ _ _ (Frm.u2 h0 rfl)
            · exact F.none
          · exact F.none
        · exact F.none
theorem x227_fr {Z : Nat} {a1 : Int32} {a2 : Int32} {a3 : Int32} (hZ : Z = 85 ∨ Z = 126) (I0 I : St) (h0 : Frm [(179, none), (82, some 5), (82, some 22), (178, none), (177, none), (175, none), (176, none), ((Z + 24), none)] I0 I) : Fq (x227 Z I a1 a2 a3) (fun q => Frm [(179, none), (82, some 5), (82, some 22), (178, none), (177, none), (175, none), (176, none), ((Z + 24), none)] I0 q) := by
  rcases hZ with rfl | rfl
  all_goals
    unfold x227
    refine F.ite (fun _ => ?_) (fun _ => ?_)
    · refine F.ite (fun _ => ?_) (fun _ => ?_)
      · refine F.ite (fun _ => ?_) (fun _ => ?_)
        · refine F.ite (fun _ => ?_) (fun _ => ?_)
          · refine F.bind (x228_fr  _ _ Frm.refl) (fun q1 hq1 => ?_)
            exact F.some (Frm.trans h0 hq1 rfl)
          · exact F.none
        · refine F.ite (fun _ => ?_) (fun _ => ?_)
          · refine F.ite (fun _ => ?_) (fun _ => ?_)
            · refine F.ite (fun _ => ?_) (fun _ => ?_)
              · refine F.bind (S := fun q => True) ?_ (fun q2 hq2 => ?_)
                · refine F.ite (fun _ => ?_) (fun _ => ?_)
                  · exact F.some trivial
                  · exact F.some trivial
                refine F.bind (l227_116_fr (by decide) _ _ _ _ h0) (fun q4 hq4 => ?_)
                refine F.ite (fun _ => ?_) (fun _ => ?_)
                · refine F.ite (fun _ => ?_) (fun _ => ?_)
                  · refine F.ite (fun _ => ?_) (fun _ => ?_)
                    · refine F.letS (Frm.u2 (Frm.u2 (Frm.u2 hq4 rfl) rfl) rfl) (fun J7 hJ7 => ?_)
                      refine F.ite (fun _ => ?_) (fun _ => ?_)
                      · refine F.bind (S := fun q => True) ?_ (fun q8 hq8 => ?_)
                        · refine F.ite (fun _ => ?_) (fun _ => ?_)
                          · refine F.ite (fun _ => ?_) (fun _ => ?_)
                            · exact F.some trivial
                            · exact F.some trivial
                          · exact F.some trivial
                        refine F.ite (fun _ => ?_) (fun _ => ?_)
                        · refine F.ite (fun _ => ?_) (fun _ => ?_)
                          · refine F.ite (fun _ => ?_) (fun _ => ?_)
                            · exact F.some (Frm.u2 hJ7 rfl)
                            · refine F.ite (fun _ => ?_) (fun _ => ?_)
                              · refine F.letS (Frm.u2 (Frm.u2 hJ7 rfl) rfl) (fun J9 hJ9 => ?_)
                                exact F.some hJ9
                              · exact F.none
                          · exact F.none
                        · exact F.none
                      · exact F.none
                    · exact F.none
                  · exact F.none
                · exact F.none
              · exact F.none
            · refine F.ite (fun _ => ?_) (fun _ => ?_)
              · refine F.ite (fun _ => ?_) (fun _ => ?_)
                · refine F.ite (fun _ => ?_) (fun _ => ?_)
                  · refine F.ite (fun _ => ?_) (fun _ => ?_)
                    · refine F.ite (fun _ => ?_) (fun _ => ?_)
                      · refine F.bind (S := fun q => True) ?_ (fun q10 hq10 => ?_)
                        · refine F.ite (fun _ => ?_) (fun _ => ?_)
                          · exact F.some trivial
                          · exact F.some trivial
                        refine F.bind (l227_116_fr (by decide) _ _ _ _ h0) (fun q11 hq11 => ?_)
                        refine F.ite (fun _ => ?_) (fun _ => ?_)
                        · refine F.ite (fun _ => ?_) (fun _ => ?_)
                          · refine F.ite (fun _ => ?_) (fun _ => ?_)
                            · refine F.letS (Frm.u2 (Frm.u2 (Frm.u2 hq11 rfl) rfl) rfl) (fun J14 hJ14 => ?_)
                              refine F.ite (fun _ => ?_) (fun _ => ?_)
                              · refine F.bind (S := fun q => True) ?_ (fun q15 hq15 => ?_)
                                · refine F.ite (fun _ => ?_) (fun _ => ?_)
                                  · refine F.ite (fun _ => ?_) (fun _ => ?_)
                                    · exact F.some trivial
                                    · exact F.some trivial
                                  · exact F.some trivial
                                refine F.ite (fun _ => ?_) (fun _ => ?_)
                                · refine F.ite (fun _ => ?_) (fun _ => ?_)
                                  · refine F.ite (fun _ => ?_) (fun _ => ?_)
                                    · exact F.some (Frm.u2 hJ14 rfl)
                                    · refine F.ite (fun _ => ?_) (fun _ => ?_)
                                      · refine F.letS (Frm.u2 (Frm.u2 hJ14 rfl) rfl) (fun J16 hJ16 => ?_)
                                        exact F.some hJ16
                                      · exact F.none
                                  · exact F.none
                                · exact F.none
                              · exact F.none
                            · exact F.none
                          · exact F.none
                        · exact F.none
                      · exact F.none
                    · refine F.ite (fun _ => ?_) (fun _ => ?_)
                      · refine F.ite (fun _ => ?_) (fun _ => ?_)
                        · refine F.bind (x228_fr  _ _ Frm.refl) (fun q17 hq17 => ?_)
                          exact F.some (Frm.trans h0 hq17 rfl)
                        · exact F.none
                      · exact F.none
                  · exact F.none
                · refine F.ite (fun _ => ?_) (fun _ => ?_)
                  · refine F.ite (fun _ => ?_) (fun _ => ?_)
                    · refine F.bind (x228_fr  _ _ Frm.refl) (fun q18 hq18 => ?_)
                      exact F.some (Frm.trans h0 hq18 rfl)
                    · exact F.none
                  · exact F.none
              · exact F.none
          · exact F.none
      · exact F.none
    · exact F.some h0
theorem l234_248_fr {Z : Nat} {b2 : Int32} {b3 : Int32} {I0 : St} (hZ : Z = 85 ∨ Z = 126) : ∀ (n : Nat) (b4 : Int32) (I : St), Frm [(82, some 31), (82, some 30), (82, some 29)] I0 I → Fq (l234_248 Z b2 b3 n b4 I) (fun q => Frm [(82, some 31), (82, some 30), (82, some 29)] I0 q) := by
  rcases hZ with rfl | rfl
  all_goals
    intro n
    induction n with
    | zero => intro b4 I h0; exact F.none
    | succ n ih =>
      intro b4 I h0
      rw [l234_248]
      refine F.ite (fun _ => ?_) (fun _ => ?_)
      · exact F.some h0
      · refine F.ite (fun _ => ?_) (fun _ => ?_)
        · refine F.bind (S := fun q => True) ?_ (fun q16 hq16 => ?_)
          · refine F.ite (fun _ => ?_) (fun _ => ?_)
            · exact F.some trivial
            · exact F.some trivial
          refine F.bind (x231_fr  _ _ Frm.refl) (fun q17 hq17 => ?_)
          exact ih _ _ (Frm.trans h0 hq17 rfl)
        · exact F.none
theorem x234_fr {Z : Nat} {a1 : Int32} {a2 : Int32} (hZ : Z = 85 ∨ Z = 126) (I0 I : St) (h0 : Frm [(82, some 31), (82, some 30), (82, some 29)] I0 I) : Fq (x234 Z I a1 a2) (fun q => Frm [(82, some 31), (82, some 30), (82, some 29)] I0 q) := by
  rcases hZ with rfl | rfl
  all_goals
    unfold x234
    refine F.ite (fun _ => ?_) (fun _ => ?_)
    · refine F.ite (fun _ => ?_) (fun _ => ?_)
      · refine F.ite (fun _ => ?_) (fun _ => ?_)
        · refine F.bind (x235_fr  _ _ Frm.refl) (fun q1 hq1 => ?_)
          exact F.some (Frm.trans h0 hq1 rfl)
        · exact F.none
      · refine F.ite (fun _ => ?_) (fun _ => ?_)
        · refine F.ite (fun _ => ?_) (fun _ => ?_)
          · refine F.bind (x236_fr  _ _ Frm.refl) (fun q2 hq2 => ?_)
            exact F.some (Frm.trans h0 hq2 rfl)
          · exact F.none
        · refine F.ite (fun _ => ?_) (fun _ => ?_)
          · refine F.ite (fun _ => ?_) (fun _ => ?_)
            · refine F.bind (x232_fr  _ _ Frm.refl) (fun q3 hq3 => ?_)
              exact F.some (Frm.trans h0 hq3 rfl)
            · exact F.none
          · refine F.ite (fun _ => ?_) (fun _ => ?_)
            · refine F.ite (fun _ => ?_) (fun _ => ?_)
              · refine F.bind (x231_fr  _ _ Frm.refl) (fun q4 hq4 => ?_)
                exact F.some (Frm.trans h0 hq4 rfl)
              · exact F.none
            · refine F.ite (fun _ => ?_) (fun _ => ?_)
              · refine F.bind (x235_fr  _ _ Frm.refl) (fun q5 hq5 => ?_)
                exact F.some (Frm.trans h0 hq5 rfl)
              · refine F.ite (fun _ => ?_) (fun _ => ?_)
                · refine F.bind (x235_fr  _ _ Frm.refl) (fun q6 hq6 => ?_)
                  exact F.some (Frm.trans h0 hq6 rfl)
                · refine F.ite (fun _ => ?_) (fun _ => ?_)
                  · refine F.bind (x236_fr  _ _ Frm.refl) (fun q7 hq7 => ?_)
                    exact F.some (Frm.trans h0 hq7 rfl)
                  · refine F.ite (fun _ => ?_) (fun _ => ?_)
                    · refine F.bind (S := fun q => True) ?_ (fun q8 hq8 => ?_)
                      · refine F.ite (fun _ => ?_) (fun _ => ?_)
                        · exact F.some trivial
                        · exact F.some trivial
                      refine F.bind (x231_fr  _ _ Frm.refl) (fun q9 hq9 => ?_)
                      refine F.bind (x236_fr  _ _ Frm.refl) (fun q10 hq10 => ?_)
                      exact F.some (Frm.trans (Frm.trans h0 hq9 rfl) hq10 rfl)
                    · refine F.ite (fun _ => ?_) (fun _ => ?_)
                      · refine F.bind (x236_fr  _ _ Frm.refl) (fun q11 hq11 => ?_)
                        exact F.some (Frm.trans h0 hq11 rfl)
                      · refine F.ite (fun _ => ?_) (fun _ => ?_)
                        · refine F.bind (S := fun q => True) ?_ (fun q12 hq12 => ?_)
                          · refine F.ite (fun _ => ?_) (fun _ => ?_)
                            · exact F.some trivial
                            · exact F.some trivial
                          refine F.bind (x231_fr  _ _ Frm.refl) (fun q13 hq13 => ?_)
                          refine F.bind (x236_fr  _ _ Frm.refl) (fun q14 hq14 => ?_)
                          exact F.some (Frm.trans (Frm.trans h0 hq13 rfl) hq14 rfl)
                        · refine F.ite (fun _ => ?_) (fun _ => ?_)
                          · refine F.bind (x235_fr  _ _ Frm.refl) (fun q15 hq15 => ?_)
                            exact F.some (Frm.trans h0 hq15 rfl)
                          · refine F.ite (fun _ => ?_) (fun _ => ?_)
                            · refine F.ite (fun _ => ?_) (fun _ => ?_)
                              · refine F.bind (l234_248_fr (by decide) _ _ _ h0) (fun q18 hq18 => ?_)
                                refine F.bind (S := fun q => Frm [(82, some 31), (82, some 30), (82, some 29)] I0 q.2) ?_ (fun q23 hq23 => ?_)
                                · refine F.ite (fun _ => ?_) (fun _ => ?_)
                                  · refine F.bind (x231_fr  _ _ Frm.refl) (fun q22 hq22 => ?_)
                                    exact F.some (Frm.trans hq18 hq22 rfl)
                                  · exact F.some hq18
                                refine F.ite (fun _ => ?_) (fun _ => ?_)
                                · refine F.ite (fun _ => ?_) (fun _ => ?_)
                                  · exact F.some hq23
                                  · refine F.ite (fun _ => ?_) (fun _ => ?_)
                                    · refine F.bind (x232_fr  _ _ Frm.refl) (fun q24 hq24 => ?_)
                                      exact F.some (Frm.trans hq23 hq24 rfl)
                                    · exact F.none
                                · exact F.none
                              · exact F.none
                            · refine F.ite (fun _ => ?_) (fun _ => ?_)
                              · refine F.ite (fun _ => ?_) (fun _ => ?_)
                                · refine F.bind (l234_248_fr (by decide) _ _ _ h0) (fun q25 hq25 => ?_)
                                  refine F.bind (S := fun q => Frm [(82, some 31), (82, some 30), (82, some 29)] I0 q.2) ?_ (fun q30 hq30 => ?_)
                                  · refine F.ite (fun _ => ?_) (fun _ => ?_)
                                    · refine F.bind (x231_fr  _ _ Frm.refl) (fun q29 hq29 => ?_)
                                      exact F.some (Frm.trans hq25 hq29 rfl)
                                    · exact F.some hq25
                                  refine F.ite (fun _ => ?_) (fun _ => ?_)
                                  · refine F.ite (fun _ => ?_) (fun _ => ?_)
                                    · exact F.some hq30
                                    · refine F.ite (fun _ => ?_) (fun _ => ?_)
                                      · refine F.bind (x232_fr  _ _ Frm.refl) (fun q31 hq31 => ?_)
                                        exact F.some (Frm.trans hq30 hq31 rfl)
                                      · exact F.none
                                  · exact F.none
                                · exact F.none
                              · refine F.ite (fun _ => ?_) (fun _ => ?_)
                                · refine F.ite (fun _ => ?_) (fun _ => ?_)
                                  · refine F.ite (fun _ => ?_) (fun _ => ?_)
                                    · exact F.some h0
                                    · refine F.ite (fun _ => ?_) (fun _ => ?_)
                                      · refine F.bind (x231_fr  _ _ Frm.refl) (fun q32 hq32 => ?_)
                                        exact F.some (Frm.trans h0 hq32 rfl)
                                      · exact F.none
                                  · exact F.none
                                · refine F.ite (fun _ => ?_) (fun _ => ?_)
                                  · exact F.some h0
                                  · refine F.ite (fun _ => ?_) (fun _ => ?_)
                                    · refine F.bind (x235_fr  _ _ Frm.refl) (fun q33 hq33 => ?_)
                                      exact F.some (Frm.trans h0 hq33 rfl)
                                    · refine F.ite (fun _ => ?_) (fun _ => ?_)
                                      · refine F.bind (x235_fr  _ _ Frm.refl) (fun q34 hq34 => ?_)
                                        exact F.some (Frm.trans h0 hq34 rfl)
                                      · exact F.some h0
    · exact F.none
theorem l245_9_fr {Q : Nat} {b1 : Int32} {b2 : Int32} {I0 : St} (hQ : Q = 85 ∨ Q = 126) : ∀ (n : Nat) (b4 : Int32) (I : St), Frm [(82, some 65), (82, some 64), (199, none), (198, none), (82, some 63), (82, some 55), (82, some 36), (82, some 35), (82, some 34)] I0 I → Fq (l245_9 Q b1 b2 n b4 I) (fun q => Sum.elim (fun a => True) (fun b => Frm [(82, some 65), (82, some 64), (199, none), (198, none), (82, some 63), (82, some 55), (82, some 36), (82, some 35), (82, some 34)] I0 b) q) := by
  rcases hQ with rfl | rfl
  all_goals
    intro n
    induction n with
    | zero => intro b4 I h0; exact F.none
    | succ n ih =>
      intro b4 I h0
      rw [l245_9]
      refine F.ite (fun _ => ?_) (fun _ => ?_)
      · exact F.some trivial
      · refine F.ite (fun _ => ?_) (fun _ => ?_)
        · refine F.ite (fun _ => ?_) (fun _ => ?_)
          · refine F.ite (fun _ => ?_) (fun _ => ?_)
            · refine F.ite (fun _ => ?_) (fun _ => ?_)
              · exact ih _ _ h0
              · refine F.ite (fun _ => ?_) (fun _ => ?_)
                · refine F.ite (fun _ => ?_) (fun _ => ?_)
                  · exact ih _ _ h0
                  · refine F.ite (fun _ => ?_) (fun _ => ?_)
                    · refine F.bindr (fun q1 => ?_)
                      refine F.ite (fun _ => ?_) (fun _ => ?_)
                      · exact ih _ _ h0
                      · refine F.ite (fun _ => ?_) (fun _ => ?_)
                        · refine F.bind (x239_fr  _ _ Frm.refl) (fun q2 hq2 => ?_)
                          exact F.some (Frm.trans (Frm.u2 (Frm.u2 h0 rfl) rfl) hq2 rfl)
                        · exact F.none
                    · exact F.none
                · exact F.none
            · exact F.none
          · exact ih _ _ h0
        · exact F.none
theorem l245_2_fr {Q : Nat} {b1 : Int32} {b2 : Int32} {I0 : St} (hQ : Q = 85 ∨ Q = 126) : ∀ (n : Nat) (b3 : Int32) (I : St), Frm [(82, some 65), (82, some 64), (199, none), (198, none), (82, some 63), (82, some 55), (82, some 36), (82, some 35), (82, some 34)] I0 I → Fq (l245_2 Q b1 b2 n b3 I) (fun q => Sum.elim (fun a => Frm [(82, some 65), (82, some 64), (199, none), (198, none), (82, some 63), (82, some 55), (82, some 36), (82, some 35), (82, some 34)] I0 a) (fun b => Frm [(82, some 65), (82, some 64), (199, none), (198, none), (82, some 63), (82, some 55), (82, some 36), (82, some 35), (82, some 34)] I0 b) q) := by
  rcases hQ with rfl | rfl
  all_goals
    intro n
    induction n with
    | zero => intro b3 I h0; exact F.none
    | succ n ih =>
      intro b3 I h0
      rw [l245_2]
      refine F.ite (fun _ => ?_) (fun _ => ?_)
      · exact F.some h0
      · refine F.bindE (l245_9_fr (by decide) _ _ _ h0) (fun q3 hq3 => ?_) (fun r hr => ?_)
        · refine F.bind (S := fun q => True) ?_ (fun q6 hq6 => ?_)
          · refine F.ite (fun _ => ?_) (fun _ => ?_)
            · exact F.some trivial
            · exact F.some trivial
          refine F.ite (fun _ => ?_) (fun _ => ?_)
          · exact ih _ _ h0
          · refine F.bind (x247_fr  _ _ Frm.refl) (fun q7 hq7 => ?_)
            exact ih _ _ (Frm.trans h0 hq7 rfl)
        · exact F.some hr
theorem x245_fr {Q : Nat} {a1 : Int32} {a2 : Int32} (hQ : Q = 85 ∨ Q = 126) (I0 I : St) (h0 : Frm [(82, some 65), (82, some 64), (199, none), (198, none), (82, some 63), (82, some 55), (82, some 36), (82, some 35), (82, some 34)] I0 I) : Fq (x245 Q I a1 a2) (fun q => Frm [(82, some 65), (82, some 64), (199, none), (198, none), (82, some 63), (82, some 55), (82, some 36), (82, some 35), (82, some 34)] I0 q) := by
  rcases hQ with rfl | rfl
  all_goals
    unfold x245
    refine F.bindE (l245_2_fr (by decide) _ _ _ h0) (fun q8 hq8 => ?_) (fun r hr => ?_)
    · exact F.some (Frm.u2 (Frm.u2 (Frm.u2 hq8 rfl) rfl) rfl)
    · exact F.some hr
theorem x249_fr {Q : Nat} {a1 : Int32} {a2 : Int32} (hQ : Q = 85 ∨ Q = 126) (I0 I : St) (h0 : Frm [(82, some 66), (82, some 65), (82, some 64)] I0 I) : Fq (x249 Q I a1 a2) (fun q => Frm [(82, some 66), (82, some 65), (82, some 64)] I0 q) := by
  rcases hQ with rfl | rfl
  all_goals
    unfold x249
    refine F.bind (S := fun q => Frm [(82, some 66), (82, some 65), (82, some 64)] I0 q.2) ?_ (fun q46 hq46 => ?_)
    · refine F.ite (fun _ => ?_) (fun _ => ?_)
      · refine F.ite (fun _ => ?_) (fun _ => ?_)
        · refine F.ite (fun _ => ?_) (fun _ => ?_)
          · refine F.bind (x240_fr  _ _ Frm.refl) (fun q1 hq1 => ?_)
            refine F.bind (S := fun q => True) ?_ (fun q2 hq2 => ?_)
            · refine F.ite (fun _ => ?_) (fun _ => ?_)
              · exact F.some trivial
              · exact F.some trivial
            refine F.bind (S := fun q => True) ?_ (fun q3 hq3 => ?_)
            · refine F.ite (fun _ => ?_) (fun _ => ?_)
              · exact F.some trivial
              · exact F.some trivial
            refine F.ite (fun _ => ?_) (fun _ => ?_)
            · exact F.some (Frm.trans h0 hq1 rfl)
            · exact F.some (Frm.trans h0 hq1 rfl)
          · refine F.ite (fun _ => ?_) (fun _ => ?_)
            · refine F.bind (x240_fr  _ _ Frm.refl) (fun q4 hq4 => ?_)
              refine F.bind (S := fun q => True) ?_ (fun q5 hq5 => ?_)
              · refine F.ite (fun _ => ?_) (fun _ => ?_)
                · exact F.some trivial
                · exact F.some trivial
              refine F.bind (S := fun q => True) ?_ (fun q6 hq6 => ?_)
              · refine F.ite (fun _ => ?_) (fun _ => ?_)
                · exact F.some trivial
                · exact F.some trivial
              refine F.ite (fun _ => ?_) (fun _ => ?_)
              · exact F.some (Frm.trans h0 hq4 rfl)
              · exact F.some (Frm.trans h0 hq4 rfl)
            · refine F.ite (fun _ => ?_) (fun _ => ?_)
              · exact F.some h0
              · refine F.bind (x240_fr  _ _ Frm.refl) (fun q7 hq7 => ?_)
                refine F.bind (x240_fr  _ _ Frm.refl) (fun q8 hq8 => ?_)
                refine F.bind (S := fun q => True) ?_ (fun q9 hq9 => ?_)
                · refine F.ite (fun _ => ?_) (fun _ => ?_)
                  · exact F.some trivial
                  · exact F.some trivial
                refine F.bind (S := fun q => True) ?_ (fun q10 hq10 => ?_)
                · refine F.ite (fun _ => ?_) (fun _ => ?_)
                  · exact F.some trivial
                  · exact F.some trivial
                refine F.ite (fun _ => ?_) (fun _ => ?_)
                · exact F.some (Frm.trans (Frm.trans h0 hq7 rfl) hq8 rfl)
                · exact F.some (Frm.trans (Frm.trans h0 hq7 rfl) hq8 rfl)
        · refine F.ite (fun _ => ?_) (fun _ => ?_)
          · refine F.ite (fun _ => ?_) (fun _ => ?_)
            · refine F.bind (x240_fr  _ _ Frm.refl) (fun q11 hq11 => ?_)
              refine F.bind (S := fun q => True) ?_ (fun q12 hq12 => ?_)
              · refine F.ite (fun _ => ?_) (fun _ => ?_)
                · exact F.some trivial
                · exact F.some trivial
              refine F.bind (S := fun q => True) ?_ (fun q13 hq13 => ?_)
              · refine F.ite (fun _ => ?_) (fun _ => ?_)
                · exact F.some trivial
                · exact F.some trivial
              refine F.ite (fun _ => ?_) (fun _ => ?_)
              · exact F.some (Frm.trans h0 hq11 rfl)
              · exact F.some (Frm.trans h0 hq11 rfl)
            · refine F.ite (fun _ => ?_) (fun _ => ?_)
              · refine F.bind (x240_fr  _ _ Frm.refl) (fun q14 hq14 => ?_)
                refine F.bind (S := fun q => True) ?_ (fun q15 hq15 => ?_)
                · refine F.ite (fun _ => ?_) (fun _ => ?_)
                  · exact F.some trivial
                  · exact F.some trivial
                refine F.bind (S := fun q => True) ?_ (fun q16 hq16 => ?_)
                · refine F.ite (fun _ => ?_) (fun _ => ?_)
                  · exact F.some trivial
                  · exact F.some trivial
                refine F.ite (fun _ => ?_) (fun _ => ?_)
                · exact F.some (Frm.trans h0 hq14 rfl)
                · exact F.some (Frm.trans h0 hq14 rfl)
              · refine F.ite (fun _ => ?_) (fun _ => ?_)
                · exact F.some h0
                · refine F.bind (x240_fr  _ _ Frm.refl) (fun q17 hq17 => ?_)
                  refine F.bind (x240_fr  _ _ Frm.refl) (fun q18 hq18 => ?_)
                  refine F.bind (S := fun q => True) ?_ (fun q19 hq19 => ?_)
                  · refine F.ite (fun _ => ?_) (fun _ => ?_)
                    · exact F.some trivial
                    · exact F.some trivial
                  refine F.bind (S := fun q => True) ?_ (fun q20 hq20 => ?_)
                  · refine F.ite (fun _ => ?_) (fun _ => ?_)
                    · exact F.some trivial
                    · exact F.some trivial
                  refine F.ite (fun _ => ?_) (fun _ => ?_)
                  · exact F.some (Frm.trans (Frm.trans h0 hq17 rfl) hq18 rfl)
                  · exact F.some (Frm.trans (Frm.trans h0 hq17 rfl) hq18 rfl)
          · refine F.bind (x240_fr  _ _ Frm.refl) (fun q21 hq21 => ?_)
            refine F.bind (x240_fr  _ _ Frm.refl) (fun q22 hq22 => ?_)
            exact F.some (Frm.trans (Frm.trans h0 hq21 rfl) hq22 rfl)
      · refine F.ite (fun _ => ?_) (fun _ => ?_)
        · refine F.ite (fun _ => ?_) (fun _ => ?_)
          · refine F.ite (fun _ => ?_) (fun _ => ?_)
            · refine F.bind (x240_fr  _ _ Frm.refl) (fun q23 hq23 => ?_)
              refine F.bind (S := fun q => True) ?_ (fun q24 hq24 => ?_)
              · refine F.ite (fun _ => ?_) (fun _ => ?_)
                · exact F.some trivial
                · exact F.some trivial
              refine F.bind (S := fun q => True) ?_ (fun q25 hq25 => ?_)
              · refine F.ite (fun _ => ?_) (fun _ => ?_)
                · exact F.some trivial
                · exact F.some trivial
              refine F.ite (fun _ => ?_) (fun _ => ?_)
              · exact F.some (Frm.trans h0 hq23 rfl)
              · exact F.some (Frm.trans h0 hq23 rfl)
            · refine F.ite (fun _ => ?_) (fun _ => ?_)
              · refine F.bind (x240_fr  _ _ Frm.refl) (fun q26 hq26 => ?_)
                refine F.bind (S := fun q => True) ?_ (fun q27 hq27 => ?_)
                · refine F.ite (fun _ => ?_) (fun _ => ?_)
                  · exact F.some trivial
                  · exact F.some trivial
                refine F.bind (S := fun q => True) ?_ (fun q28 hq28 => ?_)
                · refine F.ite (fun _ => ?_) (fun _ => ?_)
                  · exact F.some trivial
                  · exact F.some trivial
                refine F.ite (fun _ => ?_) (fun _ => ?_)
                · exact F.some (Frm.trans h0 hq26 rfl)
                · exact F.some (Frm.trans h0 hq26 rfl)
              · refine F.ite (fun _ => ?_) (fun _ => ?_)
                · exact F.some h0
                · refine F.bind (x240_fr  _ _ Frm.refl) (fun q29 hq29 => ?_)
                  refine F.bind (x240_fr  _ _ Frm.refl) (fun q30 hq30 => ?_)
                  refine F.bind (S := fun q => True) ?_ (fun q31 hq31 => ?_)
                  · refine F.ite (fun _ => ?_) (fun _ => ?_)
                    · exact F.some trivial
                    · exact F.some trivial
                  refine F.bind (S := fun q => True) ?_ (fun q32 hq32 => ?_)
                  · refine F.ite (fun _ => ?_) (fun _ => ?_)
                    · exact F.some trivial
                    · exact F.some trivial
                  refine F.ite (fun _ => ?_) (fun _ => ?_)
                  · exact F.some (Frm.trans (Frm.trans h0 hq29 rfl) hq30 rfl)
                  · exact F.some (Frm.trans (Frm.trans h0 hq29 rfl) hq30 rfl)
          · refine F.ite (fun _ => ?_) (fun _ => ?_)
            · refine F.ite (fun _ => ?_) (fun _ => ?_)
              · refine F.bind (x240_fr  _ _ Frm.refl) (fun q33 hq33 => ?_)
                refine F.bind (S := fun q => True) ?_ (fun q34 hq34 => ?_)
                · refine F.ite (fun _ => ?_) (fun _ => ?_)
                  · exact F.some trivial
                  · exact F.some trivial
                refine F.bind (S := fun q => True) ?_ (fun q35 hq35 => ?_)
                · refine F.ite (fun _ => ?_) (fun _ => ?_)
                  · exact F.some trivial
                  · exact F.some trivial
                refine F.ite (fun _ => ?_) (fun _ => ?_)
                · exact F.some (Frm.trans h0 hq33 rfl)
                · exact F.some (Frm.trans h0 hq33 rfl)
              · refine F.ite (fun _ => ?_) (fun _ => ?_)
                · refine F.bind (x240_fr  _ _ Frm.refl) (fun q36 hq36 => ?_)
                  refine F.bind (S := fun q => True) ?_ (fun q37 hq37 => ?_)
                  · refine F.ite (fun _ => ?_) (fun _ => ?_)
                    · exact F.some trivial
                    · exact F.some trivial
                  refine F.bind (S := fun q => True) ?_ (fun q38 hq38 => ?_)
                  · refine F.ite (fun _ => ?_) (fun _ => ?_)
                    · exact F.some trivial
                    · exact F.some trivial
                  refine F.ite (fun _ => ?_) (fun _ => ?_)
                  · exact F.some (Frm.trans h0 hq36 rfl)
                  · exact F.some (Frm.trans h0 hq36 rfl)
                · refine F.ite (fun _ => ?_) (fun _ => ?_)
                  · exact F.some h0
                  · refine F.bind (x240_fr  _ _ Frm.refl) (fun q39 hq39 => ?_)
                    refine F.bind (x240_fr  _ _ Frm.refl) (fun q40 hq40 => ?_)
                    refine F.bind (S := fun q => True) ?_ (fun q41 hq41 => ?_)
                    · refine F.ite (fun _ => ?_) (fun _ => ?_)
                      · exact F.some trivial
                      · exact F.some trivial
                    refine F.bind (S := fun q => True) ?_ (fun q42 hq42 => ?_)
                    · refine F.ite (fun _ => ?_) (fun _ => ?_)
                      · exact F.some trivial
                      · exact F.some trivial
                    refine F.ite (fun _ => ?_) (fun _ => ?_)
                    · exact F.some (Frm.trans (Frm.trans h0 hq39 rfl) hq40 rfl)
                    · exact F.some (Frm.trans (Frm.trans h0 hq39 rfl) hq40 rfl)
            · refine F.bind (x240_fr  _ _ Frm.refl) (fun q43 hq43 => ?_)
              refine F.bind (x240_fr  _ _ Frm.refl) (fun q44 hq44 => ?_)
              exact F.some (Frm.trans (Frm.trans h0 hq43 rfl) hq44 rfl)
        · refine F.bind (x240_fr  _ _ Frm.refl) (fun q45 hq45 => ?_)
          exact F.some (Frm.trans h0 hq45 rfl)
    refine F.ite (fun _ => ?_) (fun _ => ?_)
    · exact F.some (Frm.u2 hq46 rfl)
    · refine F.ite (fun _ => ?_) (fun _ => ?_)
      · exact F.some (Frm.u2 hq46 rfl)
      · exact F.none
theorem l26_30_fr {I0 : St} : ∀ (n : Nat) (b1 : Int32) (I : St), Frm [(39, some 3), (38, none), (37, some 3), (42, none), (36, some 4), (36, some 3), (40, none)] I0 I → Fq (l26_30 n b1 I) (fun q => Frm [(39, some 3), (38, none), (37, some 3), (42, none), (36, some 4), (36, some 3), (40, none)] I0 q) := by
  intro n
  induction n with
  | zero => intro b1 I h0; exact F.none
  | succ n ih =>
    intro b1 I h0
    rw [l26_30]
    refine F.ite (fun _ => ?_) (fun _ => ?_)
    · exact F.some h0
    · refine F.ite (fun _ => ?_) (fun _ => ?_)
      · refine F.ite (fun _ => ?_) (fun _ => ?_)
        · refine F.bind (x35_fr  _ _ Frm.refl) (fun q2 hq2 => ?_)
          refine F.bind (x29_fr  _ _ Frm.refl) (fun q3 hq3 => ?_)
          exact ih _ _ (Frm.trans (Frm.trans h0 hq2 rfl) hq3 rfl)
        · refine F.ite (fun _ => ?_) (fun _ => ?_)
          · refine F.bind (x38_fr  _ _ Frm.refl) (fun q4 hq4 => ?_)
            exact ih _ _ (Frm.trans h0 hq4 rfl)
          · exact F.none
      · exact F.none
theorem x26_fr (I0 I : St) (h0 : Frm [(39, some 3), (38, none), (37, some 3), (42, none), (36, some 4), (36, some 3), (40, none)] I0 I) : Fq (x26 I) (fun q => Frm [(39, some 3), (38, none), (37, some 3), (42, none), (36, some 4), (36, some 3), (40, none)] I0 q) := by
  unfold x26
  refine F.bind (x29_fr  _ _ Frm.refl) (fun q1 hq1 => ?_)
  refine F.bind (l26_30_fr  _ _ _ (Frm.trans (Frm.fi (Frm.tr (Frm.tr h0 rfl) rfl) (fun _ => rfl)) hq1 rfl)) (fun q5 hq5 => ?_)
  exact F.some hq5
theorem x55_fr {P : Nat} (hP : P = 3 ∨ P = 18) (I0 I : St) (h0 : Frm [(56, some 5), (56, some 3), (56, some 6), ((P + 2), none), ((P + 1), some 3), (45, none), (44, some 3), (56, some 4)] I0 I) : Fq (x55 P I) (fun q => Frm [(56, some 5), (56, some 3), (56, some 6), ((P + 2), none), ((P + 1), some 3), (45, none), (44, some 3), (56, some 4)] I0 q) := by
  rcases hP with rfl | rfl
  · unfold x55
    refine F.ite (fun _ => ?_) (fun _ => ?_)
    · refine F.ite (fun _ => ?_) (fun _ => ?_)
      · refine F.ite (fun _ => ?_) (fun _ => ?_)
        · refine F.bind (x58_fr  _ _ Frm.refl) (fun q1 hq1 => ?_)
          exact F.some (Frm.trans h0 hq1 rfl)
        · refine F.ite (fun _ => ?_) (fun _ => ?_)
          · refine F.bind (x59_fr  _ _ Frm.refl) (fun q2 hq2 => ?_)
            refine F.bind (x6_fr (by decide) _ _ Frm.refl) (fun q3 hq3 => ?_)
            refine F.letS (Frm.ts (Frm.ts (Frm.ta (Frm.trans (Frm.trans (Frm.u2 h0 rfl) hq2 rfl) hq3 rfl) rfl) (fun _ => rfl)) (fun _ => rfl)) (fun J4 hJ4 => ?_)
            refine F.bind (S := fun q => Frm [(56, some 5), (56, some 3), (56, some 6), ((3 + 2), none), ((3 + 1), some 3), (45, none), (44, some 3), (56, some 4)] I0 q) ?_ (fun q7 hq7 => ?_)
            · refine F.ite (fun _ => ?_) (fun _ => ?_)
              · exact F.some hJ4
              · refine F.bind (x59_fr  _ _ Frm.refl) (fun q5 hq5 => ?_)
                refine F.letS (Frm.ts (Frm.ts (Frm.trans (Frm.u2 hJ4 rfl) hq5 rfl) (fun _ => rfl)) (fun _ => rfl)) (fun J6 hJ6 => ?_)
                exact F.some hJ6
            refine F.bind (x62_fr  _ _ Frm.refl) (fun q8 hq8 => ?_)
            exact F.some (Frm.u2 (Frm.trans hq7 hq8 rfl) rfl)
          · refine F.bind (x58_fr  _ _ Frm.refl) (fun q9 hq9 => ?_)
            exact F.some (Frm.trans h0 hq9 rfl)
      · exact F.some (Frm.u2 h0 rfl)
    · refine F.ite (fun _ => ?_) (fun _ => ?_)
      · refine F.bind (x58_fr  _ _ Frm.refl) (fun q10 hq10 => ?_)
        exact F.some (Frm.trans h0 hq10 rfl)
      · refine F.ite (fun _ => ?_) (fun _ => ?_)
        · refine F.bind (x59_fr  _ _ Frm.refl) (fun q11 hq11 => ?_)
          refine F.bind (x6_fr (by decide) _ _ Frm.refl) (fun q12 hq12 => ?_)
          refine F.letS (Frm.ts (Frm.ts (Frm.ta (Frm.trans (Frm.trans (Frm.u2 h0 rfl) hq11 rfl) hq12 rfl) rfl) (fun _ => rfl)) (fun _ => rfl)) (fun J13 hJ13 => ?_)
          refine F.bind (S := fun q => Frm [(56, some 5), (56, some 3), (56, some 6), ((3 + 2), none), ((3 + 1), some 3), (45, none), (44, some 3), (56, some 4)] I0 q) ?_ (fun q16 hq16 => ?_)
          · refine F.ite (fun _ => ?_) (fun _ => ?_)
            · exact F.some hJ13
            · refine F.bind (x59_fr  _ _ Frm.refl) (fun q14 hq14 => ?_)
              refine F.letS (Frm.ts (Frm.ts (Frm.trans (Frm.u2 hJ13 rfl) hq14 rfl) (fun _ => rfl)) (fun _ => rfl)) (fun J15 hJ15 => ?_)
              exact F.some hJ15
          refine F.bind (x62_fr  _ _ Frm.refl) (fun q17 hq17 => ?_)
          exact F.some (Frm.u2 (Frm.trans hq16 hq17 rfl) rfl)
        · refine F.bind (x58_fr  _ _ Frm.refl) (fun q18 hq18 => ?_)
          exact F.some (Frm.trans h0 hq18 rfl)
  · unfold x55
    refine F.ite (fun _ => ?_) (fun _ => ?_)
    · refine F.ite (fun _ => ?_) (fun _ => ?_)
      · refine F.ite (fun _ => ?_) (fun _ => ?_)
        · refine F.bind (x58_fr  _ _ Frm.refl) (fun q1 hq1 => ?_)
          exact F.some (Frm.trans h0 hq1 rfl)
        · refine F.ite (fun _ => ?_) (fun _ => ?_)
          · refine F.bind (x59_fr  _ _ Frm.refl) (fun q2 hq2 => ?_)
            refine F.bind (x6_fr (by decide) _ _ Frm.refl) (fun q3 hq3 => ?_)
            refine F.letS (Frm.ts (Frm.ts (Frm.ta (Frm.trans (Frm.trans (Frm.u2 h0 rfl) hq2 rfl) hq3 rfl) rfl) (fun _ => rfl)) (fun _ => rfl)) (fun J4 hJ4 => ?_)
            refine F.bind (S := fun q => Frm [(56, some 5), (56, some 3), (56, some 6), ((18 + 2), none), ((18 + 1), some 3), (45, none), (44, some 3), (56, some 4)] I0 q) ?_ (fun q7 hq7 => ?_)
            · refine F.ite (fun _ => ?_) (fun _ => ?_)
              · exact F.some hJ4
              · refine F.bind (x59_fr  _ _ Frm.refl) (fun q5 hq5 => ?_)
                refine F.letS (Frm.ts (Frm.ts (Frm.trans (Frm.u2 hJ4 rfl) hq5 rfl) (fun _ => rfl)) (fun _ => rfl)) (fun J6 hJ6 => ?_)
                exact F.some hJ6
            refine F.bind (x62_fr  _ _ Frm.refl) (fun q8 hq8 => ?_)
            exact F.some (Frm.u2 (Frm.trans hq7 hq8 rfl) rfl)
          · refine F.bind (x58_fr  _ _ Frm.refl) (fun q9 hq9 => ?_)
            exact F.some (Frm.trans h0 hq9 rfl)
      · exact F.some (Frm.u2 h0 rfl)
    · refine F.ite (fun _ => ?_) (fun _ => ?_)
      · refine F.bind (x58_fr  _ _ Frm.refl) (fun q10 hq10 => ?_)
        exact F.some (Frm.trans h0 hq10 rfl)
      · refine F.ite (fun _ => ?_) (fun _ => ?_)
        · refine F.bind (x59_fr  _ _ Frm.refl) (fun q11 hq11 => ?_)
          refine F.bind (x6_fr (by decide) _ _ Frm.refl) (fun q12 hq12 => ?_)
          refine F.letS (Frm.ts (Frm.ts (Frm.ta (Frm.trans (Frm.trans (Frm.u2 h0 rfl) hq11 rfl) hq12 rfl) rfl) (fun _ => rfl)) (fun _ => rfl)) (fun J13 hJ13 => ?_)
          refine F.bind (S := fun q => Frm [(56, some 5), (56, some 3), (56, some 6), ((18 + 2), none), ((18 + 1), some 3), (45, none), (44, some 3), (56, some 4)] I0 q) ?_ (fun q16 hq16 => ?_)
          · refine F.ite (fun _ => ?_) (fun _ => ?_)
            · exact F.some hJ13
            · refine F.bind (x59_fr  _ _ Frm.refl) (fun q14 hq14 => ?_)
              refine F.letS (Frm.ts (Frm.ts (Frm.trans (Frm.u2 hJ13 rfl) hq14 rfl) (fun _ => rfl)) (fun _ => rfl)) (fun J15 hJ15 => ?_)
              exact F.some hJ15
          refine F.bind (x62_fr  _ _ Frm.refl) (fun q17 hq17 => ?_)
          exact F.some (Frm.u2 (Frm.trans hq16 hq17 rfl) rfl)
        · refine F.bind (x58_fr  _ _ Frm.refl) (fun q18 hq18 => ?_)
          exact F.some (Frm.trans h0 hq18 rfl)
theorem x64_fr {P : Nat} (hP : P = 3 ∨ P = 18) (I0 I : St) (h0 : Frm [((P + 2), none), (56, some 3), (56, some 5), (56, some 6), ((P + 4), none), ((P + 3), some 3), (47, none), (46, some 3)] I0 I) : Fq (x64 P I) (fun q => Frm [((P + 2), none), (56, some 3), (56, some 5), (56, some 6), ((P + 4), none), ((P + 3), some 3), (47, none), (46, some 3)] I0 q) := by
  rcases hP with rfl | rfl
  all_goals
    unfold x64
    refine F.ite (fun _ => ?_) (fun _ => ?_)
    · refine F.bind (x66_fr (by decide) (by decide) _ _ Frm.refl) (fun q1 hq1 => ?_)
      refine F.bind (x67_fr  _ _ Frm.refl) (fun q2 hq2 => ?_)
      refine F.bind (x62_fr  _ _ Frm.refl) (fun q3 hq3 => ?_)
      exact F.some (Frm.trans (Frm.ts (Frm.trans (Frm.trans (Frm.ts h0 (fun _ => rfl)) hq1 rfl) hq2 rfl) (fun _ => rfl)) hq3 rfl)
    · refine F.bind (x58_fr  _ _ Frm.refl) (fun q4 hq4 => ?_)
      exact F.some (Frm.trans h0 hq4 rfl)
theorem x75_fr {P : Nat} {a1 : Int32} (hP : P = 3 ∨ P = 18) (I0 I : St) (h0 : Frm [((P + 10), none), (52, some 3), ((P + 9), some 3), ((P + 8), none), (56, some 3), (53, none), (56, some 5), (56, some 6)] I0 I) : Fq (x75 P I a1) (fun q => Frm [((P + 10), none), (52, some 3), ((P + 9), some 3), ((P + 8), none), (56, some 3), (53, none), (56, some 5), (56, some 6)] I0 q) := by
  rcases hP with rfl | rfl
  · unfold x75
    refine F.ite (fun _ => ?_) (fun _ => ?_)
    · refine F.letV (fun v1 => ?_)
      refine F.letS (Frm.ts (Frm.ta (Frm.ta (Frm.ts h0 (fun _ => rfl)) rfl) rfl) (fun _ => rfl)) (fun J2 hJ2 => ?_)
      refine F.bindr (fun q3 => ?_)
      refine F.bind (S := fun q => Frm [((3 + 10), none), (52, some 3), ((3 + 9), some 3), ((3 + 8), none), (56, some 3), (53, none), (56, some 5), (56, some 6)] I0 q) ?_ (fun q13 hq13 => ?_)
      · refine F.ite (fun _ => ?_) (fun _ => ?_)
        · refine F.bind (x77_fr  _ _ Frm.refl) (fun q4 hq4 => ?_)
          exact F.some (Frm.ts (Frm.trans (Frm.u2 (Frm.ts hJ2 (fun _ => rfl)) rfl) hq4 rfl) (fun _ => rfl))
        · refine F.ite (fun _ => ?_) (fun _ => ?_)
          · refine F.bind (x78_fr  _ _ Frm.refl) (fun q5 hq5 => ?_)
            exact F.some (Frm.ts (Frm.trans (Frm.u2 (Frm.ts hJ2 (fun _ => rfl)) rfl) hq5 rfl) (fun _ => rfl))
          · refine F.ite (fun _ => ?_) (fun _ => ?_)
            · refine F.bind (x78_fr  _ _ Frm.refl) (fun q6 hq6 => ?_)
              refine F.bind (x77_fr  _ _ Frm.refl) (fun q7 hq7 => ?_)
              exact F.some (Frm.ts (Frm.trans (Frm.ts (Frm.trans (Frm.u2 (Frm.ts hJ2 (fun _ => rfl)) rfl) hq6 rfl) (fun _ => rfl)) hq7 rfl) (fun _ => rfl))
            · refine F.ite (fun _ => ?_) (fun _ => ?_)
              · refine F.bind (x79_fr (by decide) _ _ Frm.refl) (fun q8 hq8 => ?_)
                exact F.some (Frm.trans (Frm.u2 (Frm.ts hJ2 (fun _ => rfl)) rfl) hq8 rfl)
              · refine F.ite (fun _ => ?_) (fun _ => ?_)
                · refine F.bind (x79_fr (by decide) _ _ Frm.refl) (fun q9 hq9 => ?_)
                  exact F.some (Frm.trans (Frm.u2 (Frm.ts hJ2 (fun _ => rfl)) rfl) hq9 rfl)
                · refine F.ite (fun _ => ?_) (fun _ => ?_)
                  · refine F.bind (x79_fr (by decide) _ _ Frm.refl) (fun q10 hq10 => ?_)
                    refine F.bind (x79_fr (by decide) _ _ Frm.refl) (fun q11 hq11 => ?_)
                    exact F.some (Frm.trans (Frm.trans (Frm.u2 (Frm.ts hJ2 (fun _ => rfl)) rfl) hq10 rfl) hq11 rfl)
                  · refine F.ite (fun _ => ?_) (fun _ => ?_)
                    · refine F.bind (x78_fr  _ _ Frm.refl) (fun q12 hq12 => ?_)
                      exact F.some (Frm.ts (Frm.trans (Frm.u2 (Frm.ts hJ2 (fun _ => rfl)) rfl) hq12 rfl) (fun _ => rfl))
                    · exact F.some (Frm.u2 (Frm.ts hJ2 (fun _ => rfl)) rfl)
      refine F.bind (x62_fr  _ _ Frm.refl) (fun q14 hq14 => ?_)
      exact F.some (Frm.trans hq13 hq14 rfl)
    · refine F.bind (x58_fr  _ _ Frm.refl) (fun q15 hq15 => ?_)
      exact F.some (Frm.trans h0 hq15 rfl)
  · unfold x75
    refine F.ite (fun _ => ?_) (fun _ => ?_)
    · refine F.letV (fun v1 => ?_)
      refine F.letS (Frm.ts (Frm.ta (Frm.ta (Frm.ts h0 (fun _ => rfl)) rfl) rfl) (fun _ => rfl)) (fun J2 hJ2 => ?_)
      refine F.bindr (fun q3 => ?_)
      refine F.bind (S := fun q => Frm [((18 + 10), none), (52, some 3), ((18 + 9), some 3), ((18 + 8), none), (56, some 3), (53, none), (56, some 5), (56, some 6)] I0 q) ?_ (fun q13 hq13 => ?_)
      · refine F.ite (fun _ => ?_) (fun _ => ?_)
        · refine F.bind (x77_fr  _ _ Frm.refl) (fun q4 hq4 => ?_)
          exact F.some (Frm.ts (Frm.trans (Frm.u2 (Frm.ts hJ2 (fun _ => rfl)) rfl) hq4 rfl) (fun _ => rfl))
        · refine F.ite (fun _ => ?_) (fun _ => ?_)
          · refine F.bind (x78_fr  _ _ Frm.refl) (fun q5 hq5 => ?_)
            exact F.some (Frm.ts (Frm.trans (Frm.u2 (Frm.ts hJ2 (fun _ => rfl)) rfl) hq5 rfl) (fun _ => rfl))
          · refine F.ite (fun _ => ?_) (fun _ => ?_)
            · refine F.bind (x78_fr  _ _ Frm.refl) (fun q6 hq6 => ?_)
              refine F.bind (x77_fr  _ _ Frm.refl) (fun q7 hq7 => ?_)
              exact F.some (Frm.ts (Frm.trans (Frm.ts (Frm.trans (Frm.u2 (Frm.ts hJ2 (fun _ => rfl)) rfl) hq6 rfl) (fun _ => rfl)) hq7 rfl) (fun _ => rfl))
            · refine F.ite (fun _ => ?_) (fun _ => ?_)
              · refine F.bind (x79_fr (by decide) _ _ Frm.refl) (fun q8 hq8 => ?_)
                exact F.some (Frm.trans (Frm.u2 (Frm.ts hJ2 (fun _ => rfl)) rfl) hq8 rfl)
              · refine F.ite (fun _ => ?_) (fun _ => ?_)
                · refine F.bind (x79_fr (by decide) _ _ Frm.refl) (fun q9 hq9 => ?_)
                  exact F.some (Frm.trans (Frm.u2 (Frm.ts hJ2 (fun _ => rfl)) rfl) hq9 rfl)
                · refine F.ite (fun _ => ?_) (fun _ => ?_)
                  · refine F.bind (x79_fr (by decide) _ _ Frm.refl) (fun q10 hq10 => ?_)
                    refine F.bind (x79_fr (by decide) _ _ Frm.refl) (fun q11 hq11 => ?_)
                    exact F.some (Frm.trans (Frm.trans (Frm.u2 (Frm.ts hJ2 (fun _ => rfl)) rfl) hq10 rfl) hq11 rfl)
                  · refine F.ite (fun _ => ?_) (fun _ => ?_)
                    · refine F.bind (x78_fr  _ _ Frm.refl) (fun q12 hq12 => ?_)
                      exact F.some (Frm.ts (Frm.trans (Frm.u2 (Frm.ts hJ2 (fun _ => rfl)) rfl) hq12 rfl) (fun _ => rfl))
                    · exact F.some (Frm.u2 (Frm.ts hJ2 (fun _ => rfl)) rfl)
      refine F.bind (x62_fr  _ _ Frm.refl) (fun q14 hq14 => ?_)
      exact F.some (Frm.trans hq13 hq14 rfl)
    · refine F.bind (x58_fr  _ _ Frm.refl) (fun q15 hq15 => ?_)
      exact F.some (Frm.trans h0 hq15 rfl)
theorem x86_fr {P : Nat} {a1 : Int32} (hP : P = 3 ∨ P = 18) (I0 I : St) (h0 : Frm [(57, some 4), (57, some 3)] I0 I) : Fq (x86 P I a1) (fun q => Frm [(57, some 4), (57, some 3)] I0 q) := by
  rcases hP with rfl | rfl
  all_goals
    unfold x86
    refine F.ite (fun _ => ?_) (fun _ => ?_)
    · exact F.some h0
    · refine F.bindr (fun q1 => ?_)
      refine F.ite (fun _ => ?_) (fun _ => ?_)
      · exact F.some h0
      · refine F.bindr (fun q2 => ?_)
        refine F.ite (fun _ => ?_) (fun _ => ?_)
        · refine F.bind (x83_fr  _ _ Frm.refl) (fun q3 hq3 => ?_)
          exact F.some (Frm.trans h0 hq3 rfl)
        · exact F.some h0
theorem x101_fr {P : Nat} {a1 : Int32} (hP : P = 3 ∨ P = 18) (I0 I : St) (h0 : Frm [(60, none), ((P + 8), none), (58, some 6)] I0 I) : Fq (x101 P I a1) (fun q => Frm [(60, none), ((P + 8), none), (58, some 6)] I0 q) := by
  rcases hP with rfl | rfl
  all_goals
    unfold x101
    refine F.ite (fun _ => ?_) (fun _ => ?_)
    · refine F.ite (fun _ => ?_) (fun _ => ?_)
      · refine F.ite (fun _ => ?_) (fun _ => ?_)
        · refine F.letS (Frm.ts (Frm.ts (Frm.ts h0 (fun _ => rfl)) (fun _ => rfl)) (fun _ => rfl)) (fun J1 hJ1 => ?_)
          refine F.letS (Frm.ts hJ1 (fun _ => rfl)) (fun J2 hJ2 => ?_)
          refine F.bind (x102_fr  _ _ Frm.refl) (fun q3 hq3 => ?_)
          exact F.some (Frm.trans (Frm.ts hJ2 (fun _ => rfl)) hq3 rfl)
        · refine F.ite (fun _ => ?_) (fun _ => ?_)
          · refine F.ite (fun _ => ?_) (fun _ => ?_)
            · refine F.bind (x102_fr  _ _ Frm.refl) (fun q4 hq4 => ?_)
              exact F.some (Frm.trans h0 hq4 rfl)
            · refine F.bind (x104_fr  _ _ Frm.refl) (fun q5 hq5 => ?_)
              exact F.some (Frm.trans h0 hq5 rfl)
          · refine F.bind (x104_fr  _ _ Frm.refl) (fun q6 hq6 => ?_)
            exact F.some (Frm.trans h0 hq6 rfl)
      · exact F.some (Frm.u2 h0 rfl)
    · exact F.some h0
theorem l112_194_fr {P : Nat} {b1 : Int32} {b2 : Int32} {I0 : St} (hP : P = 3 ∨ P = 18) : ∀ (n : Nat) (b3 : Int32) (b4 : Int32) (I : St), Frm [(58, some 8), (58, some 7)] I0 I → Fq (l112_194 P b1 b2 n b3 b4 I) (fun q => Frm [(58, some 8), (58, some 7)] I0 q.2) := by
  rcases hP with rfl | rfl
  all_goals
    intro n
    induction n with
    | zero => intro b3 b4 I h0; exact F.none
    | succ n ih =>
      intro b3 b4 I h0
      rw [l112_194]
      refine F.ite (fun _ => ?_) (fun _ => ?_)
      · exact F.some h0
      · refine F.bind (x111_fr  _ _ Frm.refl) (fun q15 hq15 => ?_)
        refine F.ite (fun _ => ?_) (fun _ => ?_)
        · refine F.ite (fun _ => ?_) (fun _ => ?_)
          · exact ih _ _ _ (Frm.trans h0 hq15 rfl)
          · exact ih _ _ _ (Frm.trans h0 hq15 rfl)
        · exact ih _ _ _ (Frm.trans h0 hq15 rfl)
theorem x112_fr {P : Nat} {a1 : Int32} {a2 : Int32} (hP : P = 3 ∨ P = 18) (I0 I : St) (h0 : Frm [(58, some 8), (58, some 7)] I0 I) : Fq (x112 P I a1 a2) (fun q => Frm [(58, some 8), (58, some 7)] I0 q.2) := by
  rcases hP with rfl | rfl
  all_goals
    unfold x112
    refine F.ite (fun _ => ?_) (fun _ => ?_)
    · refine F.bind (x111_fr  _ _ Frm.refl) (fun q1 hq1 => ?_)
      refine F.bind (S := fun q => True) ?_ (fun q2 hq2 => ?_)
      · refine F.ite (fun _ => ?_) (fun _ => ?_)
        · exact F.some trivial
        · exact F.some trivial
      refine F.bind (x110_fr  _ _ Frm.refl) (fun q3 hq3 => ?_)
      refine F.ite (fun _ => ?_) (fun _ => ?_)
      · exact F.some (Frm.trans (Frm.trans h0 hq1 rfl) hq3 rfl)
      · exact F.none
    · refine F.ite (fun _ => ?_) (fun _ => ?_)
      · refine F.bind (x111_fr  _ _ Frm.refl) (fun q4 hq4 => ?_)
        refine F.ite (fun _ => ?_) (fun _ => ?_)
        · refine F.bind (x111_fr  _ _ Frm.refl) (fun q5 hq5 => ?_)
          refine F.ite (fun _ => ?_) (fun _ => ?_)
          · exact F.some (Frm.trans (Frm.trans h0 hq4 rfl) hq5 rfl)
          · exact F.some (Frm.trans (Frm.trans h0 hq4 rfl) hq5 rfl)
        · exact F.some (Frm.trans h0 hq4 rfl)
      · refine F.ite (fun _ => ?_) (fun _ => ?_)
        · refine F.bind (x110_fr  _ _ Frm.refl) (fun q6 hq6 => ?_)
          exact F.some (Frm.trans h0 hq6 rfl)
        · refine F.ite (fun _ => ?_) (fun _ => ?_)
          · refine F.bind (x111_fr  _ _ Frm.refl) (fun q7 hq7 => ?_)
            refine F.ite (fun _ => ?_) (fun _ => ?_)
            · exact F.some (Frm.trans h0 hq7 rfl)
            · exact F.some (Frm.trans h0 hq7 rfl)
          · refine F.ite (fun _ => ?_) (fun _ => ?_)
            · refine F.bind (x113_fr  _ _ Frm.refl) (fun q8 hq8 => ?_)
              refine F.ite (fun _ => ?_) (fun _ => ?_)
              · exact F.some (Frm.trans h0 hq8 rfl)
              · exact F.none
            · refine F.ite (fun _ => ?_) (fun _ => ?_)
              · refine F.bind (x113_fr  _ _ Frm.refl) (fun q9 hq9 => ?_)
                refine F.ite (fun _ => ?_) (fun _ => ?_)
                · exact F.some (Frm.trans h0 hq9 rfl)
                · exact F.none
              · refine F.ite (fun _ => ?_) (fun _ => ?_)
                · refine F.bind (x113_fr  _ _ Frm.refl) (fun q10 hq10 => ?_)
                  refine F.ite (fun _ => ?_) (fun _ => ?_)
                  · exact F.some (Frm.trans h0 hq10 rfl)
                  · exact F.none
                · refine F.ite (fun _ => ?_) (fun _ => ?_)
                  · refine F.bind (x113_fr  _ _ Frm.refl) (fun q11 hq11 => ?_)
                    refine F.ite (fun _ => ?_) (fun _ => ?_)
                    · exact F.some (Frm.trans h0 hq11 rfl)
                    · exact F.none
                  · refine F.ite (fun _ => ?_) (fun _ => ?_)
                    · refine F.bind (x113_fr  _ _ Frm.refl) (fun q12 hq12 => ?_)
                      refine F.ite (fun _ => ?_) (fun _ => ?_)
                      · exact F.some (Frm.trans h0 hq12 rfl)
                      · exact F.none
                    · refine F.ite (fun _ => ?_) (fun _ => ?_)
                      · refine F.bind (x113_fr  _ _ Frm.refl) (fun q13 hq13 => ?_)
                        refine F.ite (fun _ => ?_) (fun _ => ?_)
                        · exact F.some (Frm.trans h0 hq13 rfl)
                        · exact F.none
                      · refine F.ite (fun _ => ?_) (fun _ => ?_)
                        · refine F.bind (x113_fr  _ _ Frm.refl) (fun q14 hq14 => ?_)
                          refine F.ite (fun _ => ?_) (fun _ => ?_)
                          · exact F.some (Frm.trans h0 hq14 rfl)
                          · exact F.none
                        · refine F.ite (fun _ => ?_) (fun _ => ?_)
                          · refine F.bind (l112_194_fr (by decide) _ _ _ _ h0) (fun q16 hq16 => ?_)
                            refine F.bind (S := fun q => Frm [(58, some 8), (58, some 7)] I0 q.2) ?_ (fun q19 hq19 => ?_)
                            · refine F.ite (fun _ => ?_) (fun _ => ?_)
                              · refine F.ite (fun _ => ?_) (fun _ => ?_)
                                · exact F.some hq16
                                · exact F.some hq16
                              · refine F.bind (x111_fr  _ _ Frm.refl) (fun q18 hq18 => ?_)
                                refine F.ite (fun _ => ?_) (fun _ => ?_)
                                · refine F.ite (fun _ => ?_) (fun _ => ?_)
                                  · exact F.some (Frm.trans hq16 hq18 rfl)
                                  · exact F.some (Frm.trans hq16 hq18 rfl)
                                · exact F.some (Frm.trans hq16 hq18 rfl)
                            refine F.bind (x110_fr  _ _ Frm.refl) (fun q20 hq20 => ?_)
                            refine F.ite (fun _ => ?_) (fun _ => ?_)
                            · exact F.some (Frm.trans hq19 hq20 rfl)
                            · exact F.none
                          · refine F.ite (fun _ => ?_) (fun _ => ?_)
                            · refine F.bind (l112_194_fr (by decide) _ _ _ _ h0) (fun q21 hq21 => ?_)
                              refine F.bind (S := fun q => Frm [(58, some 8), (58, some 7)] I0 q.2) ?_ (fun q24 hq24 => ?_)
                              · refine F.ite (fun _ => ?_) (fun _ => ?_)
                                · refine F.ite (fun _ => ?_) (fun _ => ?_)
                                  · exact F.some hq21
                                  · exact F.some hq21
                                · refine F.bind (x111_fr  _ _ Frm.refl) (fun q23 hq23 => ?_)
                                  refine F.ite (fun _ => ?_) (fun _ => ?_)
                                  · refine F.ite (fun _ => ?_) (fun _ => ?_)
                                    · exact F.some (Frm.trans hq21 hq23 rfl)
                                    · exact F.some (Frm.trans hq21 hq23 rfl)
                                  · exact F.some (Frm.trans hq21 hq23 rfl)
                              refine F.bind (x110_fr  _ _ Frm.refl) (fun q25 hq25 => ?_)
                              refine F.ite (fun _ => ?_) (fun _ => ?_)
                              · exact F.some (Frm.trans hq24 hq25 rfl)
                              · exact F.none
                            · refine F.bind (x113_fr  _ _ Frm.refl) (fun q26 hq26 => ?_)
                              refine F.ite (fun _ => ?_) (fun _ => ?_)
                              · exact F.some (Frm.trans h0 hq26 rfl)
                              · exact F.none
theorem x130_fr {a1 : Int32} {a2 : Int32} {a3 : Int32} (I0 I : St) (h0 : Frm [(81, none), (68, some 11)] I0 I) : Fq (x130 I a1 a2 a3) (fun q => Frm [(81, none), (68, some 11)] I0 q) := by
  unfold x130
  refine F.ite (fun _ => ?_) (fun _ => ?_)
  · refine F.bind (x131_fr  _ _ Frm.refl) (fun q1 hq1 => ?_)
    exact F.some (Frm.trans h0 hq1 rfl)
  · refine F.ite (fun _ => ?_) (fun _ => ?_)
    · refine F.bind (x131_fr  _ _ Frm.refl) (fun q2 hq2 => ?_)
      exact F.some (Frm.trans h0 hq2 rfl)
    · refine F.ite (fun _ => ?_) (fun _ => ?_)
      · refine F.bind (x131_fr  _ _ Frm.refl) (fun q3 hq3 => ?_)
        exact F.some (Frm.trans h0 hq3 rfl)
      · refine F.ite (fun _ => ?_) (fun _ => ?_)
        · refine F.bind (x135_fr  _ _ Frm.refl) (fun q4 hq4 => ?_)
          exact F.some (Frm.trans (Frm.ts2 h0 (fun _ => rfl)) hq4 rfl)
        · refine F.ite (fun _ => ?_) (fun _ => ?_)
          · exact F.some (Frm.ts h0 (fun _ => rfl))
          · refine F.ite (fun _ => ?_) (fun _ => ?_)
            · refine F.bind (x131_fr  _ _ Frm.refl) (fun q5 hq5 => ?_)
              exact F.some (Frm.trans h0 hq5 rfl)
            · refine F.ite (fun _ => ?_) (fun _ => ?_)
              · refine F.bind (x135_fr  _ _ Frm.refl) (fun q6 hq6 => ?_)
                exact F.some (Frm.trans h0 hq6 rfl)
              · refine F.ite (fun _ => ?_) (fun _ => ?_)
                · refine F.bind (x136_fr  _ _ Frm.refl) (fun q7 hq7 => ?_)
                  refine F.bind (x131_fr  _ _ Frm.refl) (fun q8 hq8 => ?_)
                  exact F.some (Frm.trans (Frm.trans h0 hq7 rfl) hq8 rfl)
                · exact F.some h0
theorem x137_fr {a1 : Int32} (I0 I : St) (h0 : Frm [(73, none), (72, some 3), (71, none), (70, some 3), (68, some 14), (68, some 16), (68, some 15), (68, some 12), (68, some 11), (81, none)] I0 I) : Fq (x137 I a1) (fun q => Frm [(73, none), (72, some 3), (71, none), (70, some 3), (68, some 14), (68, some 16), (68, some 15), (68, some 12), (68, some 11), (81, none)] I0 q) := by
  unfold x137
  refine F.ite (fun _ => ?_) (fun _ => ?_)
  · refine F.ite (fun _ => ?_) (fun _ => ?_)
    · refine F.bind (x138_fr  _ _ Frm.refl) (fun q1 hq1 => ?_)
      exact F.some (Frm.trans h0 hq1 rfl)
    · refine F.ite (fun _ => ?_) (fun _ => ?_)
      · refine F.bind (x138_fr  _ _ Frm.refl) (fun q2 hq2 => ?_)
        exact F.some (Frm.trans h0 hq2 rfl)
      · refine F.bindr (fun q3 => ?_)
        refine F.bind (x136_fr  _ _ Frm.refl) (fun q4 hq4 => ?_)
        exact F.some (Frm.trans h0 hq4 rfl)
  · refine F.bindr (fun q5 => ?_)
    refine F.bind (x136_fr  _ _ Frm.refl) (fun q6 hq6 => ?_)
    exact F.some (Frm.trans h0 hq6 rfl)
theorem x147_fr {P : Nat} {a1 : Int32} {a2 : Int32} (hP : P = 3 ∨ P = 18) (I0 I : St) (h0 : Frm [(68, some 11), (81, none), (73, none), (72, some 3), (71, none), (70, some 3), (68, some 14), (68, some 16), (68, some 15), (68, some 12)] I0 I) : Fq (x147 P I a1 a2) (fun q => Frm [(68, some 11), (81, none), (73, none), (72, some 3), (71, none), (70, some 3), (68, some 14), (68, some 16), (68, some 15), (68, some 12)] I0 q) := by
  rcases hP with rfl | rfl
  all_goals
    unfold x147
    refine F.bindr (fun q1 => ?_)
    refine F.ite (fun _ => ?_) (fun _ => ?_)
    · refine F.bind (x136_fr  _ _ Frm.refl) (fun q2 hq2 => ?_)
      exact F.some (Frm.trans h0 hq2 rfl)
    · refine F.bind (x138_fr  _ _ Frm.refl) (fun q3 hq3 => ?_)
      exact F.some (Frm.trans h0 hq3 rfl)
theorem x157_fr {a1 : Int32} (I0 I : St) (h0 : Frm [(68, some 11), (81, none), (73, none), (72, some 3), (71, none), (70, some 3), (68, some 14), (68, some 16), (68, some 15), (68, some 12)] I0 I) : Fq (x157 I a1) (fun q => Frm [(68, some 11), (81, none), (73, none), (72, some 3), (71, none), (70, some 3), (68, some 14), (68, some 16), (68, some 15), (68, some 12)] I0 q) := by
  unfold x157
  refine F.ite (fun _ => ?_) (fun _ => ?_)
  · refine F.bind (x136_fr  _ _ Frm.refl) (fun q1 hq1 => ?_)
    exact F.some (Frm.trans h0 hq1 rfl)
  · refine F.bind (x138_fr  _ _ Frm.refl) (fun q2 hq2 => ?_)
    exact F.some (Frm.trans h0 hq2 rfl)
theorem x163_fr {P : Nat} {a1 : Int32} {a2 : Int32} {a3 : Int32} (hP : P = 3 ∨ P = 18) (I0 I : St) (h0 : Frm [(81, none), (79, none), (68, some 7), (68, some 10), (68, some 11), (68, some 8), (68, some 14), (73, none), (72, some 3), (71, none), (70, some 3), (68, some 16), (68, some 15), (68, some 12), (68, some 9)] I0 I) : Fq (x163 P I a1 a2 a3) (fun q => Frm [(81, none), (79, none), (68, some 7), (68, some 10), (68, some 11), (68, some 8), (68, some 14), (73, none), (72, some 3), (71, none), (70, some 3), (68, some 16), (68, some 15), (68, some 12), (68, some 9)] I0 q) := by
  rcases hP with rfl | rfl
  all_goals
    unfold x163
    refine F.ite (fun _ => ?_) (fun _ => ?_)
    · refine F.bind (x164_fr  _ _ Frm.refl) (fun q1 hq1 => ?_)
      exact F.some (Frm.trans h0 hq1 rfl)
    · refine F.ite (fun _ => ?_) (fun _ => ?_)
      · refine F.bind (x165_fr (by decide) _ _ Frm.refl) (fun q2 hq2 => ?_)
        exact F.some (Frm.trans h0 hq2 rfl)
      · refine F.ite (fun _ => ?_) (fun _ => ?_)
        · refine F.bind (x166_fr (by decide) _ _ Frm.refl) (fun q3 hq3 => ?_)
          exact F.some (Frm.trans h0 hq3 rfl)
        · refine F.ite (fun _ => ?_) (fun _ => ?_)
          · refine F.bind (x138_fr  _ _ Frm.refl) (fun q4 hq4 => ?_)
            exact F.some (Frm.trans h0 hq4 rfl)
          · refine F.bind (x140_fr  _ _ Frm.refl) (fun q5 hq5 => ?_)
            exact F.some (Frm.trans h0 hq5 rfl)
theorem x205_fr {Z : Nat} {a1 : Int32} (hZ : Z = 85 ∨ Z = 126) (I0 I : St) (h0 : Frm [(82, some 11), (82, some 16), (82, some 13), (82, some 14), (82, some 12), (82, some 15), (Z, some 4), ((Z + 1), none), ((Z + 2), none), (Z, some 3), ((Z + 3), none), (84, some 0), (173, none), (172, none), (171, none), (82, some 20), ((Z + 10), none), ((Z + 9), none), (Z, some 7), ((Z + 11), none)] I0 I) : Fq (x205 Z I a1) (fun q => Sum.elim (fun a => Frm [(82, some 11), (82, some 16), (82, some 13), (82, some 14), (82, some 12), (82, some 15), (Z, some 4), ((Z + 1), none), ((Z + 2), none), (Z, some 3), ((Z + 3), none), (84, some 0), (173, none), (172, none), (171, none), (82, some 20), ((Z + 10), none), ((Z + 9), none), (Z, some 7), ((Z + 11), none)] I0 a) (fun b => Frm [(82, some 11), (82, some 16), (82, some 13), (82, some 14), (82, some 12), (82, some 15), (Z, some 4), ((Z + 1), none), ((Z + 2), none), (Z, some 3), ((Z + 3), none), (84, some 0), (173, none), (172, none), (171, none), (82, some 20), ((Z + 10), none), ((Z + 9), none), (Z, some 7), ((Z + 11), none)] I0 b) q) := by
  rcases hZ with rfl | rfl
  all_goals
    unfold x205
    refine F.bind (x192_fr  _ _ Frm.refl) (fun q1 hq1 => ?_)
    refine F.bindT (x201_fr (by decide) _ _ Frm.refl) (fun J hJ => ?_) (fun q2 hq2 => ?_)
    · exact F.some (Frm.trans (Frm.trans h0 hq1 rfl) hJ rfl)
    · refine F.bind (x206_fr  _ _ Frm.refl) (fun q3 hq3 => ?_)
      refine F.ite (fun _ => ?_) (fun _ => ?_)
      · refine F.ite (fun _ => ?_) (fun _ => ?_)
        · refine F.bindT (x207_fr  _ _ Frm.refl) (fun J hJ => ?_) (fun q4 hq4 => ?_)
          · exact F.some (Frm.trans (Frm.u2 (Frm.u2 (Frm.trans (Frm.trans (Frm.trans h0 hq1 rfl) hq2 rfl) hq3 rfl) rfl) rfl) hJ rfl)
          · refine F.ite (fun _ => ?_) (fun _ => ?_)
            · refine F.letS (Frm.u2 (Frm.u2 (Frm.trans (Frm.u2 (Frm.u2 (Frm.trans (Frm.trans (Frm.trans h0 hq1 rfl) hq2 rfl) hq3 rfl) rfl) rfl) hq4 rfl) rfl) rfl) (fun J5 hJ5 => ?_)
              refine F.bindT (x204_fr  _ _ Frm.refl) (fun J hJ => ?_) (fun q6 hq6 => ?_)
              · exact F.some (Frm.trans hJ5 hJ rfl)
              · exact F.some (Frm.trans hJ5 hq6 rfl)
            · exact F.none
        · exact F.none
      · exact F.none
theorem x213_fr {a1 : Int32} (I0 I : St) (h0 : Frm [(84, some 0), (82, some 11), (82, some 16), (82, some 13), (82, some 14), (82, some 12), (82, some 15)] I0 I) : Fq (x213 I a1) (fun q => Sum.elim (fun a => Frm [(84, some 0), (82, some 11), (82, some 16), (82, some 13), (82, some 14), (82, some 12), (82, some 15)] I0 a) (fun b => Frm [(84, some 0), (82, some 11), (82, some 16), (82, some 13), (82, some 14), (82, some 12), (82, some 15)] I0 b.2) q) := by
  unfold x213
  refine F.bindr (fun q1 => ?_)
  refine F.ite (fun _ => ?_) (fun _ => ?_)
  · refine F.bind (S := fun q => True) ?_ (fun q2 hq2 => ?_)
    · refine F.ite (fun _ => ?_) (fun _ => ?_)
      · exact F.some trivial
      · exact F.some trivial
    refine F.bindT (x214_fr  _ _ Frm.refl) (fun J hJ => ?_) (fun q3 hq3 => ?_)
    · exact F.some (Frm.trans h0 hJ rfl)
    · exact F.some (Frm.trans h0 hq3 rfl)
  · refine F.bind (x192_fr  _ _ Frm.refl) (fun q4 hq4 => ?_)
    refine F.ite (fun _ => ?_) (fun _ => ?_)
    · refine F.ite (fun _ => ?_) (fun _ => ?_)
      · refine F.ite (fun _ => ?_) (fun _ => ?_)
        · refine F.bind (S := fun q => True) ?_ (fun q5 hq5 => ?_)
          · refine F.ite (fun _ => ?_) (fun _ => ?_)
            · exact F.some trivial
            · exact F.some trivial
          refine F.bindT (x214_fr  _ _ Frm.refl) (fun J hJ => ?_) (fun q6 hq6 => ?_)
          · exact F.some (Frm.trans (Frm.trans h0 hq4 rfl) hJ rfl)
          · exact F.some (Frm.trans (Frm.trans h0 hq4 rfl) hq6 rfl)
        · refine F.bind (x192_fr  _ _ Frm.refl) (fun q7 hq7 => ?_)
          exact F.some (Frm.trans (Frm.trans h0 hq4 rfl) hq7 rfl)
      · refine F.bind (S := fun q => True) ?_ (fun q8 hq8 => ?_)
        · refine F.ite (fun _ => ?_) (fun _ => ?_)
          · exact F.some trivial
          · exact F.some trivial
        refine F.bindT (x214_fr  _ _ Frm.refl) (fun J hJ => ?_) (fun q9 hq9 => ?_)
        · exact F.some (Frm.trans (Frm.trans h0 hq4 rfl) hJ rfl)
        · exact F.some (Frm.trans (Frm.trans h0 hq4 rfl) hq9 rfl)
    · refine F.bind (S := fun q => True) ?_ (fun q10 hq10 => ?_)
      · refine F.ite (fun _ => ?_) (fun _ => ?_)
        · exact F.some trivial
        · exact F.some trivial
      refine F.bindT (x214_fr  _ _ Frm.refl) (fun J hJ => ?_) (fun q11 hq11 => ?_)
      · exact F.some (Frm.trans (Frm.trans h0 hq4 rfl) hJ rfl)
      · exact F.some (Frm.trans (Frm.trans h0 hq4 rfl) hq11 rfl)
theorem l215_3_fr {Z : Nat} {I0 : St} (hZ : Z = 85 ∨ Z = 126) : ∀ (n : Nat) (b1 : Int32) (I : St), Frm [(82, some 5), (82, some 22), ((Z + 8), none), ((Z + 33), none), ((Z + 27), none), ((Z + 40), none)] I0 I → Fq (l215_3 Z n b1 I) (fun q => Frm [(82, some 5), (82, some 22), ((Z + 8), none), ((Z + 33), none), ((Z + 27), none), ((Z + 40), none)] I0 q) := by
  rcases hZ with rfl | rfl
  · intro n
    induction n with
    | zero => intro b1 I h0; exact F.none
    | succ n ih =>
      intro b1 I h0
      rw [l215_3]
      refine F.ite (fun _ => ?_) (fun _ => ?_)
      · exact F.some h0
      · refine F.ite (fun _ => ?_) (fun _ => ?_)
        · refine F.bindr (fun q1 => ?_)
          refine F.bind (S := fun q => Frm [(82, some 5), (82, some 22), ((85 + 8), none), ((85 + 33), none), ((85 + 27), none), ((85 + 40), none)] I0 q) ?_ (fun q3 hq3 => ?_)
          · refine F.ite (fun _ => ?_) (fun _ => ?_)
            · exact F.some h0
            · refine F.ite (fun _ => ?_) (fun _ => ?_)
              · refine F.bind (x217_fr  _ _ Frm.refl) (fun q2 hq2 => ?_)
                exact F.some (Frm.trans h0 hq2 rfl)
              · exact F.none
          refine F.ite (fun _ => ?_) (fun _ => ?_)
          · refine F.bind (S := fun q => True) ?_ (fun q5 hq5 => ?_)
            · refine F.ite (fun _ => ?_) (fun _ => ?_)
              · exact F.some trivial
              · refine F.ite (fun _ => ?_) (fun _ => ?_)
                · refine F.bindr (fun q4 => ?_)
                  exact F.some trivial
                · exact F.none
            refine F.bind (S := fun q => Frm [(82, some 5), (82, some 22), ((85 + 8), none), ((85 + 33), none), ((85 + 27), none), ((85 + 40), none)] I0 q) ?_ (fun q7 hq7 => ?_)
            · refine F.ite (fun _ => ?_) (fun _ => ?_)
              · refine F.ite (fun _ => ?_) (fun _ => ?_)
                · refine F.bind (x217_fr  _ _ Frm.refl) (fun q6 hq6 => ?_)
                  exact F.some (Frm.trans hq3 hq6 rfl)
                · exact F.none
              · exact F.some hq3
            refine F.ite (fun _ => ?_) (fun _ => ?_)
            · refine F.ite (fun _ => ?_) (fun _ => ?_)
              · exact ih _ _ (Frm.u2 hq7 rfl)
              · exact F.none
            · refine F.ite (fun _ => ?_) (fun _ => ?_)
              · exact ih _ _ (Frm.u2 hq7 rfl)
              · exact F.none
          · exact F.none
        · exact F.none
  · intro n
    induction n with
    | zero => intro b1 I h0; exact F.none
    | succ n ih =>
      intro b1 I h0
      rw [l215_3]
      refine F.ite (fun _ => ?_) (fun _ => ?_)
      · exact F.some h0
      · refine F.ite (fun _ => ?_) (fun _ => ?_)
        · refine F.bindr (fun q1 => ?_)
          refine F.bind (S := fun q => Frm [(82, some 5), (82, some 22), ((126 + 8), none), ((126 + 33), none), ((126 + 27), none), ((126 + 40), none)] I0 q) ?_ (fun q3 hq3 => ?_)
          · refine F.ite (fun _ => ?_) (fun _ => ?_)
            · exact F.some h0
            · refine F.ite (fun _ => ?_) (fun _ => ?_)
              · refine F.bind (x217_fr  _ _ Frm.refl) (fun q2 hq2 => ?_)
                exact F.some (Frm.trans h0 hq2 rfl)
              · exact F.none
          refine F.ite (fun _ => ?_) (fun _ => ?_)
          · refine F.bind (S := fun q => True) ?_ (fun q5 hq5 => ?_)
            · refine F.ite (fun _ => ?_) (fun _ => ?_)
              · exact F.some trivial
              · refine F.ite (fun _ => ?_) (fun _ => ?_)
                · refine F.bindr (fun q4 => ?_)
                  exact F.some trivial
                · exact F.none
            refine F.bind (S := fun q => Frm [(82, some 5), (82, some 22), ((126 + 8), none), ((126 + 33), none), ((126 + 27), none), ((126 + 40), none)] I0 q) ?_ (fun q7 hq7 => ?_)
            · refine F.ite (fun _ => ?_) (fun _ => ?_)
              · refine F.ite (fun _ => ?_) (fun _ => ?_)
                · refine F.bind (x217_fr  _ _ Frm.refl) (fun q6 hq6 => ?_)
                  exact F.some (Frm.trans hq3 hq6 rfl)
                · exact F.none
              · exact F.some hq3
            refine F.ite (fun _ => ?_) (fun _ => ?_)
            · refine F.ite (fun _ => ?_) (fun _ => ?_)
              · exact ih _ _ (Frm.u2 hq7 rfl)
              · exact F.none
            · refine F.ite (fun _ => ?_) (fun _ => ?_)
              · exact ih _ _ (Frm.u2 hq7 rfl)
              · exact F.none
          · exact F.none
        · exact F.none
theorem l215_134_fr {Z : Nat} {b1 : Int32} {I0 : St} (hZ : Z = 85 ∨ Z = 126) : ∀ (n : Nat) (b2 : Int32) (I : St), Frm [(82, some 5), (82, some 22), ((Z + 8), none), ((Z + 33), none), ((Z + 27), none), ((Z + 40), none)] I0 I → Fq (l215_134 Z b1 n b2 I) (fun q => Frm [(82, some 5), (82, some 22), ((Z + 8), none), ((Z + 33), none), ((Z + 27), none), ((Z + 40), none)] I0 q) := by
  rcases hZ with rfl | rfl
  all_goals
    intro n
    induction n with
    | zero => intro b2 I h0; exact F.none
    | succ n ih =>
      intro b2 I h0
      rw [l215_134]
      refine F.ite (fun _ => ?_) (fun _ => ?_)
      · exact F.some h0
      · refine F.ite (fun _ => ?_) (fun _ => ?_)
        · refine F.ite (fun _ => ?_) (fun _ => ?_)
          · refine F.ite (fun _ => ?_) (fun _ => ?_)
            · refine F.ite (fun _ => ?_) (fun _ => ?_)
              · refine F.ite (fun _ => ?_) (fun _ => ?_)
                · refine F.ite (fun _ => ?_) (fun _ => ?_)
                  · refine F.ite (fun _ => ?_) (fun _ => ?_)
                    · refine F.bind (x217_fr  _ _ Frm.refl) (fun q11 hq11 => ?_)
                      exact ih _ _ (Frm.trans h0 hq11 rfl)
                    · exact F.none
                  · exact ih _ _ h0
                · exact F.none
              · exact F.none
            · exact ih _ _ h0
          · exact F.none
        · exact F.none
theorem l215_124_fr {Z : Nat} {I0 : St} (hZ : Z = 85 ∨ Z = 126) : ∀ (n : Nat) (b1 : Int32) (I : St), Frm [(82, some 5), (82, some 22), ((Z + 8), none), ((Z + 33), none), ((Z + 27), none), ((Z + 40), none)] I0 I → Fq (l215_124 Z n b1 I) (fun q => Frm [(82, some 5), (82, some 22), ((Z + 8), none), ((Z + 33), none), ((Z + 27), none), ((Z + 40), none)] I0 q) := by
  rcases hZ with rfl | rfl
  all_goals
    intro n
    induction n with
    | zero => intro b1 I h0; exact F.none
    | succ n ih =>
      intro b1 I h0
      rw [l215_124]
      refine F.ite (fun _ => ?_) (fun _ => ?_)
      · exact F.some h0
      · refine F.bind (l215_134_fr (by decide) _ _ _ h0) (fun q12 hq12 => ?_)
        exact ih _ _ hq12
theorem l215_207_fr {Z : Nat} {b1 : Int32} {I0 : St} (hZ : Z = 85 ∨ Z = 126) : ∀ (n : Nat) (b2 : Int32) (I : St), Frm [(82, some 5), (82, some 22), ((Z + 8), none), ((Z + 33), none), ((Z + 27), none), ((Z + 40), none)] I0 I → Fq (l215_207 Z b1 n b2 I) (fun q => Frm [(82, some 5), (82, some 22), ((Z + 8), none), ((Z + 33), none), ((Z + 27), none), ((Z + 40), none)] I0 q) := by
  rcases hZ with rfl | rfl
  all_goals
    intro n
    induction n with
    | zero => intro b2 I h0; exact F.none
    | succ n ih =>
      intro b2 I h0
      rw [l215_207]
      refine F.ite (fun _ => ?_) (fun _ => ?_)
      · exact F.some h0
      · refine F.ite (fun _ => ?_) (fun _ => ?_)
        · refine F.ite (fun _ => ?_) (fun _ => ?_)
          · refine F.ite (fun _ => ?_) (fun _ => ?_)
            · refine F.ite (fun _ => ?_) (fun _ => ?_)
              · refine F.ite (fun _ => ?_) (fun _ => ?_)
                · refine F.ite (fun _ => ?_) (fun _ => ?_)
                  · refine F.ite (fun _ => ?_) (fun _ => ?_)
                    · refine F.bind (x217_fr  _ _ Frm.refl) (fun q17 hq17 => ?_)
                      exact ih _ _ (Frm.trans h0 hq17 rfl)
                    · exact F.none
                  · exact ih _ _ h0
                · exact F.none
              · exact F.none
            · exact ih _ _ h0
          · exact F.none
        · exact F.none
theorem l215_194_fr {Z : Nat} {I0 : St} (hZ : Z = 85 ∨ Z = 126) : ∀ (n : Nat) (b1 : Int32) (I : St), Frm [(82, some 5), (82, some 22), ((Z + 8), none), ((Z + 33), none), ((Z + 27), none), ((Z + 40), none)] I0 I → Fq (l215_194 Z n b1 I) (fun q => Frm [(82, some 5), (82, some 22), ((Z + 8), none), ((Z + 33), none), ((Z + 27), none), ((Z + 40), none)] I0 q) := by
  rcases hZ with rfl | rfl
  all_goals
    intro n
    induction n with
    | zero => intro b1 I h0; exact F.none
    | succ n ih =>
      intro b1 I h0
      rw [l215_194]
      refine F.ite (fun _ => ?_) (fun _ => ?_)
      · exact F.some h0
      · refine F.bind (l215_207_fr (by decide) _ _ _ h0) (fun q18 hq18 => ?_)
        exact ih _ _ hq18
theorem l215_305_fr {Z : Nat} {b1 : Int32} {I0 : St} (hZ : Z = 85 ∨ Z = 126) : ∀ (n : Nat) (b2 : Int32) (I : St), Frm [(82, some 5), (82, some 22), ((Z + 8), none), ((Z + 33), none), ((Z + 27), none), ((Z + 40), none)] I0 I → Fq (l215_305 Z b1 n b2 I) (fun q => Frm [(82, some 5), (82, some 22), ((Z + 8), none), ((Z + 33), none), ((Z + 27), none), ((Z + 40), none)] I0 q) := by
  rcases hZ with rfl | rfl
  all_goals
    intro n
    induction n with
    | zero => intro b2 I h0; exact F.none
    | succ n ih =>
      intro b2 I h0
      rw [l215_305]
      refine F.ite (fun _ => ?_) (fun _ => ?_)
      · refine F.ite (fun _ => ?_) (fun _ => ?_)
        · refine F.ite (fun _ => ?_) (fun _ => ?_)
          · exact F.some h0
          · refine F.bind (x220_fr (by decide) _ _ Frm.refl) (fun q24 hq24 => ?_)
            exact ih _ _ (Frm.trans h0 hq24 rfl)
        · exact F.none
      · exact F.none
theorem l215_279_fr {Z : Nat} {I0 : St} (hZ : Z = 85 ∨ Z = 126) : ∀ (n : Nat) (b1 : Int32) (I : St), Frm [(82, some 5), (82, some 22), ((Z + 8), none), ((Z + 33), none), ((Z + 27), none), ((Z + 40), none)] I0 I → Fq (l215_279 Z n b1 I) (fun q => Frm [(82, some 5), (82, some 22), ((Z + 8), none), ((Z + 33), none), ((Z + 27), none), ((Z + 40), none)] I0 q) := by
  rcases hZ with rfl | rfl
  all_goals
    intro n
    induction n with
    | zero => intro b1 I h0; exact F.none
    | succ n ih =>
      intro b1 I h0
      rw [l215_279]
      refine F.ite (fun _ => ?_) (fun _ => ?_)
      · exact F.some h0
      · refine F.bind (x218_fr (by decide) _ _ Frm.refl) (fun q23 hq23 => ?_)
        refine F.ite (fun _ => ?_) (fun _ => ?_)
        · refine F.bind (l215_305_fr (by decide) _ _ _ (Frm.trans h0 hq23 rfl)) (fun q25 hq25 => ?_)
          exact ih _ _ hq25
        · exact F.none
theorem l215_348_fr {Z : Nat} {I0 : St} (hZ : Z = 85 ∨ Z = 126) : ∀ (n : Nat) (b1 : Int32) (I : St), Frm [(82, some 5), (82, some 22), ((Z + 8), none), ((Z + 33), none), ((Z + 27), none), ((Z + 40), none)] I0 I → Fq (l215_348 Z n b1 I) (fun q => Frm [(82, some 5), (82, some 22), ((Z + 8), none), ((Z + 33), none), ((Z + 27), none), ((Z + 40), none)] I0 q) := by
  rcases hZ with rfl | rfl
  all_goals
    intro n
    induction n with
    | zero => intro b1 I h0; exact F.none
    | succ n ih =>
      intro b1 I h0
      rw [l215_348]
      refine F.ite (fun _ => ?_) (fun _ => ?_)
      · exact F.some h0
      · refine F.bind (x224_fr (by decide) _ _ Frm.refl) (fun q30 hq30 => ?_)
        exact ih _ _ (Frm.trans h0 hq30 rfl)
theorem x215_fr {Z : Nat} (hZ : Z = 85 ∨ Z = 126) (I0 I : St) (h0 : Frm [(82, some 5), (82, some 22), ((Z + 8), none), ((Z + 33), none), ((Z + 27), none), ((Z + 40), none)] I0 I) : Fq (x215 Z I) (fun q => Frm [(82, some 5), (82, some 22), ((Z + 8), none), ((Z + 33), none), ((Z + 27), none), ((Z + 40), none)] I0 q) := by
  rcases hZ with rfl | rfl
  all_goals
    unfold x215
    refine F.bind (l215_3_fr (by decide) _ _ _ h0) (fun q8 hq8 => ?_)
    refine F.bind (l215_124_fr (by decide) _ _ _ hq8) (fun q14 hq14 => ?_)
    refine F.bind (l215_194_fr (by decide) _ _ _ hq14) (fun q20 hq20 => ?_)
    refine F.bind (l215_279_fr (by decide) _ _ _ hq20) (fun q27 hq27 => ?_)
    refine F.bind (l215_348_fr (by decide) _ _ _ hq27) (fun q31 hq31 => ?_)
    exact F.some hq31
theorem x233_fr {Z : Nat} {a1 : Int32} {a2 : Int32} (hZ : Z = 85 ∨ Z = 126) (I0 I : St) (h0 : Frm [(82, some 30), (82, some 31), (82, some 29)] I0 I) : Fq (x233 Z I a1 a2) (fun q => Frm [(82, some 30), (82, some 31), (82, some 29)] I0 q) := by
  rcases hZ with rfl | rfl
  all_goals
    unfold x233
    refine F.ite (fun _ => ?_) (fun _ => ?_)
    · refine F.bind (x232_fr  _ _ Frm.refl) (fun q1 hq1 => ?_)
      exact F.some (Frm.trans h0 hq1 rfl)
    · refine F.ite (fun _ => ?_) (fun _ => ?_)
      · refine F.bind (x232_fr  _ _ Frm.refl) (fun q2 hq2 => ?_)
        exact F.some (Frm.trans h0 hq2 rfl)
      · refine F.ite (fun _ => ?_) (fun _ => ?_)
        · refine F.bind (x232_fr  _ _ Frm.refl) (fun q3 hq3 => ?_)
          exact F.some (Frm.trans h0 hq3 rfl)
        · refine F.ite (fun _ => ?_) (fun _ => ?_)
          · refine F.bind (x232_fr  _ _ Frm.refl) (fun q4 hq4 => ?_)
            exact F.some (Frm.trans h0 hq4 rfl)
          · refine F.ite (fun _ => ?_) (fun _ => ?_)
            · refine F.bind (x231_fr  _ _ Frm.refl) (fun q5 hq5 => ?_)
              refine F.bind (x232_fr  _ _ Frm.refl) (fun q6 hq6 => ?_)
              refine F.bind (x232_fr  _ _ Frm.refl) (fun q7 hq7 => ?_)
              exact F.some (Frm.trans (Frm.trans (Frm.trans h0 hq5 rfl) hq6 rfl) hq7 rfl)
            · refine F.ite (fun _ => ?_) (fun _ => ?_)
              · refine F.bind (x231_fr  _ _ Frm.refl) (fun q8 hq8 => ?_)
                exact F.some (Frm.trans h0 hq8 rfl)
              · refine F.ite (fun _ => ?_) (fun _ => ?_)
                · refine F.bind (x231_fr  _ _ Frm.refl) (fun q9 hq9 => ?_)
                  refine F.bind (x231_fr  _ _ Frm.refl) (fun q10 hq10 => ?_)
                  refine F.bind (x232_fr  _ _ Frm.refl) (fun q11 hq11 => ?_)
                  refine F.bind (x232_fr  _ _ Frm.refl) (fun q12 hq12 => ?_)
                  exact F.some (Frm.trans (Frm.trans (Frm.trans (Frm.trans h0 hq9 rfl) hq10 rfl) hq11 rfl) hq12 rfl)
                · refine F.ite (fun _ => ?_) (fun _ => ?_)
                  · refine F.ite (fun _ => ?_) (fun _ => ?_)
                    · refine F.bind (x231_fr  _ _ Frm.refl) (fun q13 hq13 => ?_)
                      refine F.bind (x232_fr  _ _ Frm.refl) (fun q14 hq14 => ?_)
                      exact F.some (Frm.trans (Frm.trans h0 hq13 rfl) hq14 rfl)
                    · refine F.ite (fun _ => ?_) (fun _ => ?_)
                      · refine F.bind (x231_fr  _ _ Frm.refl) (fun q15 hq15 => ?_)
                        refine F.bind (x232_fr  _ _ Frm.refl) (fun q16 hq16 => ?_)
                        exact F.some (Frm.trans (Frm.trans h0 hq15 rfl) hq16 rfl)
                      · refine F.ite (fun _ => ?_) (fun _ => ?_)
                        · refine F.bind (x231_fr  _ _ Frm.refl) (fun q17 hq17 => ?_)
                          refine F.bind (x232_fr  _ _ Frm.refl) (fun q18 hq18 => ?_)
                          exact F.some (Frm.trans (Frm.trans h0 hq17 rfl) hq18 rfl)
                        · refine F.ite (fun _ => ?_) (fun _ => ?_)
                          · refine F.ite (fun _ => ?_) (fun _ => ?_)
                            · refine F.bind (x231_fr  _ _ Frm.refl) (fun q19 hq19 => ?_)
                              exact F.some (Frm.trans h0 hq19 rfl)
                            · refine F.ite (fun _ => ?_) (fun _ => ?_)
                              · refine F.ite (fun _ => ?_) (fun _ => ?_)
                                · refine F.bind (x231_fr  _ _ Frm.refl) (fun q20 hq20 => ?_)
                                  exact F.some (Frm.trans h0 hq20 rfl)
                                · refine F.ite (fun _ => ?_) (fun _ => ?_)
                                  · refine F.bind (x231_fr  _ _ Frm.refl) (fun q21 hq21 => ?_)
                                    exact F.some (Frm.trans h0 hq21 rfl)
                                  · refine F.ite (fun _ => ?_) (fun _ => ?_)
                                    · refine F.bind (x231_fr  _ _ Frm.refl) (fun q22 hq22 => ?_)
                                      exact F.some (Frm.trans h0 hq22 rfl)
                                    · refine F.ite (fun _ => ?_) (fun _ => ?_)
                                      · refine F.bind (x231_fr  _ _ Frm.refl) (fun q23 hq23 => ?_)
                                        refine F.bind (x231_fr  _ _ Frm.refl) (fun q24 hq24 => ?_)
                                        exact F.some (Frm.trans (Frm.trans h0 hq23 rfl) hq24 rfl)
                                      · refine F.ite (fun _ => ?_) (fun _ => ?_)
                                        · refine F.bind (x231_fr  _ _ Frm.refl) (fun q25 hq25 => ?_)
                                          refine F.bind (x231_fr  _ _ Frm.refl) (fun q26 hq26 => ?_)
                                          exact F.some (Frm.trans (Frm.trans h0 hq25 rfl) hq26 rfl)
                                        · refine F.bind (x234_fr (by decide) _ _ Frm.refl) (fun q27 hq27 => ?_)
                                          exact F.some (Frm.trans h0 hq27 rfl)
                              · refine F.ite (fun _ => ?_) (fun _ => ?_)
                                · refine F.ite (fun _ => ?_) (fun _ => ?_)
                                  · refine F.bind (x231_fr  _ _ Frm.refl) (fun q28 hq28 => ?_)
                                    exact F.some (Frm.trans h0 hq28 rfl)
                                  · refine F.ite (fun _ => ?_) (fun _ => ?_)
                                    · refine F.bind (x231_fr  _ _ Frm.refl) (fun q29 hq29 => ?_)
                                      exact F.some (Frm.trans h0 hq29 rfl)
                                    · refine F.ite (fun _ => ?_) (fun _ => ?_)
                                      · refine F.bind (x231_fr  _ _ Frm.refl) (fun q30 hq30 => ?_)
                                        exact F.some (Frm.trans h0 hq30 rfl)
                                      · refine F.ite (fun _ => ?_) (fun _ => ?_)
                                        · refine F.bind (x231_fr  _ _ Frm.refl) (fun q31 hq31 => ?_)
                                          refine F.bind (x231_fr  _ _ Frm.refl) (fun q32 hq32 => ?_)
                                          exact F.some (Frm.trans (Frm.trans h0 hq31 rfl) hq32 rfl)
                                        · refine F.ite (fun _ => ?_) (fun _ => ?_)
                                          · refine F.bind (x231_fr  _ _ Frm.refl) (fun q33 hq33 => ?_)
                                            refine F.bind (x231_fr  _ _ Frm.refl) (fun q34 hq34 => ?_)
                                            exact F.some (Frm.trans (Frm.trans h0 hq33 rfl) hq34 rfl)
                                          · refine F.bind (x234_fr (by decide) _ _ Frm.refl) (fun q35 hq35 => ?_)
                                            exact F.some (Frm.trans h0 hq35 rfl)
                                · refine F.bind (x231_fr  _ _ Frm.refl) (fun q36 hq36 => ?_)
                                  refine F.bind (x231_fr  _ _ Frm.refl) (fun q37 hq37 => ?_)
                                  exact F.some (Frm.trans (Frm.trans h0 hq36 rfl) hq37 rfl)
                          · refine F.ite (fun _ => ?_) (fun _ => ?_)
                            · refine F.bind (x231_fr  _ _ Frm.refl) (fun q38 hq38 => ?_)
                              exact F.some (Frm.trans h0 hq38 rfl)
                            · refine F.ite (fun _ => ?_) (fun _ => ?_)
                              · refine F.bind (x231_fr  _ _ Frm.refl) (fun q39 hq39 => ?_)
                                exact F.some (Frm.trans h0 hq39 rfl)
                              · refine F.ite (fun _ => ?_) (fun _ => ?_)
                                · refine F.ite (fun _ => ?_) (fun _ => ?_)
                                  · refine F.bind (x231_fr  _ _ Frm.refl) (fun q40 hq40 => ?_)
                                    exact F.some (Frm.trans h0 hq40 rfl)
                                  · refine F.ite (fun _ => ?_) (fun _ => ?_)
                                    · refine F.bind (x231_fr  _ _ Frm.refl) (fun q41 hq41 => ?_)
                                      exact F.some (Frm.trans h0 hq41 rfl)
                                    · refine F.ite (fun _ => ?_) (fun _ => ?_)
                                      · refine F.bind (x231_fr  _ _ Frm.refl) (fun q42 hq42 => ?_)
                                        exact F.some (Frm.trans h0 hq42 rfl)
                                      · refine F.ite (fun _ => ?_) (fun _ => ?_)
                                        · refine F.bind (x231_fr  _ _ Frm.refl) (fun q43 hq43 => ?_)
                                          refine F.bind (x231_fr  _ _ Frm.refl) (fun q44 hq44 => ?_)
                                          exact F.some (Frm.trans (Frm.trans h0 hq43 rfl) hq44 rfl)
                                        · refine F.ite (fun _ => ?_) (fun _ => ?_)
                                          · refine F.bind (x231_fr  _ _ Frm.refl) (fun q45 hq45 => ?_)
                                            refine F.bind (x231_fr  _ _ Frm.refl) (fun q46 hq46 => ?_)
                                            exact F.some (Frm.trans (Frm.trans h0 hq45 rfl) hq46 rfl)
                                          · refine F.bind (x234_fr (by decide) _ _ Frm.refl) (fun q47 hq47 => ?_)
                                            exact F.some (Frm.trans h0 hq47 rfl)
                                · refine F.ite (fun _ => ?_) (fun _ => ?_)
                                  · refine F.ite (fun _ => ?_) (fun _ => ?_)
                                    · refine F.bind (x231_fr  _ _ Frm.refl) (fun q48 hq48 => ?_)
                                      exact F.some (Frm.trans h0 hq48 rfl)
                                    · refine F.ite (fun _ => ?_) (fun _ => ?_)
                                      · refine F.bind (x231_fr  _ _ Frm.refl) (fun q49 hq49 => ?_)
                                        exact F.some (Frm.trans h0 hq49 rfl)
                                      · refine F.ite (fun _ => ?_) (fun _ => ?_)
                                        · refine F.bind (x231_fr  _ _ Frm.refl) (fun q50 hq50 => ?_)
                                          exact F.some (Frm.trans h0 hq50 rfl)
                                        · refine F.ite (fun _ => ?_) (fun _ => ?_)
                                          · refine F.bind (x231_fr  _ _ Frm.refl) (fun q51 hq51 => ?_)
                                            refine F.bind (x231_fr  _ _ Frm.refl) (fun q52 hq52 => ?_)
                                            exact F.some (Frm.trans (Frm.trans h0 hq51 rfl) hq52 rfl)
                                          · refine F.ite (fun _ => ?_) (fun _ => ?_)
                                            · refine F.bind (x231_fr  _ _ Frm.refl) (fun q53 hq53 => ?_)
                                              refine F.bind (x231_fr  _ _ Frm.refl) (fun q54 hq54 => ?_)
                                              exact F.some (Frm.trans (Frm.trans h0 hq53 rfl) hq54 rfl)
                                            · refine F.bind (x234_fr (by decide) _ _ Frm.refl) (fun q55 hq55 => ?_)
                                              exact F.some (Frm.trans h0 hq55 rfl)
                                  · refine F.bind (x231_fr  _ _ Frm.refl) (fun q56 hq56 => ?_)
                                    refine F.bind (x231_fr  _ _ Frm.refl) (fun q57 hq57 => ?_)
                                    exact F.some (Frm.trans (Frm.trans h0 hq56 rfl) hq57 rfl)
                  · refine F.ite (fun _ => ?_) (fun _ => ?_)
                    · refine F.ite (fun _ => ?_) (fun _ => ?_)
                      · refine F.bind (x231_fr  _ _ Frm.refl) (fun q58 hq58 => ?_)
                        refine F.bind (x232_fr  _ _ Frm.refl) (fun q59 hq59 => ?_)
                        exact F.some (Frm.trans (Frm.trans h0 hq58 rfl) hq59 rfl)
                      · refine F.ite (fun _ => ?_) (fun _ => ?_)
                        · refine F.bind (x231_fr  _ _ Frm.refl) (fun q60 hq60 => ?_)
                          refine F.bind (x232_fr  _ _ Frm.refl) (fun q61 hq61 => ?_)
                          exact F.some (Frm.trans (Frm.trans h0 hq60 rfl) hq61 rfl)
                        · refine F.ite (fun _ => ?_) (fun _ => ?_)
                          · refine F.bind (x231_fr  _ _ Frm.refl) (fun q62 hq62 => ?_)
                            refine F.bind (x232_fr  _ _ Frm.refl) (fun q63 hq63 => ?_)
                            exact F.some (Frm.trans (Frm.trans h0 hq62 rfl) hq63 rfl)
                          · refine F.ite (fun _ => ?_) (fun _ => ?_)
                            · refine F.ite (fun _ => ?_) (fun _ => ?_)
                              · refine F.bind (x231_fr  _ _ Frm.refl) (fun q64 hq64 => ?_)
                                exact F.some (Frm.trans h0 hq64 rfl)
                              · refine F.ite (fun _ => ?_) (fun _ => ?_)
                                · refine F.ite (fun _ => ?_) (fun _ => ?_)
                                  · refine F.bind (x231_fr  _ _ Frm.refl) (fun q65 hq65 => ?_)
                                    exact F.some (Frm.trans h0 hq65 rfl)
                                  · refine F.ite (fun _ => ?_) (fun _ => ?_)
                                    · refine F.bind (x231_fr  _ _ Frm.refl) (fun q66 hq66 => ?_)
                                      exact F.some (Frm.trans h0 hq66 rfl)
                                    · refine F.ite (fun _ => ?_) (fun _ => ?_)
                                      · refine F.bind (x231_fr  _ _ Frm.refl) (fun q67 hq67 => ?_)
                                        exact F.some (Frm.trans h0 hq67 rfl)
                                      · refine F.ite (fun _ => ?_) (fun _ => ?_)
                                        · refine F.bind (x231_fr  _ _ Frm.refl) (fun q68 hq68 => ?_)
                                          refine F.bind (x231_fr  _ _ Frm.refl) (fun q69 hq69 => ?_)
                                          exact F.some (Frm.trans (Frm.trans h0 hq68 rfl) hq69 rfl)
                                        · refine F.ite (fun _ => ?_) (fun _ => ?_)
                                          · refine F.bind (x231_fr  _ _ Frm.refl) (fun q70 hq70 => ?_)
                                            refine F.bind (x231_fr  _ _ Frm.refl) (fun q71 hq71 => ?_)
                                            exact F.some (Frm.trans (Frm.trans h0 hq70 rfl) hq71 rfl)
                                          · refine F.bind (x234_fr (by decide) _ _ Frm.refl) (fun q72 hq72 => ?_)
                                            exact F.some (Frm.trans h0 hq72 rfl)
                                · refine F.ite (fun _ => ?_) (fun _ => ?_)
                                  · refine F.ite (fun _ => ?_) (fun _ => ?_)
                                    · refine F.bind (x231_fr  _ _ Frm.refl) (fun q73 hq73 => ?_)
                                      exact F.some (Frm.trans h0 hq73 rfl)
                                    · refine F.ite (fun _ => ?_) (fun _ => ?_)
                                      · refine F.bind (x231_fr  _ _ Frm.refl) (fun q74 hq74 => ?_)
                                        exact F.some (Frm.trans h0 hq74 rfl)
                                      · refine F.ite (fun _ => ?_) (fun _ => ?_)
                                        · refine F.bind (x231_fr  _ _ Frm.refl) (fun q75 hq75 => ?_)
                                          exact F.some (Frm.trans h0 hq75 rfl)
                                        · refine F.ite (fun _ => ?_) (fun _ => ?_)
                                          · refine F.bind (x231_fr  _ _ Frm.refl) (fun q76 hq76 => ?_)
                                            refine F.bind (x231_fr  _ _ Frm.refl) (fun q77 hq77 => ?_)
                                            exact F.some (Frm.trans (Frm.trans h0 hq76 rfl) hq77 rfl)
                                          · refine F.ite (fun _ => ?_) (fun _ => ?_)
                                            · refine F.bind (x231_fr  _ _ Frm.refl) (fun q78 hq78 => ?_)
                                              refine F.bind (x231_fr  _ _ Frm.refl) (fun q79 hq79 => ?_)
                                              exact F.some (Frm.trans (Frm.trans h0 hq78 rfl) hq79 rfl)
                                            · refine F.bind (x234_fr (by decide) _ _ Frm.refl) (fun q80 hq80 => ?_)
                                              exact F.some (Frm.trans h0 hq80 rfl)
                                  · refine F.bind (x231_fr  _ _ Frm.refl) (fun q81 hq81 => ?_)
                                    refine F.bind (x231_fr  _ _ Frm.refl) (fun q82 hq82 => ?_)
                                    exact F.some (Frm.trans (Frm.trans h0 hq81 rfl) hq82 rfl)
                            · refine F.ite (fun _ => ?_) (fun _ => ?_)
                              · refine F.bind (x231_fr  _ _ Frm.refl) (fun q83 hq83 => ?_)
                                exact F.some (Frm.trans h0 hq83 rfl)
                              · refine F.ite (fun _ => ?_) (fun _ => ?_)
                                · refine F.bind (x231_fr  _ _ Frm.refl) (fun q84 hq84 => ?_)
                                  exact F.some (Frm.trans h0 hq84 rfl)
                                · refine F.ite (fun _ => ?_) (fun _ => ?_)
                                  · refine F.ite (fun _ => ?_) (fun _ => ?_)
                                    · refine F.bind (x231_fr  _ _ Frm.refl) (fun q85 hq85 => ?_)
                                      exact F.some (Frm.trans h0 hq85 rfl)
                                    · refine F.ite (fun _ => ?_) (fun _ => ?_)
                                      · refine F.bind (x231_fr  _ _ Frm.refl) (fun q86 hq86 => ?_)
                                        exact F.some (Frm.trans h0 hq86 rfl)
                                      · refine F.ite (fun _ => ?_) (fun _ => ?_)
                                        · refine F.bind (x231_fr  _ _ Frm.refl) (fun q87 hq87 => ?_)
                                          exact F.some (Frm.trans h0 hq87 rfl)
                                        · refine F.ite (fun _ => ?_) (fun _ => ?_)
                                          · refine F.bind (x231_fr  _ _ Frm.refl) (fun q88 hq88 => ?_)
                                            refine F.bind (x231_fr  _ _ Frm.refl) (fun q89 hq89 => ?_)
                                            exact F.some (Frm.trans (Frm.trans h0 hq88 rfl) hq89 rfl)
                                          · refine F.ite (fun _ => ?_) (fun _ => ?_)
                                            · refine F.bind (x231_fr  _ _ Frm.refl) (fun q90 hq90 => ?_)
                                              refine F.bind (x231_fr  _ _ Frm.refl) (fun q91 hq91 => ?_)
                                              exact F.some (Frm.trans (Frm.trans h0 hq90 rfl) hq91 rfl)
                                            · refine F.bind (x234_fr (by decide) _ _ Frm.refl) (fun q92 hq92 => ?_)
                                              exact F.some (Frm.trans h0 hq92 rfl)
                                  · refine F.ite (fun _ => ?_) (fun _ => ?_)
                                    · refine F.ite (fun _ => ?_) (fun _ => ?_)
                                      · refine F.bind (x231_fr  _ _ Frm.refl) (fun q93 hq93 => ?_)
                                        exact F.some (Frm.trans h0 hq93 rfl)
                                      · refine F.ite (fun _ => ?_) (fun _ => ?_)
                                        · refine F.bind (x231_fr  _ _ Frm.refl) (fun q94 hq94 => ?_)
                                          exact F.some (Frm.trans h0 hq94 rfl)
                                        · refine F.ite (fun _ => ?_) (fun _ => ?_)
                                          · refine F.bind (x231_fr  _ _ Frm.refl) (fun q95 hq95 => ?_)
                                            exact F.some (Frm.trans h0 hq95 rfl)
                                          · refine F.ite (fun _ => ?_) (fun _ => ?_)
                                            · refine F.bind (x231_fr  _ _ Frm.refl) (fun q96 hq96 => ?_)
                                              refine F.bind (x231_fr  _ _ Frm.refl) (fun q97 hq97 => ?_)
                                              exact F.some (Frm.trans (Frm.trans h0 hq96 rfl) hq97 rfl)
                                            · refine F.ite (fun _ => ?_) (fun _ => ?_)
                                              · refine F.bind (x231_fr  _ _ Frm.refl) (fun q98 hq98 => ?_)
                                                refine F.bind (x231_fr  _ _ Frm.refl) (fun q99 hq99 => ?_)
                                                exact F.some (Frm.trans (Frm.trans h0 hq98 rfl) hq99 rfl)
                                              · refine F.bind (x234_fr (by decide) _ _ Frm.refl) (fun q100 hq100 => ?_)
                                                exact F.some (Frm.trans h0 hq100 rfl)
                                    · refine F.bind (x231_fr  _ _ Frm.refl) (fun q101 hq101 => ?_)
                                      refine F.bind (x231_fr  _ _ Frm.refl) (fun q102 hq102 => ?_)
                                      exact F.some (Frm.trans (Frm.trans h0 hq101 rfl) hq102 rfl)
                    · refine F.bind (x231_fr  _ _ Frm.refl) (fun q103 hq103 => ?_)
                      refine F.bind (x231_fr  _ _ Frm.refl) (fun q104 hq104 => ?_)
                      refine F.bind (x232_fr  _ _ Frm.refl) (fun q105 hq105 => ?_)
                      exact F.some (Frm.trans (Frm.trans (Frm.trans h0 hq103 rfl) hq104 rfl) hq105 rfl)
