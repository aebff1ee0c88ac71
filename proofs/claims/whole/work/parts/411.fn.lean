/-! FUNCTIONS OF METHODS, by program (wip/gen/all.py): 233 243 253 256 -/
/-- TaintHouseModel.effect(II)V -/
def x233 (Z : Nat) (I : St) (a1 a2 : Int32) : Option (St) := if a2 = 0 then (x232 I 1).bind fun q1 => some q1 else if a2 = 55 then (x232 I 1).bind fun q2 => some q2 else if a2 = 1 then (x232 I 2).bind fun q3 => some q3 else if a2 = 37 then (x232 I 2).bind fun q4 => some q4 else if a2 = 5 then (x231 I 0).bind fun q5 => (x232 q5.2 q5.1).bind fun q6 => (x232 q6 q5.1).bind fun q7 => some q7 else if a2 = 6 then (x231 I 0).bind fun q8 => some q8.2 else if a2 = 7 then (x231 I 0).bind fun q9 => (x231 q9.2 0).bind fun q10 => (x232 q10.2 q9.1).bind fun q11 => (x232 q11 q10.1).bind fun q12 => some q12 else if a2 < 8 then if a2 = 19 then (x231 I 1).bind fun q13 => (x232 q13.2 1).bind fun q14 => some q14 else if a2 = 57 then (x231 I 1).bind fun q15 => (x232 q15.2 1).bind fun q16 => some q16 else if a2 = 58 then (x231 I 1).bind fun q17 => (x232 q17.2 1).bind fun q18 => some q18 else if a2 < 21 then if a2 = 56 then (x231 I 1).bind fun q19 => some q19.2 else if a2 < 27 then if a2 = 33 then (x231 I 2).bind fun q20 => some q20.2 else if a2 = 34 then (x231 I 2).bind fun q21 => some q21.2 else if a2 = 52 then (x231 I 2).bind fun q22 => some q22.2 else if a2 = 35 then (x231 I 2).bind fun q23 => (x231 q23.2 2).bind fun q24 => some q24.2 else if a2 = 36 then (x231 I 2).bind fun q25 => (x231 q25.2 2).bind fun q26 => some q26.2 else (x234 Z I a1 a2).bind fun q27 => some q27 else if 32 < a2 then if a2 = 33 then (x231 I 2).bind fun q28 => some q28.2 else if a2 = 34 then (x231 I 2).bind fun q29 => some q29.2 else if a2 = 52 then (x231 I 2).bind fun q30 => some q30.2 else if a2 = 35 then (x231 I 2).bind fun q31 => (x231 q31.2 2).bind fun q32 => some q32.2 else if a2 = 36 then (x231 I 2).bind fun q33 => (x231 q33.2 2).bind fun q34 => some q34.2 else (x234 Z I a1 a2).bind fun q35 => some q35 else (x231 I 1).bind fun q36 => (x231 q36.2 1).bind fun q37 => some q37.2 else if a2 ≤ 26 then (x231 I 1).bind fun q38 => some q38.2 else if a2 = 56 then (x231 I 1).bind fun q39 => some q39.2 else if a2 < 27 then if a2 = 33 then (x231 I 2).bind fun q40 => some q40.2 else if a2 = 34 then (x231 I 2).bind fun q41 => some q41.2 else if a2 = 52 then (x231 I 2).bind fun q42 => some q42.2 else if a2 = 35 then (x231 I 2).bind fun q43 => (x231 q43.2 2).bind fun q44 => some q44.2 else if a2 = 36 then (x231 I 2).bind fun q45 => (x231 q45.2 2).bind fun q46 => some q46.2 else (x234 Z I a1 a2).bind fun q47 => some q47 else if 32 < a2 then if a2 = 33 then (x231 I 2).bind fun q48 => some q48.2 else if a2 = 34 then (x231 I 2).bind fun q49 => some q49.2 else if a2 = 52 then (x231 I 2).bind fun q50 => some q50.2 else if a2 = 35 then (x231 I 2).bind fun q51 => (x231 q51.2 2).bind fun q52 => some q52.2 else if a2 = 36 then (x231 I 2).bind fun q53 => (x231 q53.2 2).bind fun q54 => some q54.2 else (x234 Z I a1 a2).bind fun q55 => some q55 else (x231 I 1).bind fun q56 => (x231 q56.2 1).bind fun q57 => some q57.2 else if 18 < a2 then if a2 = 19 then (x231 I 1).bind fun q58 => (x232 q58.2 1).bind fun q59 => some q59 else if a2 = 57 then (x231 I 1).bind fun q60 => (x232 q60.2 1).bind fun q61 => some q61 else if a2 = 58 then (x231 I 1).bind fun q62 => (x232 q62.2 1).bind fun q63 => some q63 else if a2 < 21 then if a2 = 56 then (x231 I 1).bind fun q64 => some q64.2 else if a2 < 27 then if a2 = 33 then (x231 I 2).bind fun q65 => some q65.2 else if a2 = 34 then (x231 I 2).bind fun q66 => some q66.2 else if a2 = 52 then (x231 I 2).bind fun q67 => some q67.2 else if a2 = 35 then (x231 I 2).bind fun q68 => (x231 q68.2 2).bind fun q69 => some q69.2 else if a2 = 36 then (x231 I 2).bind fun q70 => (x231 q70.2 2).bind fun q71 => some q71.2 else (x234 Z I a1 a2).bind fun q72 => some q72 else if 32 < a2 then if a2 = 33 then (x231 I 2).bind fun q73 => some q73.2 else if a2 = 34 then (x231 I 2).bind fun q74 => some q74.2 else if a2 = 52 then (x231 I 2).bind fun q75 => some q75.2 else if a2 = 35 then (x231 I 2).bind fun q76 => (x231 q76.2 2).bind fun q77 => some q77.2 else if a2 = 36 then (x231 I 2).bind fun q78 => (x231 q78.2 2).bind fun q79 => some q79.2 else (x234 Z I a1 a2).bind fun q80 => some q80 else (x231 I 1).bind fun q81 => (x231 q81.2 1).bind fun q82 => some q82.2 else if a2 ≤ 26 then (x231 I 1).bind fun q83 => some q83.2 else if a2 = 56 then (x231 I 1).bind fun q84 => some q84.2 else if a2 < 27 then if a2 = 33 then (x231 I 2).bind fun q85 => some q85.2 else if a2 = 34 then (x231 I 2).bind fun q86 => some q86.2 else if a2 = 52 then (x231 I 2).bind fun q87 => some q87.2 else if a2 = 35 then (x231 I 2).bind fun q88 => (x231 q88.2 2).bind fun q89 => some q89.2 else if a2 = 36 then (x231 I 2).bind fun q90 => (x231 q90.2 2).bind fun q91 => some q91.2 else (x234 Z I a1 a2).bind fun q92 => some q92 else if 32 < a2 then if a2 = 33 then (x231 I 2).bind fun q93 => some q93.2 else if a2 = 34 then (x231 I 2).bind fun q94 => some q94.2 else if a2 = 52 then (x231 I 2).bind fun q95 => some q95.2 else if a2 = 35 then (x231 I 2).bind fun q96 => (x231 q96.2 2).bind fun q97 => some q97.2 else if a2 = 36 then (x231 I 2).bind fun q98 => (x231 q98.2 2).bind fun q99 => some q99.2 else (x234 Z I a1 a2).bind fun q100 => some q100 else (x231 I 1).bind fun q101 => (x231 q101.2 1).bind fun q102 => some q102.2 else (x231 I 1).bind fun q103 => (x231 q103.2 1).bind fun q104 => (x232 q104.2 1).bind fun q105 => some q105
set_option maxRecDepth 20000 in
theorem x233_D {E : Xe} {R : Nat → Nat → Option Nat} {Z : Nat} {o : Outcome} {w : Wd} {T : (St) → Prop} {I : St} (hZ : Z = 85 ∨ Z = 126) (h82_4 : R 82 4 = some Z) (a1 a2 : Int32) (hT : ∀ r, T r → o = .returned none ∧ w = wT r R) : Dq (x233 Z I a1 a2) T → Rn E 233 (0, loc0 233 [.ref 82, .int a1, .int a2], [], wT I R) o w := by
  unfold x233
  rcases hZ with rfl | rfl
  all_goals
    refine D.run 1 rfl ?_
    refine D.br rfl (by decide) rfl (fun hc => ?_) (fun hc => ?_)
    · refine D.run 2 rfl ?_
      refine D.call rfl rfl rfl rfl (fun q h => x232_ok h) (fun q1 => ?_)
      refine D.run 1 rfl ?_
      exact fun h => by obtain ⟨rfl, rfl⟩ := hT _ (D.some h); exact Rn.ret rfl rfl rfl
    · refine D.run 2 rfl ?_
      refine D.br rfl (by decide) rfl (fun hc => ?_) (fun hc => ?_)
      · refine D.run 2 rfl ?_
        refine D.call rfl rfl rfl rfl (fun q h => x232_ok h) (fun q2 => ?_)
        refine D.run 1 rfl ?_
        exact fun h => by obtain ⟨rfl, rfl⟩ := hT _ (D.some h); exact Rn.ret rfl rfl rfl
      · refine D.run 2 rfl ?_
        refine D.br rfl (by decide) rfl (fun hc => ?_) (fun hc => ?_)
        · refine D.run 2 rfl ?_
          refine D.call rfl rfl rfl rfl (fun q h => x232_ok h) (fun q3 => ?_)
          refine D.run 1 rfl ?_
          exact fun h => by obtain ⟨rfl, rfl⟩ := hT _ (D.some h); exact Rn.ret rfl rfl rfl
        · refine D.run 2 rfl ?_
          refine D.br rfl (by decide) rfl (fun hc => ?_) (fun hc => ?_)
          · refine D.run 2 rfl ?_
            refine D.call rfl rfl rfl rfl (fun q h => x232_ok h) (fun q4 => ?_)
            refine D.run 1 rfl ?_
            exact fun h => by obtain ⟨rfl, rfl⟩ := hT _ (D.some h); exact Rn.ret rfl rfl rfl
          · refine D.run 2 rfl ?_
            refine D.br rfl (by decide) rfl (fun hc => ?_) (fun hc => ?_)
            · refine D.run 2 rfl ?_
              refine D.call rfl rfl rfl rfl (fun q h => x231_ok h) (fun q5 => ?_)
              refine D.run 3 rfl ?_
              refine D.call rfl rfl rfl rfl (fun q h => x232_ok h) (fun q6 => ?_)
              refine D.run 2 rfl ?_
              refine D.call rfl rfl rfl rfl (fun q h => x232_ok h) (fun q7 => ?_)
              show _ → Rn E 233 (58, [.ref 82, .int a1, .int a2, .int q5.1, us], [], wT q7 R) o w
              refine D.run 1 rfl ?_
              exact fun h => by obtain ⟨rfl, rfl⟩ := hT _ (D.some h); exact Rn.ret rfl rfl rfl
            · refine D.run 2 rfl ?_
              refine D.br rfl (by decide) rfl (fun hc => ?_) (fun hc => ?_)
              · refine D.run 2 rfl ?_
                refine D.call rfl rfl rfl rfl (fun q h => x231_ok h) (fun q8 => ?_)
                refine D.run 2 rfl ?_
                exact fun h => by obtain ⟨rfl, rfl⟩ := hT _ (D.some h); exact Rn.ret rfl rfl rfl
              · refine D.run 2 rfl ?_
                refine D.br rfl (by decide) rfl (fun hc => ?_) (fun hc => ?_)
                · refine D.run 2 rfl ?_
                  refine D.call rfl rfl rfl rfl (fun q h => x231_ok h) (fun q9 => ?_)
                  refine D.run 3 rfl ?_
                  refine D.call rfl rfl rfl rfl (fun q h => x231_ok h) (fun q10 => ?_)
                  refine D.run 3 rfl ?_
                  refine D.call rfl rfl rfl rfl (fun q h => x232_ok h) (fun q11 => ?_)
                  show _ → Rn E 233 (100, [.ref 82, .int a1, .int a2, .int q9.1, .int q10.1], [], wT q11 R) o w
                  refine D.run 2 rfl ?_
                  refine D.call rfl rfl rfl rfl (fun q h => x232_ok h) (fun q12 => ?_)
                  refine D.run 1 rfl ?_
                  exact fun h => by obtain ⟨rfl, rfl⟩ := hT _ (D.some h); exact Rn.ret rfl rfl rfl
                · refine D.run 2 rfl ?_
                  refine D.br rfl (by decide) rfl (fun hc => ?_) (fun hc => ?_)
                  · refine D.run 2 rfl ?_
                    refine D.br rfl (by decide) rfl (fun hc => ?_) (fun hc => ?_)
                    · refine D.run 2 rfl ?_
                      refine D.call rfl rfl rfl rfl (fun q h => x231_ok h) (fun q13 => ?_)
                      refine D.run 3 rfl ?_
                      refine D.call rfl rfl rfl rfl (fun q h => x232_ok h) (fun q14 => ?_)
                      refine D.run 1 rfl ?_
                      exact fun h => by obtain ⟨rfl, rfl⟩ := hT _ (D.some h); exact Rn.ret rfl rfl rfl
                    · refine D.run 2 rfl ?_
                      refine D.br rfl (by decide) rfl (fun hc => ?_) (fun hc => ?_)
                      · refine D.run 2 rfl ?_
                        refine D.call rfl rfl rfl rfl (fun q h => x231_ok h) (fun q15 => ?_)
                        refine D.run 3 rfl ?_
                        refine D.call rfl rfl rfl rfl (fun q h => x232_ok h) (fun q16 => ?_)
                        refine D.run 1 rfl ?_
                        exact fun h => by obtain ⟨rfl, rfl⟩ := hT _ (D.some h); exact Rn.ret rfl rfl rfl
                      · refine D.run 2 rfl ?_
                        refine D.br rfl (by decide) rfl (fun hc => ?_) (fun hc => ?_)
                        · refine D.run 2 rfl ?_
                          refine D.call rfl rfl rfl rfl (fun q h => x231_ok h) (fun q17 => ?_)
                          refine D.run 3 rfl ?_
                          refine D.call rfl rfl rfl rfl (fun q h => x232_ok h) (fun q18 => ?_)
                          refine D.run 1 rfl ?_
                          exact fun h => by obtain ⟨rfl, rfl⟩ := hT _ (D.some h); exact Rn.ret rfl rfl rfl
                        · refine D.run 2 rfl ?_
                          refine D.br rfl (by decide) rfl (fun hc => ?_) (fun hc => ?_)
                          · refine D.run 2 rfl ?_
                            refine D.br rfl (by decide) rfl (fun hc => ?_) (fun hc => ?_)
                            · refine D.run 2 rfl ?_
                              refine D.call rfl rfl rfl rfl (fun q h => x231_ok h) (fun q19 => ?_)
                              refine D.run 2 rfl ?_
                              exact fun h => by obtain ⟨rfl, rfl⟩ := hT _ (D.some h); exact Rn.ret rfl rfl rfl
                            · refine D.run 2 rfl ?_
                              refine D.br rfl (by decide) rfl (fun hc => ?_) (fun hc => ?_)
                              · refine D.run 2 rfl ?_
                                refine D.br rfl (by decide) rfl (fun hc => ?_) (fun hc => ?_)
                                · refine D.run 2 rfl ?_
                                  refine D.call rfl rfl rfl rfl (fun q h => x231_ok h) (fun q20 => ?_)
                                  refine D.run 2 rfl ?_
                                  exact fun h => by obtain ⟨rfl, rfl⟩ := hT _ (D.some h); exact Rn.ret rfl rfl rfl
                                · refine D.run 2 rfl ?_
                                  refine D.br rfl (by decide) rfl (fun hc => ?_) (fun hc => ?_)
                                  · refine D.run 2 rfl ?_
                                    refine D.call rfl rfl rfl rfl (fun q h => x231_ok h) (fun q21 => ?_)
                                    refine D.run 2 rfl ?_
                                    exact fun h => by obtain ⟨rfl, rfl⟩ := hT _ (D.some h); exact Rn.ret rfl rfl rfl
                                  · refine D.run 2 rfl ?_
                                    refine D.br rfl (by decide) rfl (fun hc => ?_) (fun hc => ?_)
                                    · refine D.run 2 rfl ?_
                                      refine D.call rfl rfl rfl rfl (fun q h => x231_ok h) (fun q22 => ?_)
                                      refine D.run 2 rfl ?_
                                      exact fun h => by obtain ⟨rfl, rfl⟩ := hT _ (D.some h); exact Rn.ret rfl rfl rfl
                                    · refine D.run 2 rfl ?_
                                      refine D.br rfl (by decide) rfl (fun hc => ?_) (fun hc => ?_)
                                      · refine D.run 2 rfl ?_
                                        refine D.call rfl rfl rfl rfl (fun q h => x231_ok h) (fun q23 => ?_)
                                        refine D.run 3 rfl ?_
                                        refine D.call rfl rfl rfl rfl (fun q h => x231_ok h) (fun q24 => ?_)
                                        refine D.run 2 rfl ?_
                                        exact fun h => by obtain ⟨rfl, rfl⟩ := hT _ (D.some h); exact Rn.ret rfl rfl rfl
                                      · refine D.run 2 rfl ?_
                                        refine D.br rfl (by decide) rfl (fun hc => ?_) (fun hc => ?_)
                                        · refine D.run 2 rfl ?_
                                          refine D.call rfl rfl rfl rfl (fun q h => x231_ok h) (fun q25 => ?_)
                                          refine D.run 3 rfl ?_
                                          refine D.call rfl rfl rfl rfl (fun q h => x231_ok h) (fun q26 => ?_)
                                          refine D.run 2 rfl ?_
                                          exact fun h => by obtain ⟨rfl, rfl⟩ := hT _ (D.some h); exact Rn.ret rfl rfl rfl
                                        · refine D.run 3 rfl ?_
                                          refine D.call rfl rfl rfl rfl (fun q h => x234_ok (by decide) h82_4 h) (fun q27 => ?_)
                                          exact fun h => by obtain ⟨rfl, rfl⟩ := hT _ (D.some h); exact Rn.ret rfl rfl rfl
                              · refine D.run 2 rfl ?_
                                refine D.br rfl (by decide) rfl (fun hc => ?_) (fun hc => ?_)
                                · refine D.run 2 rfl ?_
                                  refine D.br rfl (by decide) rfl (fun hc => ?_) (fun hc => ?_)
                                  · refine D.run 2 rfl ?_
                                    refine D.call rfl rfl rfl rfl (fun q h => x231_ok h) (fun q28 => ?_)
                                    refine D.run 2 rfl ?_
                                    exact fun h => by obtain ⟨rfl, rfl⟩ := hT _ (D.some h); exact Rn.ret rfl rfl rfl
                                  · refine D.run 2 rfl ?_
                                    refine D.br rfl (by decide) rfl (fun hc => ?_) (fun hc => ?_)
                                    · refine D.run 2 rfl ?_
                                      refine D.call rfl rfl rfl rfl (fun q h => x231_ok h) (fun q29 => ?_)
                                      refine D.run 2 rfl ?_
                                      exact fun h => by obtain ⟨rfl, rfl⟩ := hT _ (D.some h); exact Rn.ret rfl rfl rfl
                                    · refine D.run 2 rfl ?_
                                      refine D.br rfl (by decide) rfl (fun hc => ?_) (fun hc => ?_)
                                      · refine D.run 2 rfl ?_
                                        refine D.call rfl rfl rfl rfl (fun q h => x231_ok h) (fun q30 => ?_)
                                        refine D.run 2 rfl ?_
                                        exact fun h => by obtain ⟨rfl, rfl⟩ := hT _ (D.some h); exact Rn.ret rfl rfl rfl
                                      · refine D.run 2 rfl ?_
                                        refine D.br rfl (by decide) rfl (fun hc => ?_) (fun hc => ?_)
                                        · refine D.run 2 rfl ?_
                                          refine D.call rfl rfl rfl rfl (fun q h => x231_ok h) (fun q31 => ?_)
                                          refine D.run 3 rfl ?_
                                          refine D.call rfl rfl rfl rfl (fun q h => x231_ok h) (fun q32 => ?_)
                                          refine D.run 2 rfl ?_
                                          exact fun h => by obtain ⟨rfl, rfl⟩ := hT _ (D.some h); exact Rn.ret rfl rfl rfl
                                        · refine D.run 2 rfl ?_
                                          refine D.br rfl (by decide) rfl (fun hc => ?_) (fun hc => ?_)
                                          · refine D.run 2 rfl ?_
                                            refine D.call rfl rfl rfl rfl (fun q h => x231_ok h) (fun q33 => ?_)
                                            refine D.run 3 rfl ?_
                                            refine D.call rfl rfl rfl rfl (fun q h => x231_ok h) (fun q34 => ?_)
                                            refine D.run 2 rfl ?_
                                            exact fun h => by obtain ⟨rfl, rfl⟩ := hT _ (D.some h); exact Rn.ret rfl rfl rfl
                                          · refine D.run 3 rfl ?_
                                            refine D.call rfl rfl rfl rfl (fun q h => x234_ok (by decide) h82_4 h) (fun q35 => ?_)
                                            exact fun h => by obtain ⟨rfl, rfl⟩ := hT _ (D.some h); exact Rn.ret rfl rfl rfl
                                · refine D.run 2 rfl ?_
                                  refine D.call rfl rfl rfl rfl (fun q h => x231_ok h) (fun q36 => ?_)
                                  refine D.run 3 rfl ?_
                                  refine D.call rfl rfl rfl rfl (fun q h => x231_ok h) (fun q37 => ?_)
                                  refine D.run 2 rfl ?_
                                  exact fun h => by obtain ⟨rfl, rfl⟩ := hT _ (D.some h); exact Rn.ret rfl rfl rfl
                          · refine D.run 2 rfl ?_
                            refine D.br rfl (by decide) rfl (fun hc => ?_) (fun hc => ?_)
                            · refine D.run 2 rfl ?_
                              refine D.call rfl rfl rfl rfl (fun q h => x231_ok h) (fun q38 => ?_)
                              refine D.run 2 rfl ?_
                              exact fun h => by obtain ⟨rfl, rfl⟩ := hT _ (D.some h); exact Rn.ret rfl rfl rfl
                            · refine D.run 2 rfl ?_
                              refine D.br rfl (by decide) rfl (fun hc => ?_) (fun hc => ?_)
                              · refine D.run 2 rfl ?_
                                refine D.call rfl rfl rfl rfl (fun q h => x231_ok h) (fun q39 => ?_)
                                refine D.run 2 rfl ?_
                                exact fun h => by obtain ⟨rfl, rfl⟩ := hT _ (D.some h); exact Rn.ret rfl rfl rfl
                              · refine D.run 2 rfl ?_
                                refine D.br rfl (by decide) rfl (fun hc => ?_) (fun hc => ?_)
                                · refine D.run 2 rfl ?_
                                  refine D.br rfl (by decide) rfl (fun hc => ?_) (fun hc => ?_)
                                  · refine D.run 2 rfl ?_
                                    refine D.call rfl rfl rfl rfl (fun q h => x231_ok h) (fun q40 => ?_)
                                    refine D.run 2 rfl ?_
                                    exact fun h => by obtain ⟨rfl, rfl⟩ := hT _ (D.some h); exact Rn.ret rfl rfl rfl
                                  · refine D.run 2 rfl ?_
                                    refine D.br rfl (by decide) rfl (fun hc => ?_) (fun hc => ?_)
                                    · refine D.run 2 rfl ?_
                                      refine D.call rfl rfl rfl rfl (fun q h => x231_ok h) (fun q41 => ?_)
                                      refine D.run 2 rfl ?_
                                      exact fun h => by obtain ⟨rfl, rfl⟩ := hT _ (D.some h); exact Rn.ret rfl rfl rfl
                                    · refine D.run 2 rfl ?_
                                      refine D.br rfl (by decide) rfl (fun hc => ?_) (fun hc => ?_)
                                      · refine D.run 2 rfl ?_
                                        refine D.call rfl rfl rfl rfl (fun q h => x231_ok h) (fun q42 => ?_)
                                        refine D.run 2 rfl ?_
                                        exact fun h => by obtain ⟨rfl, rfl⟩ := hT _ (D.some h); exact Rn.ret rfl rfl rfl
                                      · refine D.run 2 rfl ?_
                                        refine D.br rfl (by decide) rfl (fun hc => ?_) (fun hc => ?_)
                                        · refine D.run 2 rfl ?_
                                          refine D.call rfl rfl rfl rfl (fun q h => x231_ok h) (fun q43 => ?_)
                                          refine D.run 3 rfl ?_
                                          refine D.call rfl rfl rfl rfl (fun q h => x231_ok h) (fun q44 => ?_)
                                          refine D.run 2 rfl ?_
                                          exact fun h => by obtain ⟨rfl, rfl⟩ := hT _ (D.some h); exact Rn.ret rfl rfl rfl
                                        · refine D.run 2 rfl ?_
                                          refine D.br rfl (by decide) rfl (fun hc => ?_) (fun hc => ?_)
                                          · refine D.run 2 rfl ?_
                                            refine D.call rfl rfl rfl rfl (fun q h => x231_ok h) (fun q45 => ?_)
                                            refine D.run 3 rfl ?_
                                            refine D.call rfl rfl rfl rfl (fun q h => x231_ok h) (fun q46 => ?_)
                                            refine D.run 2 rfl ?_
                                            exact fun h => by obtain ⟨rfl, rfl⟩ := hT _ (D.some h); exact Rn.ret rfl rfl rfl
                                          · refine D.run 3 rfl ?_
                                            refine D.call rfl rfl rfl rfl (fun q h => x234_ok (by decide) h82_4 h) (fun q47 => ?_)
                                            exact fun h => by obtain ⟨rfl, rfl⟩ := hT _ (D.some h); exact Rn.ret rfl rfl rfl
                                · refine D.run 2 rfl ?_
                                  refine D.br rfl (by decide) rfl (fun hc => ?_) (fun hc => ?_)
                                  · refine D.run 2 rfl ?_
                                    refine D.br rfl (by decide) rfl (fun hc => ?_) (fun hc => ?_)
                                    · refine D.run 2 rfl ?_
                                      refine D.call rfl rfl rfl rfl (fun q h => x231_ok h) (fun q48 => ?_)
                                      refine D.run 2 rfl ?_
                                      exact fun h => by obtain ⟨rfl, rfl⟩ := hT _ (D.some h); exact Rn.ret rfl rfl rfl
                                    · refine D.run 2 rfl ?_
                                      refine D.br rfl (by decide) rfl (fun hc => ?_) (fun hc => ?_)
                                      · refine D.run 2 rfl ?_
                                        refine D.call rfl rfl rfl rfl (fun q h => x231_ok h) (fun q49 => ?_)
                                        refine D.run 2 rfl ?_
                                        exact fun h => by obtain ⟨rfl, rfl⟩ := hT _ (D.some h); exact Rn.ret rfl rfl rfl
                                      · refine D.run 2 rfl ?_
                                        refine D.br rfl (by decide) rfl (fun hc => ?_) (fun hc => ?_)
                                        · refine D.run 2 rfl ?_
                                          refine D.call rfl rfl rfl rfl (fun q h => x231_ok h) (fun q50 => ?_)
                                          refine D.run 2 rfl ?_
                                          exact fun h => by obtain ⟨rfl, rfl⟩ := hT _ (D.some h); exact Rn.ret rfl rfl rfl
                                        · refine D.run 2 rfl ?_
                                          refine D.br rfl (by decide) rfl (fun hc => ?_) (fun hc => ?_)
                                          · refine D.run 2 rfl ?_
                                            refine D.call rfl rfl rfl rfl (fun q h => x231_ok h) (fun q51 => ?_)
                                            refine D.run 3 rfl ?_
                                            refine D.call rfl rfl rfl rfl (fun q h => x231_ok h) (fun q52 => ?_)
                                            refine D.run 2 rfl ?_
                                            exact fun h => by obtain ⟨rfl, rfl⟩ := hT _ (D.some h); exact Rn.ret rfl rfl rfl
                                          · refine D.run 2 rfl ?_
                                            refine D.br rfl (by decide) rfl (fun hc => ?_) (fun hc => ?_)
                                            · refine D.run 2 rfl ?_
                                              refine D.call rfl rfl rfl rfl (fun q h => x231_ok h) (fun q53 => ?_)
                                              refine D.run 3 rfl ?_
                                              refine D.call rfl rfl rfl rfl (fun q h => x231_ok h) (fun q54 => ?_)
                                              refine D.run 2 rfl ?_
                                              exact fun h => by obtain ⟨rfl, rfl⟩ := hT _ (D.some h); exact Rn.ret rfl rfl rfl
                                            · refine D.run 3 rfl ?_
                                              refine D.call rfl rfl rfl rfl (fun q h => x234_ok (by decide) h82_4 h) (fun q55 => ?_)
                                              exact fun h => by obtain ⟨rfl, rfl⟩ := hT _ (D.some h); exact Rn.ret rfl rfl rfl
                                  · refine D.run 2 rfl ?_
                                    refine D.call rfl rfl rfl rfl (fun q h => x231_ok h) (fun q56 => ?_)
                                    refine D.run 3 rfl ?_
                                    refine D.call rfl rfl rfl rfl (fun q h => x231_ok h) (fun q57 => ?_)
                                    refine D.run 2 rfl ?_
                                    exact fun h => by obtain ⟨rfl, rfl⟩ := hT _ (D.some h); exact Rn.ret rfl rfl rfl
                  · refine D.run 2 rfl ?_
                    refine D.br rfl (by decide) rfl (fun hc => ?_) (fun hc => ?_)
                    · refine D.run 2 rfl ?_
                      refine D.br rfl (by decide) rfl (fun hc => ?_) (fun hc => ?_)
                      · refine D.run 2 rfl ?_
                        refine D.call rfl rfl rfl rfl (fun q h => x231_ok h) (fun q58 => ?_)
                        refine D.run 3 rfl ?_
                        refine D.call rfl rfl rfl rfl (fun q h => x232_ok h) (fun q59 => ?_)
                        refine D.run 1 rfl ?_
                        exact fun h => by obtain ⟨rfl, rfl⟩ := hT _ (D.some h); exact Rn.ret rfl rfl rfl
                      · refine D.run 2 rfl ?_
                        refine D.br rfl (by decide) rfl (fun hc => ?_) (fun hc => ?_)
                        · refine D.run 2 rfl ?_
                          refine D.call rfl rfl rfl rfl (fun q h => x231_ok h) (fun q60 => ?_)
                          refine D.run 3 rfl ?_
                          refine D.call rfl rfl rfl rfl (fun q h => x232_ok h) (fun q61 => ?_)
                          refine D.run 1 rfl ?_
                          exact fun h => by obtain ⟨rfl, rfl⟩ := hT _ (D.some h); exact Rn.ret rfl rfl rfl
                        · refine D.run 2 rfl ?_
                          refine D.br rfl (by decide) rfl (fun hc => ?_) (fun hc => ?_)
                          · refine D.run 2 rfl ?_
                            refine D.call rfl rfl rfl rfl (fun q h => x231_ok h) (fun q62 => ?_)
                            refine D.run 3 rfl ?_
                            refine D.call rfl rfl rfl rfl (fun q h => x232_ok h) (fun q63 => ?_)
                            refine D.run 1 rfl ?_
                            exact fun h => by obtain ⟨rfl, rfl⟩ := hT _ (D.some h); exact Rn.ret rfl rfl rfl
                          · refine D.run 2 rfl ?_
                            refine D.br rfl (by decide) rfl (fun hc => ?_) (fun hc => ?_)
                            · refine D.run 2 rfl ?_
                              refine D.br rfl (by decide) rfl (fun hc => ?_) (fun hc => ?_)
                              · refine D.run 2 rfl ?_
                                refine D.call rfl rfl rfl rfl (fun q h => x231_ok h) (fun q64 => ?_)
                                refine D.run 2 rfl ?_
                                exact fun h => by obtain ⟨rfl, rfl⟩ := hT _ (D.some h); exact Rn.ret rfl rfl rfl
                              · refine D.run 2 rfl ?_
                                refine D.br rfl (by decide) rfl (fun hc => ?_) (fun hc => ?_)
                                · refine D.run 2 rfl ?_
                                  refine D.br rfl (by decide) rfl (fun hc => ?_) (fun hc => ?_)
                                  · refine D.run 2 rfl ?_
                                    refine D.call rfl rfl rfl rfl (fun q h => x231_ok h) (fun q65 => ?_)
                                    refine D.run 2 rfl ?_
                                    exact fun h => by obtain ⟨rfl, rfl⟩ := hT _ (D.some h); exact Rn.ret rfl rfl rfl
                                  · refine D.run 2 rfl ?_
                                    refine D.br rfl (by decide) rfl (fun hc => ?_) (fun hc => ?_)
                                    · refine D.run 2 rfl ?_
                                      refine D.call rfl rfl rfl rfl (fun q h => x231_ok h) (fun q66 => ?_)
                                      refine D.run 2 rfl ?_
                                      exact fun h => by obtain ⟨rfl, rfl⟩ := hT _ (D.some h); exact Rn.ret rfl rfl rfl
                                    · refine D.run 2 rfl ?_
                                      refine D.br rfl (by decide) rfl (fun hc => ?_) (fun hc => ?_)
                                      · refine D.run 2 rfl ?_
                                        refine D.call rfl rfl rfl rfl (fun q h => x231_ok h) (fun q67 => ?_)
                                        refine D.run 2 rfl ?_
                                        exact fun h => by obtain ⟨rfl, rfl⟩ := hT _ (D.some h); exact Rn.ret rfl rfl rfl
                                      · refine D.run 2 rfl ?_
                                        refine D.br rfl (by decide) rfl (fun hc => ?_) (fun hc => ?_)
                                        · refine D.run 2 rfl ?_
                                          refine D.call rfl rfl rfl rfl (fun q h => x231_ok h) (fun q68 => ?_)
                                          refine D.run 3 rfl ?_
                                          refine D.call rfl rfl rfl rfl (fun q h => x231_ok h) (fun q69 => ?_)
                                          refine D.run 2 rfl ?_
                                          exact fun h => by obtain ⟨rfl, rfl⟩ := hT _ (D.some h); exact Rn.ret rfl rfl rfl
                                        · refine D.run 2 rfl ?_
                                          refine D.br rfl (by decide) rfl (fun hc => ?_) (fun hc => ?_)
                                          · refine D.run 2 rfl ?_
                                            refine D.call rfl rfl rfl rfl (fun q h => x231_ok h) (fun q70 => ?_)
                                            refine D.run 3 rfl ?_
                                            refine D.call rfl rfl rfl rfl (fun q h => x231_ok h) (fun q71 => ?_)
                                            refine D.run 2 rfl ?_
                                            exact fun h => by obtain ⟨rfl, rfl⟩ := hT _ (D.some h); exact Rn.ret rfl rfl rfl
                                          · refine D.run 3 rfl ?_
                                            refine D.call rfl rfl rfl rfl (fun q h => x234_ok (by decide) h82_4 h) (fun q72 => ?_)
                                            exact fun h => by obtain ⟨rfl, rfl⟩ := hT _ (D.some h); exact Rn.ret rfl rfl rfl
                                · refine D.run 2 rfl ?_
                                  refine D.br rfl (by decide) rfl (fun hc => ?_) (fun hc => ?_)
                                  · refine D.run 2 rfl ?_
                                    refine D.br rfl (by decide) rfl (fun hc => ?_) (fun hc => ?_)
                                    · refine D.run 2 rfl ?_
                                      refine D.call rfl rfl rfl rfl (fun q h => x231_ok h) (fun q73 => ?_)
                                      refine D.run 2 rfl ?_
                                      exact fun h => by obtain ⟨rfl, rfl⟩ := hT _ (D.some h); exact Rn.ret rfl rfl rfl
                                    · refine D.run 2 rfl ?_
                                      refine D.br rfl (by decide) rfl (fun hc => ?_) (fun hc => ?_)
                                      · refine D.run 2 rfl ?_
                                        refine D.call rfl rfl rfl rfl (fun q h => x231_ok h) (fun q74 => ?_)
                                        refine D.run 2 rfl ?_
                                        exact fun h => by obtain ⟨rfl, rfl⟩ := hT _ (D.some h); exact Rn.ret rfl rfl rfl
                                      · refine D.run 2 rfl ?_
                                        refine D.br rfl (by decide) rfl (fun hc => ?_) (fun hc => ?_)
                                        · refine D.run 2 rfl ?_
                                          refine D.call rfl rfl rfl rfl (fun q h => x231_ok h) (fun q75 => ?_)
                                          refine D.run 2 rfl ?_
                                          exact fun h => by obtain ⟨rfl, rfl⟩ := hT _ (D.some h); exact Rn.ret rfl rfl rfl
                                        · refine D.run 2 rfl ?_
                                          refine D.br rfl (by decide) rfl (fun hc => ?_) (fun hc => ?_)
                                          · refine D.run 2 rfl ?_
                                            refine D.call rfl rfl rfl rfl (fun q h => x231_ok h) (fun q76 => ?_)
                                            refine D.run 3 rfl ?_
                                            refine D.call rfl rfl rfl rfl (fun q h => x231_ok h) (fun q77 => ?_)
                                            refine D.run 2 rfl ?_
                                            exact fun h => by obtain ⟨rfl, rfl⟩ := hT _ (D.some h); exact Rn.ret rfl rfl rfl
                                          · refine D.run 2 rfl ?_
                                            refine D.br rfl (by decide) rfl (fun hc => ?_) (fun hc => ?_)
                                            · refine D.run 2 rfl ?_
                                              refine D.call rfl rfl rfl rfl (fun q h => x231_ok h) (fun q78 => ?_)
                                              refine D.run 3 rfl ?_
                                              refine D.call rfl rfl rfl rfl (fun q h => x231_ok h) (fun q79 => ?_)
                                              refine D.run 2 rfl ?_
                                              exact fun h => by obtain ⟨rfl, rfl⟩ := hT _ (D.some h); exact Rn.ret rfl rfl rfl
                                            · refine D.run 3 rfl ?_
                                              refine D.call rfl rfl rfl rfl (fun q h => x234_ok (by decide) h82_4 h) (fun q80 => ?_)
                                              exact fun h => by obtain ⟨rfl, rfl⟩ := hT _ (D.some h); exact Rn.ret rfl rfl rfl
                                  · refine D.run 2 rfl ?_
                                    refine D.call rfl rfl rfl rfl (fun q h => x231_ok h) (fun q81 => ?_)
                                    refine D.run 3 rfl ?_
                                    refine D.call rfl rfl rfl rfl (fun q h => x231_ok h) (fun q82 => ?_)
                                    refine D.run 2 rfl ?_
                                    exact fun h => by obtain ⟨rfl, rfl⟩ := hT _ (D.some h); exact Rn.ret rfl rfl rfl
                            · refine D.run 2 rfl ?_
                              refine D.br rfl (by decide) rfl (fun hc => ?_) (fun hc => ?_)
                              · refine D.run 2 rfl ?_
                                refine D.call rfl rfl rfl rfl (fun q h => x231_ok h) (fun q83 => ?_)
                                refine D.run 2 rfl ?_
                                exact fun h => by obtain ⟨rfl, rfl⟩ := hT _ (D.some h); exact Rn.ret rfl rfl rfl
                              · refine D.run 2 rfl ?_
                                refine D.br rfl (by decide) rfl (fun hc => ?_) (fun hc => ?_)
                                · refine D.run 2 rfl ?_
                                  refine D.call rfl rfl rfl rfl (fun q h => x231_ok h) (fun q84 => ?_)
                                  refine D.run 2 rfl ?_
                                  exact fun h => by obtain ⟨rfl, rfl⟩ := hT _ (D.some h); exact Rn.ret rfl rfl rfl
                                · refine D.run 2 rfl ?_
                                  refine D.br rfl (by decide) rfl (fun hc => ?_) (fun hc => ?_)
                                  · refine D.run 2 rfl ?_
                                    refine D.br rfl (by decide) rfl (fun hc => ?_) (fun hc => ?_)
                                    · refine D.run 2 rfl ?_
                                      refine D.call rfl rfl rfl rfl (fun q h => x231_ok h) (fun q85 => ?_)
                                      refine D.run 2 rfl ?_
                                      exact fun h => by obtain ⟨rfl, rfl⟩ := hT _ (D.some h); exact Rn.ret rfl rfl rfl
                                    · refine D.run 2 rfl ?_
                                      refine D.br rfl (by decide) rfl (fun hc => ?_) (fun hc => ?_)
                                      · refine D.run 2 rfl ?_
                                        refine D.call rfl rfl rfl rfl (fun q h => x231_ok h) (fun q86 => ?_)
                                        refine D.run 2 rfl ?_
                                        exact fun h => by obtain ⟨rfl, rfl⟩ := hT _ (D.some h); exact Rn.ret rfl rfl rfl
                                      · refine D.run 2 rfl ?_
                                        refine D.br rfl (by decide) rfl (fun hc => ?_) (fun hc => ?_)
                                        · refine D.run 2 rfl ?_
                                          refine D.call rfl rfl rfl rfl (fun q h => x231_ok h) (fun q87 => ?_)
                                          refine D.run 2 rfl ?_
                                          exact fun h => by obtain ⟨rfl, rfl⟩ := hT _ (D.some h); exact Rn.ret rfl rfl rfl
                                        · refine D.run 2 rfl ?_
                                          refine D.br rfl (by decide) rfl (fun hc => ?_) (fun hc => ?_)
                                          · refine D.run 2 rfl ?_
                                            refine D.call rfl rfl rfl rfl (fun q h => x231_ok h) (fun q88 => ?_)
                                            refine D.run 3 rfl ?_
                                            refine D.call rfl rfl rfl rfl (fun q h => x231_ok h) (fun q89 => ?_)
                                            refine D.run 2 rfl ?_
                                            exact fun h => by obtain ⟨rfl, rfl⟩ := hT _ (D.some h); exact Rn.ret rfl rfl rfl
                                          · refine D.run 2 rfl ?_
                                            refine D.br rfl (by decide) rfl (fun hc => ?_) (fun hc => ?_)
                                            · refine D.run 2 rfl ?_
                                              refine D.call rfl rfl rfl rfl (fun q h => x231_ok h) (fun q90 => ?_)
                                              refine D.run 3 rfl ?_
                                              refine D.call rfl rfl rfl rfl (fun q h => x231_ok h) (fun q91 => ?_)
                                              refine D.run 2 rfl ?_
                                              exact fun h => by obtain ⟨rfl, rfl⟩ := hT _ (D.some h); exact Rn.ret rfl rfl rfl
                                            · refine D.run 3 rfl ?_
                                              refine D.call rfl rfl rfl rfl (fun q h => x234_ok (by decide) h82_4 h) (fun q92 => ?_)
                                              exact fun h => by obtain ⟨rfl, rfl⟩ := hT _ (D.some h); exact Rn.ret rfl rfl rfl
                                  · refine D.run 2 rfl ?_
                                    refine D.br rfl (by decide) rfl (fun hc => ?_) (fun hc => ?_)
                                    · refine D.run 2 rfl ?_
                                      refine D.br rfl (by decide) rfl (fun hc => ?_) (fun hc => ?_)
                                      · refine D.run 2 rfl ?_
                                        refine D.call rfl rfl rfl rfl (fun q h => x231_ok h) (fun q93 => ?_)
                                        refine D.run 2 rfl ?_
                                        exact fun h => by obtain ⟨rfl, rfl⟩ := hT _ (D.some h); exact Rn.ret rfl rfl rfl
                                      · refine D.run 2 rfl ?_
                                        refine D.br rfl (by decide) rfl (fun hc => ?_) (fun hc => ?_)
                                        · refine D.run 2 rfl ?_
                                          refine D.call rfl rfl rfl rfl (fun q h => x231_ok h) (fun q94 => ?_)
                                          refine D.run 2 rfl ?_
                                          exact fun h => by obtain ⟨rfl, rfl⟩ := hT _ (D.some h); exact Rn.ret rfl rfl rfl
                                        · refine D.run 2 rfl ?_
                                          refine D.br rfl (by decide) rfl (fun hc => ?_) (fun hc => ?_)
                                          · refine D.run 2 rfl ?_
                                            refine D.call rfl rfl rfl rfl (fun q h => x231_ok h) (fun q95 => ?_)
                                            refine D.run 2 rfl ?_
                                            exact fun h => by obtain ⟨rfl, rfl⟩ := hT _ (D.some h); exact Rn.ret rfl rfl rfl
                                          · refine D.run 2 rfl ?_
                                            refine D.br rfl (by decide) rfl (fun hc => ?_) (fun hc => ?_)
                                            · refine D.run 2 rfl ?_
                                              refine D.call rfl rfl rfl rfl (fun q h => x231_ok h) (fun q96 => ?_)
                                              refine D.run 3 rfl ?_
                                              refine D.call rfl rfl rfl rfl (fun q h => x231_ok h) (fun q97 => ?_)
                                              refine D.run 2 rfl ?_
                                              exact fun h => by obtain ⟨rfl, rfl⟩ := hT _ (D.some h); exact Rn.ret rfl rfl rfl
                                            · refine D.run 2 rfl ?_
                                              refine D.br rfl (by decide) rfl (fun hc => ?_) (fun hc => ?_)
                                              · refine D.run 2 rfl ?_
                                                refine D.call rfl rfl rfl rfl (fun q h => x231_ok h) (fun q98 => ?_)
                                                refine D.run 3 rfl ?_
                                                refine D.call rfl rfl rfl rfl (fun q h => x231_ok h) (fun q99 => ?_)
                                                refine D.run 2 rfl ?_
                                                exact fun h => by obtain ⟨rfl, rfl⟩ := hT _ (D.some h); exact Rn.ret rfl rfl rfl
                                              · refine D.run 3 rfl ?_
                                                refine D.call rfl rfl rfl rfl (fun q h => x234_ok (by decide) h82_4 h) (fun q100 => ?_)
                                                exact fun h => by obtain ⟨rfl, rfl⟩ := hT _ (D.some h); exact Rn.ret rfl rfl rfl
                                    · refine D.run 2 rfl ?_
                                      refine D.call rfl rfl rfl rfl (fun q h => x231_ok h) (fun q101 => ?_)
                                      refine D.run 3 rfl ?_
                                      refine D.call rfl rfl rfl rfl (fun q h => x231_ok h) (fun q102 => ?_)
                                      refine D.run 2 rfl ?_
                                      exact fun h => by obtain ⟨rfl, rfl⟩ := hT _ (D.some h); exact Rn.ret rfl rfl rfl
                    · refine D.run 2 rfl ?_
                      refine D.call rfl rfl rfl rfl (fun q h => x231_ok h) (fun q103 => ?_)
                      refine D.run 3 rfl ?_
                      refine D.call rfl rfl rfl rfl (fun q h => x231_ok h) (fun q104 => ?_)
                      refine D.run 3 rfl ?_
                      refine D.call rfl rfl rfl rfl (fun q h => x232_ok h) (fun q105 => ?_)
                      show _ → Rn E 233 (139, [.ref 82, .int a1, .int a2, .int q103.1, .int q104.1], [], wT q105 R) o w
                      refine D.run 1 rfl ?_
                      exact fun h => by obtain ⟨rfl, rfl⟩ := hT _ (D.some h); exact Rn.ret rfl rfl rfl
set_option maxRecDepth 20000 in
theorem x233_ok {E : Xe} {R : Nat → Nat → Option Nat} {Z : Nat} {I : St} (hZ : Z = 85 ∨ Z = 126) (h82_4 : R 82 4 = some Z) {a1 a2 : Int32} {q : St} (h : x233 Z I a1 a2 = some q) : Rn E 233 (0, loc0 233 [.ref 82, .int a1, .int a2], [], wT I R) (.returned none) (wT q R) := x233_D hZ h82_4 _ _ (T := fun r => r = q) (by rintro r rfl; exact ⟨rfl, rfl⟩) ⟨_, h, rfl⟩
/-- TaintHouseModel.fault(II)V -/
def x243 (Q : Nat) (I : St) (a1 a2 : Int32) : Option (St) := (x244 I a1 0).bind fun q1 => if (q1.2 82 34) = 6 then some q1.2 else (x245 Q q1.2 q1.1 a2).bind fun q2 => some q2
set_option maxRecDepth 20000 in
theorem x243_D {E : Xe} {R : Nat → Nat → Option Nat} {Q : Nat} {o : Outcome} {w : Wd} {T : (St) → Prop} {I : St} (hQ : Q = 85 ∨ Q = 126) (h82_3 : R 82 3 = some Q) (a1 a2 : Int32) (hT : ∀ r, T r → o = .returned none ∧ w = wT r R) : Dq (x243 Q I a1 a2) T → Rn E 243 (0, loc0 243 [.ref 82, .int a1, .int a2], [], wT I R) o w := by
  unfold x243
  rcases hQ with rfl | rfl
  all_goals
    refine D.run 3 rfl ?_
    refine D.call rfl rfl rfl rfl (fun q h => x244_ok h) (fun q1 => ?_)
    refine D.run 4 rfl ?_
    refine D.br rfl (by decide) rfl (fun hc => ?_) (fun hc => ?_)
    · exact fun h => by obtain ⟨rfl, rfl⟩ := hT _ (D.some h); exact Rn.ret rfl rfl rfl
    · refine D.run 3 rfl ?_
      refine D.call rfl rfl rfl rfl (fun q h => x245_ok (by decide) h82_3 h) (fun q2 => ?_)
      exact fun h => by obtain ⟨rfl, rfl⟩ := hT _ (D.some h); exact Rn.ret rfl rfl rfl
set_option maxRecDepth 20000 in
theorem x243_ok {E : Xe} {R : Nat → Nat → Option Nat} {Q : Nat} {I : St} (hQ : Q = 85 ∨ Q = 126) (h82_3 : R 82 3 = some Q) {a1 a2 : Int32} {q : St} (h : x243 Q I a1 a2 = some q) : Rn E 243 (0, loc0 243 [.ref 82, .int a1, .int a2], [], wT I R) (.returned none) (wT q R) := x243_D hQ h82_3 _ _ (T := fun r => r = q) (by rintro r rfl; exact ⟨rfl, rfl⟩) ⟨_, h, rfl⟩
/-- TaintHouseModel.field(II)V -/
def x253 (Q : Nat) (I : St) (a1 a2 : Int32) : Option (St) := (if a2 = 39 then (x240 I).bind fun q1 => some (q1.1, q1.2) else some (0, I)).bind fun (q2 : Int32 × St) => (if a2 = 39 then some (q2.2 82 66) else some 0).bind fun (q3 : Int32) => (x240 q2.2).bind fun q4 => if q4.1 = 0 then (if q4.1 = 0 then some 2 else some 6).bind fun (q5 : Int32) => (x243 Q q4.2 q5 (q3 ||| (q4.2 82 66))).bind fun q6 => some q6 else if inb a1 2400 then (x254 Q q4.2 q4.1 (q4.2 (Q + 33) a1.toNatClampNeg)).bind fun q7 => if q7 = 0 then (if q4.1 = 0 then some 2 else some 6).bind fun (q8 : Int32) => (x243 Q q4.2 q8 (q3 ||| (q4.2 82 66))).bind fun q9 => some q9 else if inb (q4.1 - 1) 3001 then if inb a1 2400 then (x255 Q q4.2 (q4.2 (Q + 27) a1.toNatClampNeg)).bind fun q10 => if a2 = 39 then if inb ((q4.2 182 (q4.1 - 1).toNatClampNeg) + q10) 3001 then if ((q4.2 82 6) &&& 4) = 0 then if inb ((q4.2 182 (q4.1 - 1).toNatClampNeg) + q10) 3001 then Lt (up2 (up2 q4.2 185 ((q4.2 182 (q4.1 - 1).toNatClampNeg) + q10).toNatClampNeg q2.1) 186 ((q4.2 182 (q4.1 - 1).toNatClampNeg) + q10).toNatClampNeg (q3 ||| 0)) fun J11 => some (up2 J11 82 64 (a1 + 1)) else none else if inb ((q4.2 182 (q4.1 - 1).toNatClampNeg) + q10) 3001 then Lt (up2 (up2 q4.2 185 ((q4.2 182 (q4.1 - 1).toNatClampNeg) + q10).toNatClampNeg q2.1) 186 ((q4.2 182 (q4.1 - 1).toNatClampNeg) + q10).toNatClampNeg (q3 ||| (q4.2 82 66))) fun J12 => some (up2 J12 82 64 (a1 + 1)) else none else none else if inb ((q4.2 182 (q4.1 - 1).toNatClampNeg) + q10) 3001 then if inb ((q4.2 182 (q4.1 - 1).toNatClampNeg) + q10) 3001 then (if ((q4.2 82 6) &&& 2) = 0 then some 0 else some (q4.2 82 66)).bind fun (q13 : Int32) => (x239 q4.2 (q4.2 185 ((q4.2 182 (q4.1 - 1).toNatClampNeg) + q10).toNatClampNeg) ((q4.2 186 ((q4.2 182 (q4.1 - 1).toNatClampNeg) + q10).toNatClampNeg) ||| q13)).bind fun q14 => some (up2 q14 82 64 (a1 + 1)) else none else none else none else none else none
set_option maxRecDepth 20000 in
theorem x253_D {E : Xe} {R : Nat → Nat → Option Nat} {Q : Nat} {o : Outcome} {w : Wd} {T : (St) → Prop} {I : St} (hQ : Q = 85 ∨ Q = 126) (h82_3 : R 82 3 = some Q) (a1 a2 : Int32) (hT : ∀ r, T r → o = .returned none ∧ w = wT r R) : Dq (x253 Q I a1 a2) T → Rn E 253 (0, loc0 253 [.ref 82, .int a1, .int a2], [], wT I R) o w := by
  unfold x253
  rcases hQ with rfl | rfl
  · refine D.run 2 rfl ?_
    have Kj14 : ∀ (q2 : Int32 × St), Dq ((if a2 = 39 then some (q2.2 82 66) else some 0).bind fun (q3 : Int32) => (x240 q2.2).bind fun q4 => if q4.1 = 0 then (if q4.1 = 0 then some 2 else some 6).bind fun (q5 : Int32) => (x243 85 q4.2 q5 (q3 ||| (q4.2 82 66))).bind fun q6 => some q6 else if inb a1 2400 then (x254 85 q4.2 q4.1 (q4.2 (85 + 33) a1.toNatClampNeg)).bind fun q7 => if q7 = 0 then (if q4.1 = 0 then some 2 else some 6).bind fun (q8 : Int32) => (x243 85 q4.2 q8 (q3 ||| (q4.2 82 66))).bind fun q9 => some q9 else if inb (q4.1 - 1) 3001 then if inb a1 2400 then (x255 85 q4.2 (q4.2 (85 + 27) a1.toNatClampNeg)).bind fun q10 => if a2 = 39 then if inb ((q4.2 182 (q4.1 - 1).toNatClampNeg) + q10) 3001 then if ((q4.2 82 6) &&& 4) = 0 then if inb ((q4.2 182 (q4.1 - 1).toNatClampNeg) + q10) 3001 then Lt (up2 (up2 q4.2 185 ((q4.2 182 (q4.1 - 1).toNatClampNeg) + q10).toNatClampNeg q2.1) 186 ((q4.2 182 (q4.1 - 1).toNatClampNeg) + q10).toNatClampNeg (q3 ||| 0)) fun J11 => some (up2 J11 82 64 (a1 + 1)) else none else if inb ((q4.2 182 (q4.1 - 1).toNatClampNeg) + q10) 3001 then Lt (up2 (up2 q4.2 185 ((q4.2 182 (q4.1 - 1).toNatClampNeg) + q10).toNatClampNeg q2.1) 186 ((q4.2 182 (q4.1 - 1).toNatClampNeg) + q10).toNatClampNeg (q3 ||| (q4.2 82 66))) fun J12 => some (up2 J12 82 64 (a1 + 1)) else none else none else if inb ((q4.2 182 (q4.1 - 1).toNatClampNeg) + q10) 3001 then if inb ((q4.2 182 (q4.1 - 1).toNatClampNeg) + q10) 3001 then (if ((q4.2 82 6) &&& 2) = 0 then some 0 else some (q4.2 82 66)).bind fun (q13 : Int32) => (x239 q4.2 (q4.2 185 ((q4.2 182 (q4.1 - 1).toNatClampNeg) + q10).toNatClampNeg) ((q4.2 186 ((q4.2 182 (q4.1 - 1).toNatClampNeg) + q10).toNatClampNeg) ||| q13)).bind fun q14 => some (up2 q14 82 64 (a1 + 1)) else none else none else none else none else none) T → Rn E 253 (14, [.ref 82, .int a1, .int a2, us, us, us, us, us], [.int q2.1], wT q2.2 R) o w := by
      intro q2
      refine D.run 3 rfl ?_
      have Kj29 : ∀ (q3 : Int32), Dq ((x240 q2.2).bind fun q4 => if q4.1 = 0 then (if q4.1 = 0 then some 2 else some 6).bind fun (q5 : Int32) => (x243 85 q4.2 q5 (q3 ||| (q4.2 82 66))).bind fun q6 => some q6 else if inb a1 2400 then (x254 85 q4.2 q4.1 (q4.2 (85 + 33) a1.toNatClampNeg)).bind fun q7 => if q7 = 0 then (if q4.1 = 0 then some 2 else some 6).bind fun (q8 : Int32) => (x243 85 q4.2 q8 (q3 ||| (q4.2 82 66))).bind fun q9 => some q9 else if inb (q4.1 - 1) 3001 then if inb a1 2400 then (x255 85 q4.2 (q4.2 (85 + 27) a1.toNatClampNeg)).bind fun q10 => if a2 = 39 then if inb ((q4.2 182 (q4.1 - 1).toNatClampNeg) + q10) 3001 then if ((q4.2 82 6) &&& 4) = 0 then if inb ((q4.2 182 (q4.1 - 1).toNatClampNeg) + q10) 3001 then Lt (up2 (up2 q4.2 185 ((q4.2 182 (q4.1 - 1).toNatClampNeg) + q10).toNatClampNeg q2.1) 186 ((q4.2 182 (q4.1 - 1).toNatClampNeg) + q10).toNatClampNeg (q3 ||| 0)) fun J11 => some (up2 J11 82 64 (a1 + 1)) else none else if inb ((q4.2 182 (q4.1 - 1).toNatClampNeg) + q10) 3001 then Lt (up2 (up2 q4.2 185 ((q4.2 182 (q4.1 - 1).toNatClampNeg) + q10).toNatClampNeg q2.1) 186 ((q4.2 182 (q4.1 - 1).toNatClampNeg) + q10).toNatClampNeg (q3 ||| (q4.2 82 66))) fun J12 => some (up2 J12 82 64 (a1 + 1)) else none else none else if inb ((q4.2 182 (q4.1 - 1).toNatClampNeg) + q10) 3001 then if inb ((q4.2 182 (q4.1 - 1).toNatClampNeg) + q10) 3001 then (if ((q4.2 82 6) &&& 2) = 0 then some 0 else some (q4.2 82 66)).bind fun (q13 : Int32) => (x239 q4.2 (q4.2 185 ((q4.2 182 (q4.1 - 1).toNatClampNeg) + q10).toNatClampNeg) ((q4.2 186 ((q4.2 182 (q4.1 - 1).toNatClampNeg) + q10).toNatClampNeg) ||| q13)).bind fun q14 => some (up2 q14 82 64 (a1 + 1)) else none else none else none else none else none) T → Rn E 253 (29, [.ref 82, .int a1, .int a2, .int q2.1, us, us, us, us], [.int q3], wT q2.2 R) o w := by
        intro q3
        refine D.run 2 rfl ?_
        refine D.call rfl rfl rfl rfl (fun q h => x240_ok h) (fun q4 => ?_)
        refine D.run 5 rfl ?_
        refine D.br rfl (by decide) rfl (fun hc => ?_) (fun hc => ?_)
        · refine D.run 2 rfl ?_
          have Kj78 : ∀ (q5 : Int32), Dq ((x243 85 q4.2 q5 (q3 ||| (q4.2 82 66))).bind fun q6 => some q6) T → Rn E 253 (78, [.ref 82, .int a1, .int a2, .int q2.1, .int q3, .int q4.1, .int (q4.2 82 66), us], [.int q5, .ref 82], wT q4.2 R) o w := by
            intro q5
            refine D.run 3 rfl ?_
            refine D.call rfl rfl rfl rfl (fun q h => x243_ok (by decide) h82_3 h) (fun q6 => ?_)
            exact fun h => by obtain ⟨rfl, rfl⟩ := hT _ (D.some h); exact Rn.ret rfl rfl rfl
          refine D.jn (fun T78 c78 => ?_)
          refine D.br rfl (by decide) rfl (fun hc => ?_) (fun hc => ?_)
          · refine D.run 2 rfl ?_
            exact fun h => Kj78 _   (c78 _ (D.some h))
          · refine D.run 1 rfl ?_
            exact fun h => Kj78 _   (c78 _ (D.some h))
        · refine D.run 3 rfl ?_
          refine D.st rfl (by decide) (gf_1 h82_3) ?_
          refine D.run 2 rfl ?_
          refine D.gd fun hg => ?_
          refine D.st rfl (by decide) (al_i (by decide) (by first | rfl | decide) hg.1 hg.2) ?_
          show _ → Rn E 253 (60, [.ref 82, .int a1, .int a2, .int q2.1, .int q3, .int q4.1, .int (q4.2 82 66), us], [.int (q4.2 (85 + 33) a1.toNatClampNeg), .int q4.1, .ref 82], wT q4.2 R) o w
          refine D.call rfl rfl rfl rfl (fun q h => x254_ok (by decide) h82_3 h) (fun q7 => ?_)
          refine D.br rfl (by decide) rfl (fun hc => ?_) (fun hc => ?_)
          · refine D.run 2 rfl ?_
            have Kj78 : ∀ (q8 : Int32), Dq ((x243 85 q4.2 q8 (q3 ||| (q4.2 82 66))).bind fun q9 => some q9) T → Rn E 253 (78, [.ref 82, .int a1, .int a2, .int q2.1, .int q3, .int q4.1, .int (q4.2 82 66), us], [.int q8, .ref 82], wT q4.2 R) o w := by
              intro q8
              refine D.run 3 rfl ?_
              refine D.call rfl rfl rfl rfl (fun q h => x243_ok (by decide) h82_3 h) (fun q9 => ?_)
              exact fun h => by obtain ⟨rfl, rfl⟩ := hT _ (D.some h); exact Rn.ret rfl rfl rfl
            refine D.jn (fun T78 c78 => ?_)
            refine D.br rfl (by decide) rfl (fun hc => ?_) (fun hc => ?_)
            · refine D.run 2 rfl ?_
              exact fun h => Kj78 _   (c78 _ (D.some h))
            · refine D.run 1 rfl ?_
              exact fun h => Kj78 _   (c78 _ (D.some h))
          · refine D.run 5 rfl ?_
            refine D.gd fun hg => ?_
            refine D.st rfl (by decide) (al_i (by decide) (by first | rfl | decide) hg.1 hg.2) ?_
            refine D.run 2 rfl ?_
            refine D.st rfl (by decide) (gf_1 h82_3) ?_
            show _ → Rn E 253 (101, [.ref 82, .int a1, .int a2, .int q2.1, .int q3, .int q4.1, .int (q4.2 82 66), us], [.ref 85, .ref 82, .int (q4.2 182 (q4.1 - 1).toNatClampNeg)], wT q4.2 R) o w
            refine D.run 2 rfl ?_
            refine D.gd fun hg => ?_
            refine D.st rfl (by decide) (al_i (by decide) (by first | rfl | decide) hg.1 hg.2) ?_
            refine D.call rfl rfl rfl rfl (fun q h => x255_ok (by decide) h82_3 h) (fun q10 => ?_)
            refine D.run 4 rfl ?_
            refine D.br rfl (by decide) rfl (fun hc => ?_) (fun hc => ?_)
            · refine D.run 4 rfl ?_
              refine D.gd fun hg => ?_
              refine D.st rfl (by decide) (as_i (by decide) (by first | rfl | decide) hg.1 hg.2) ?_
              refine D.run 8 rfl ?_
              refine D.br rfl (by decide) rfl (fun hc => ?_) (fun hc => ?_)
              · refine D.run 2 rfl ?_
                refine D.gd fun hg => ?_
                refine D.st rfl (by decide) (as_i (by decide) (by first | rfl | decide) hg.1 hg.2) ?_
                refine D.letS (fun J11 => ?_)
                refine D.run 6 rfl ?_
                exact fun h => by obtain ⟨rfl, rfl⟩ := hT _ (D.some h); exact Rn.ret rfl rfl rfl
              · refine D.run 3 rfl ?_
                refine D.gd fun hg => ?_
                refine D.st rfl (by decide) (as_i (by decide) (by first | rfl | decide) hg.1 hg.2) ?_
                refine D.letS (fun J12 => ?_)
                refine D.run 6 rfl ?_
                exact fun h => by obtain ⟨rfl, rfl⟩ := hT _ (D.some h); exact Rn.ret rfl rfl rfl
            · refine D.run 4 rfl ?_
              refine D.gd fun hg => ?_
              refine D.st rfl (by decide) (al_i (by decide) (by first | rfl | decide) hg.1 hg.2) ?_
              refine D.run 3 rfl ?_
              refine D.gd fun hg => ?_
              refine D.st rfl (by decide) (al_i (by decide) (by first | rfl | decide) hg.1 hg.2) ?_
              show _ → Rn E 253 (169, [.ref 82, .int a1, .int a2, .int q2.1, .int q3, .int q4.1, .int (q4.2 82 66), .int ((q4.2 182 (q4.1 - 1).toNatClampNeg) + q10)], [.int (q4.2 186 ((q4.2 182 (q4.1 - 1).toNatClampNeg) + q10).toNatClampNeg), .int (q4.2 185 ((q4.2 182 (q4.1 - 1).toNatClampNeg) + q10).toNatClampNeg), .ref 82], wT q4.2 R) o w
              refine D.run 4 rfl ?_
              have Kj184 : ∀ (q13 : Int32), Dq ((x239 q4.2 (q4.2 185 ((q4.2 182 (q4.1 - 1).toNatClampNeg) + q10).toNatClampNeg) ((q4.2 186 ((q4.2 182 (q4.1 - 1).toNatClampNeg) + q10).toNatClampNeg) ||| q13)).bind fun q14 => some (up2 q14 82 64 (a1 + 1))) T → Rn E 253 (184, [.ref 82, .int a1, .int a2, .int q2.1, .int q3, .int q4.1, .int (q4.2 82 66), .int ((q4.2 182 (q4.1 - 1).toNatClampNeg) + q10)], [.int q13, .int (q4.2 186 ((q4.2 182 (q4.1 - 1).toNatClampNeg) + q10).toNatClampNeg), .int (q4.2 185 ((q4.2 182 (q4.1 - 1).toNatClampNeg) + q10).toNatClampNeg), .ref 82], wT q4.2 R) o w := by
                intro q13
                refine D.run 1 rfl ?_
                refine D.call rfl rfl rfl rfl (fun q h => x239_ok h) (fun q14 => ?_)
                refine D.run 5 rfl ?_
                exact fun h => by obtain ⟨rfl, rfl⟩ := hT _ (D.some h); exact Rn.ret rfl rfl rfl
              refine D.jn (fun T184 c184 => ?_)
              refine D.br rfl (by decide) rfl (fun hc => ?_) (fun hc => ?_)
              · refine D.run 1 rfl ?_
                exact fun h => Kj184 _   (c184 _ (D.some h))
              · refine D.run 2 rfl ?_
                exact fun h => Kj184 _   (c184 _ (D.some h))
      refine D.jn (fun T29 c29 => ?_)
      refine D.br rfl (by decide) rfl (fun hc => ?_) (fun hc => ?_)
      · refine D.run 3 rfl ?_
        exact fun h => Kj29 _   (c29 _ (D.some h))
      · refine D.run 1 rfl ?_
        exact fun h => Kj29 _   (c29 _ (D.some h))
    refine D.jn (fun T14 c14 => ?_)
    refine D.br rfl (by decide) rfl (fun hc => ?_) (fun hc => ?_)
    · refine D.run 1 rfl ?_
      refine D.call rfl rfl rfl rfl (fun q h => x240_ok h) (fun q1 => ?_)
      refine D.run 1 rfl ?_
      exact fun h => Kj14 _   (c14 _ (D.some h))
    · refine D.run 1 rfl ?_
      exact fun h => Kj14 _   (c14 _ (D.some h))
  · refine D.run 2 rfl ?_
    have Kj14 : ∀ (q2 : Int32 × St), Dq ((if a2 = 39 then some (q2.2 82 66) else some 0).bind fun (q3 : Int32) => (x240 q2.2).bind fun q4 => if q4.1 = 0 then (if q4.1 = 0 then some 2 else some 6).bind fun (q5 : Int32) => (x243 126 q4.2 q5 (q3 ||| (q4.2 82 66))).bind fun q6 => some q6 else if inb a1 2400 then (x254 126 q4.2 q4.1 (q4.2 (126 + 33) a1.toNatClampNeg)).bind fun q7 => if q7 = 0 then (if q4.1 = 0 then some 2 else some 6).bind fun (q8 : Int32) => (x243 126 q4.2 q8 (q3 ||| (q4.2 82 66))).bind fun q9 => some q9 else if inb (q4.1 - 1) 3001 then if inb a1 2400 then (x255 126 q4.2 (q4.2 (126 + 27) a1.toNatClampNeg)).bind fun q10 => if a2 = 39 then if inb ((q4.2 182 (q4.1 - 1).toNatClampNeg) + q10) 3001 then if ((q4.2 82 6) &&& 4) = 0 then if inb ((q4.2 182 (q4.1 - 1).toNatClampNeg) + q10) 3001 then Lt (up2 (up2 q4.2 185 ((q4.2 182 (q4.1 - 1).toNatClampNeg) + q10).toNatClampNeg q2.1) 186 ((q4.2 182 (q4.1 - 1).toNatClampNeg) + q10).toNatClampNeg (q3 ||| 0)) fun J11 => some (up2 J11 82 64 (a1 + 1)) else none else if inb ((q4.2 182 (q4.1 - 1).toNatClampNeg) + q10) 3001 then Lt (up2 (up2 q4.2 185 ((q4.2 182 (q4.1 - 1).toNatClampNeg) + q10).toNatClampNeg q2.1) 186 ((q4.2 182 (q4.1 - 1).toNatClampNeg) + q10).toNatClampNeg (q3 ||| (q4.2 82 66))) fun J12 => some (up2 J12 82 64 (a1 + 1)) else none else none else if inb ((q4.2 182 (q4.1 - 1).toNatClampNeg) + q10) 3001 then if inb ((q4.2 182 (q4.1 - 1).toNatClampNeg) + q10) 3001 then (if ((q4.2 82 6) &&& 2) = 0 then some 0 else some (q4.2 82 66)).bind fun (q13 : Int32) => (x239 q4.2 (q4.2 185 ((q4.2 182 (q4.1 - 1).toNatClampNeg) + q10).toNatClampNeg) ((q4.2 186 ((q4.2 182 (q4.1 - 1).toNatClampNeg) + q10).toNatClampNeg) ||| q13)).bind fun q14 => some (up2 q14 82 64 (a1 + 1)) else none else none else none else none else none) T → Rn E 253 (14, [.ref 82, .int a1, .int a2, us, us, us, us, us], [.int q2.1], wT q2.2 R) o w := by
      intro q2
      refine D.run 3 rfl ?_
      have Kj29 : ∀ (q3 : Int32), Dq ((x240 q2.2).bind fun q4 => if q4.1 = 0 then (if q4.1 = 0 then some 2 else some 6).bind fun (q5 : Int32) => (x243 126 q4.2 q5 (q3 ||| (q4.2 82 66))).bind fun q6 => some q6 else if inb a1 2400 then (x254 126 q4.2 q4.1 (q4.2 (126 + 33) a1.toNatClampNeg)).bind fun q7 => if q7 = 0 then (if q4.1 = 0 then some 2 else some 6).bind fun (q8 : Int32) => (x243 126 q4.2 q8 (q3 ||| (q4.2 82 66))).bind fun q9 => some q9 else if inb (q4.1 - 1) 3001 then if inb a1 2400 then (x255 126 q4.2 (q4.2 (126 + 27) a1.toNatClampNeg)).bind fun q10 => if a2 = 39 then if inb ((q4.2 182 (q4.1 - 1).toNatClampNeg) + q10) 3001 then if ((q4.2 82 6) &&& 4) = 0 then if inb ((q4.2 182 (q4.1 - 1).toNatClampNeg) + q10) 3001 then Lt (up2 (up2 q4.2 185 ((q4.2 182 (q4.1 - 1).toNatClampNeg) + q10).toNatClampNeg q2.1) 186 ((q4.2 182 (q4.1 - 1).toNatClampNeg) + q10).toNatClampNeg (q3 ||| 0)) fun J11 => some (up2 J11 82 64 (a1 + 1)) else none else if inb ((q4.2 182 (q4.1 - 1).toNatClampNeg) + q10) 3001 then Lt (up2 (up2 q4.2 185 ((q4.2 182 (q4.1 - 1).toNatClampNeg) + q10).toNatClampNeg q2.1) 186 ((q4.2 182 (q4.1 - 1).toNatClampNeg) + q10).toNatClampNeg (q3 ||| (q4.2 82 66))) fun J12 => some (up2 J12 82 64 (a1 + 1)) else none else none else if inb ((q4.2 182 (q4.1 - 1).toNatClampNeg) + q10) 3001 then if inb ((q4.2 182 (q4.1 - 1).toNatClampNeg) + q10) 3001 then (if ((q4.2 82 6) &&& 2) = 0 then some 0 else some (q4.2 82 66)).bind fun (q13 : Int32) => (x239 q4.2 (q4.2 185 ((q4.2 182 (q4.1 - 1).toNatClampNeg) + q10).toNatClampNeg) ((q4.2 186 ((q4.2 182 (q4.1 - 1).toNatClampNeg) + q10).toNatClampNeg) ||| q13)).bind fun q14 => some (up2 q14 82 64 (a1 + 1)) else none else none else none else none else none) T → Rn E 253 (29, [.ref 82, .int a1, .int a2, .int q2.1, us, us, us, us], [.int q3], wT q2.2 R) o w := by
        intro q3
        refine D.run 2 rfl ?_
        refine D.call rfl rfl rfl rfl (fun q h => x240_ok h) (fun q4 => ?_)
        refine D.run 5 rfl ?_
        refine D.br rfl (by decide) rfl (fun hc => ?_) (fun hc => ?_)
        · refine D.run 2 rfl ?_
          have Kj78 : ∀ (q5 : Int32), Dq ((x243 126 q4.2 q5 (q3 ||| (q4.2 82 66))).bind fun q6 => some q6) T → Rn E 253 (78, [.ref 82, .int a1, .int a2, .int q2.1, .int q3, .int q4.1, .int (q4.2 82 66), us], [.int q5, .ref 82], wT q4.2 R) o w := by
            intro q5
            refine D.run 3 rfl ?_
            refine D.call rfl rfl rfl rfl (fun q h => x243_ok (by decide) h82_3 h) (fun q6 => ?_)
            exact fun h => by obtain ⟨rfl, rfl⟩ := hT _ (D.some h); exact Rn.ret rfl rfl rfl
          refine D.jn (fun T78 c78 => ?_)
          refine D.br rfl (by decide) rfl (fun hc => ?_) (fun hc => ?_)
          · refine D.run 2 rfl ?_
            exact fun h => Kj78 _   (c78 _ (D.some h))
          · refine D.run 1 rfl ?_
            exact fun h => Kj78 _   (c78 _ (D.some h))
        · refine D.run 3 rfl ?_
          refine D.st rfl (by decide) (gf_1 h82_3) ?_
          refine D.run 2 rfl ?_
          refine D.gd fun hg => ?_
          refine D.st rfl (by decide) (al_i (by decide) (by first | rfl | decide) hg.1 hg.2) ?_
          show _ → Rn E 253 (60, [.ref 82, .int a1, .int a2, .int q2.1, .int q3, .int q4.1, .int (q4.2 82 66), us], [.int (q4.2 (126 + 33) a1.toNatClampNeg), .int q4.1, .ref 82], wT q4.2 R) o w
          refine D.call rfl rfl rfl rfl (fun q h => x254_ok (by decide) h82_3 h) (fun q7 => ?_)
          refine D.br rfl (by decide) rfl (fun hc => ?_) (fun hc => ?_)
          · refine D.run 2 rfl ?_
            have Kj78 : ∀ (q8 : Int32), Dq ((x243 126 q4.2 q8 (q3 ||| (q4.2 82 66))).bind fun q9 => some q9) T → Rn E 253 (78, [.ref 82, .int a1, .int a2, .int q2.1, .int q3, .int q4.1, .int (q4.2 82 66), us], [.int q8, .ref 82], wT q4.2 R) o w := by
              intro q8
              refine D.run 3 rfl ?_
              refine D.call rfl rfl rfl rfl (fun q h => x243_ok (by decide) h82_3 h) (fun q9 => ?_)
              exact fun h => by obtain ⟨rfl, rfl⟩ := hT _ (D.some h); exact Rn.ret rfl rfl rfl
            refine D.jn (fun T78 c78 => ?_)
            refine D.br rfl (by decide) rfl (fun hc => ?_) (fun hc => ?_)
            · refine D.run 2 rfl ?_
              exact fun h => Kj78 _   (c78 _ (D.some h))
            · refine D.run 1 rfl ?_
              exact fun h => Kj78 _   (c78 _ (D.some h))
          · refine D.run 5 rfl ?_
            refine D.gd fun hg => ?_
            refine D.st rfl (by decide) (al_i (by decide) (by first | rfl | decide) hg.1 hg.2) ?_
            refine D.run 2 rfl ?_
            refine D.st rfl (by decide) (gf_1 h82_3) ?_
            show _ → Rn E 253 (101, [.ref 82, .int a1, .int a2, .int q2.1, .int q3, .int q4.1, .int (q4.2 82 66), us], [.ref 126, .ref 82, .int (q4.2 182 (q4.1 - 1).toNatClampNeg)], wT q4.2 R) o w
            refine D.run 2 rfl ?_
            refine D.gd fun hg => ?_
            refine D.st rfl (by decide) (al_i (by decide) (by first | rfl | decide) hg.1 hg.2) ?_
            refine D.call rfl rfl rfl rfl (fun q h => x255_ok (by decide) h82_3 h) (fun q10 => ?_)
            refine D.run 4 rfl ?_
            refine D.br rfl (by decide) rfl (fun hc => ?_) (fun hc => ?_)
            · refine D.run 4 rfl ?_
              refine D.gd fun hg => ?_
              refine D.st rfl (by decide) (as_i (by decide) (by first | rfl | decide) hg.1 hg.2) ?_
              refine D.run 8 rfl ?_
              refine D.br rfl (by decide) rfl (fun hc => ?_) (fun hc => ?_)
              · refine D.run 2 rfl ?_
                refine D.gd fun hg => ?_
                refine D.st rfl (by decide) (as_i (by decide) (by first | rfl | decide) hg.1 hg.2) ?_
                refine D.letS (fun J11 => ?_)
                refine D.run 6 rfl ?_
                exact fun h => by obtain ⟨rfl, rfl⟩ := hT _ (D.some h); exact Rn.ret rfl rfl rfl
              · refine D.run 3 rfl ?_
                refine D.gd fun hg => ?_
                refine D.st rfl (by decide) (as_i (by decide) (by first | rfl | decide) hg.1 hg.2) ?_
                refine D.letS (fun J12 => ?_)
                refine D.run 6 rfl ?_
                exact fun h => by obtain ⟨rfl, rfl⟩ := hT _ (D.some h); exact Rn.ret rfl rfl rfl
            · refine D.run 4 rfl ?_
              refine D.gd fun hg => ?_
              refine D.st rfl (by decide) (al_i (by decide) (by first | rfl | decide) hg.1 hg.2) ?_
              refine D.run 3 rfl ?_
              refine D.gd fun hg => ?_
              refine D.st rfl (by decide) (al_i (by decide) (by first | rfl | decide) hg.1 hg.2) ?_
              show _ → Rn E 253 (169, [.ref 82, .int a1, .int a2, .int q2.1, .int q3, .int q4.1, .int (q4.2 82 66), .int ((q4.2 182 (q4.1 - 1).toNatClampNeg) + q10)], [.int (q4.2 186 ((q4.2 182 (q4.1 - 1).toNatClampNeg) + q10).toNatClampNeg), .int (q4.2 185 ((q4.2 182 (q4.1 - 1).toNatClampNeg) + q10).toNatClampNeg), .ref 82], wT q4.2 R) o w
              refine D.run 4 rfl ?_
              have Kj184 : ∀ (q13 : Int32), Dq ((x239 q4.2 (q4.2 185 ((q4.2 182 (q4.1 - 1).toNatClampNeg) + q10).toNatClampNeg) ((q4.2 186 ((q4.2 182 (q4.1 - 1).toNatClampNeg) + q10).toNatClampNeg) ||| q13)).bind fun q14 => some (up2 q14 82 64 (a1 + 1))) T → Rn E 253 (184, [.ref 82, .int a1, .int a2, .int q2.1, .int q3, .int q4.1, .int (q4.2 82 66), .int ((q4.2 182 (q4.1 - 1).toNatClampNeg) + q10)], [.int q13, .int (q4.2 186 ((q4.2 182 (q4.1 - 1).toNatClampNeg) + q10).toNatClampNeg), .int (q4.2 185 ((q4.2 182 (q4.1 - 1).toNatClampNeg) + q10).toNatClampNeg), .ref 82], wT q4.2 R) o w := by
                intro q13
                refine D.run 1 rfl ?_
                refine D.call rfl rfl rfl rfl (fun q h => x239_ok h) (fun q14 => ?_)
                refine D.run 5 rfl ?_
                exact fun h => by obtain ⟨rfl, rfl⟩ := hT _ (D.some h); exact Rn.ret rfl rfl rfl
              refine D.jn (fun T184 c184 => ?_)
              refine D.br rfl (by decide) rfl (fun hc => ?_) (fun hc => ?_)
              · refine D.run 1 rfl ?_
                exact fun h => Kj184 _   (c184 _ (D.some h))
              · refine D.run 2 rfl ?_
                exact fun h => Kj184 _   (c184 _ (D.some h))
      refine D.jn (fun T29 c29 => ?_)
      refine D.br rfl (by decide) rfl (fun hc => ?_) (fun hc => ?_)
      · refine D.run 3 rfl ?_
        exact fun h => Kj29 _   (c29 _ (D.some h))
      · refine D.run 1 rfl ?_
        exact fun h => Kj29 _   (c29 _ (D.some h))
    refine D.jn (fun T14 c14 => ?_)
    refine D.br rfl (by decide) rfl (fun hc => ?_) (fun hc => ?_)
    · refine D.run 1 rfl ?_
      refine D.call rfl rfl rfl rfl (fun q h => x240_ok h) (fun q1 => ?_)
      refine D.run 1 rfl ?_
      exact fun h => Kj14 _   (c14 _ (D.some h))
    · refine D.run 1 rfl ?_
      exact fun h => Kj14 _   (c14 _ (D.some h))
set_option maxRecDepth 20000 in
theorem x253_ok {E : Xe} {R : Nat → Nat → Option Nat} {Q : Nat} {I : St} (hQ : Q = 85 ∨ Q = 126) (h82_3 : R 82 3 = some Q) {a1 a2 : Int32} {q : St} (h : x253 Q I a1 a2 = some q) : Rn E 253 (0, loc0 253 [.ref 82, .int a1, .int a2], [], wT I R) (.returned none) (wT q R) := x253_D hQ h82_3 _ _ (T := fun r => r = q) (by rintro r rfl; exact ⟨rfl, rfl⟩) ⟨_, h, rfl⟩
/-- TaintHouseModel.array(II)V -/
def x256 (Q : Nat) (I : St) (a1 a2 : Int32) : Option (St) := (x240 I).bind fun q1 => if 0 ≤ q1.1 then if q1.1 ≤ 3000 then (if a2 = 42 then some (-2) else some (-3)).bind fun (q2 : Int32) => (x244 q1.2 q2 q1.1).bind fun q3 => if (q3.2 82 34) = 6 then some q3.2 else if inb (q3.1 - 1) 3001 then (x239 (up2 q3.2 184 (q3.1 - 1).toNatClampNeg (q1.2 82 66)) q3.1 0).bind fun q4 => some (up2 q4 82 64 (a1 + 1)) else none else some (up2 q1.2 82 34 6) else (x243 Q q1.2 4 (q1.2 82 66)).bind fun q5 => some q5
set_option maxRecDepth 20000 in
theorem x256_D {E : Xe} {R : Nat → Nat → Option Nat} {Q : Nat} {o : Outcome} {w : Wd} {T : (St) → Prop} {I : St} (hQ : Q = 85 ∨ Q = 126) (h82_3 : R 82 3 = some Q) (a1 a2 : Int32) (hT : ∀ r, T r → o = .returned none ∧ w = wT r R) : Dq (x256 Q I a1 a2) T → Rn E 256 (0, loc0 256 [.ref 82, .int a1, .int a2], [], wT I R) o w := by
  unfold x256
  rcases hQ with rfl | rfl
  all_goals
    refine D.run 1 rfl ?_
    refine D.call rfl rfl rfl rfl (fun q h => x240_ok h) (fun q1 => ?_)
    refine D.run 5 rfl ?_
    refine D.br rfl (by decide) rfl (fun hc => ?_) (fun hc => ?_)
    · refine D.run 2 rfl ?_
      refine D.br rfl (by decide) rfl (fun hc => ?_) (fun hc => ?_)
      · refine D.run 3 rfl ?_
        have Kj51 : ∀ (q2 : Int32), Dq ((x244 q1.2 q2 q1.1).bind fun q3 => if (q3.2 82 34) = 6 then some q3.2 else if inb (q3.1 - 1) 3001 then (x239 (up2 q3.2 184 (q3.1 - 1).toNatClampNeg (q1.2 82 66)) q3.1 0).bind fun q4 => some (up2 q4 82 64 (a1 + 1)) else none) T → Rn E 256 (51, [.ref 82, .int a1, .int a2, .int q1.1, .int (q1.2 82 66), us], [.int q2, .ref 82], wT q1.2 R) o w := by
          intro q2
          refine D.run 1 rfl ?_
          refine D.call rfl rfl rfl rfl (fun q h => x244_ok h) (fun q3 => ?_)
          refine D.run 4 rfl ?_
          refine D.br rfl (by decide) rfl (fun hc => ?_) (fun hc => ?_)
          · exact fun h => by obtain ⟨rfl, rfl⟩ := hT _ (D.some h); exact Rn.ret rfl rfl rfl
          · refine D.run 6 rfl ?_
            refine D.gd fun hg => ?_
            refine D.st rfl (by decide) (as_i (by decide) (by first | rfl | decide) hg.1 hg.2) ?_
            refine D.run 3 rfl ?_
            refine D.call rfl rfl rfl rfl (fun q h => x239_ok h) (fun q4 => ?_)
            show _ → Rn E 256 (85, [.ref 82, .int a1, .int a2, .int q1.1, .int (q1.2 82 66), .int q3.1], [], wT q4 R) o w
            refine D.run 5 rfl ?_
            exact fun h => by obtain ⟨rfl, rfl⟩ := hT _ (D.some h); exact Rn.ret rfl rfl rfl
        refine D.jn (fun T51 c51 => ?_)
        refine D.br rfl (by decide) rfl (fun hc => ?_) (fun hc => ?_)
        · refine D.run 2 rfl ?_
          exact fun h => Kj51 _   (c51 _ (D.some h))
        · refine D.run 1 rfl ?_
          exact fun h => Kj51 _   (c51 _ (D.some h))
      · refine D.run 3 rfl ?_
        exact fun h => by obtain ⟨rfl, rfl⟩ := hT _ (D.some h); exact Rn.ret rfl rfl rfl
    · refine D.run 3 rfl ?_
      refine D.call rfl rfl rfl rfl (fun q h => x243_ok (by decide) h82_3 h) (fun q5 => ?_)
      exact fun h => by obtain ⟨rfl, rfl⟩ := hT _ (D.some h); exact Rn.ret rfl rfl rfl
set_option maxRecDepth 20000 in
theorem x256_ok {E : Xe} {R : Nat → Nat → Option Nat} {Q : Nat} {I : St} (hQ : Q = 85 ∨ Q = 126) (h82_3 : R 82 3 = some Q) {a1 a2 : Int32} {q : St} (h : x256 Q I a1 a2 = some q) : Rn E 256 (0, loc0 256 [.ref 82, .int a1, .int a2], [], wT I R) (.returned none) (wT q R) := x256_D hQ h82_3 _ _ (T := fun r => r = q) (by rintro r rfl; exact ⟨rfl, rfl⟩) ⟨_, h, rfl⟩
