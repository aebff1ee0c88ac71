/-! FRAMES: what a function may change, by program (wip/gen/frames.py) -/
theorem l209_128_fr {Z : Nat} {b3 : Int32} {I0 : St} (hZ : Z = 85 ∨ Z = 126) : ∀ (n : Nat) (I : St), Frm [(84, some 0), (82, some 11), (82, some 16), (82, some 13), (82, some 14), (82, some 12), (82, some 15), ((Z + 19), none), ((Z + 18), none), ((Z + 34), none), (174, none), (Z, some 4), ((Z + 1), none), ((Z + 2), none), (Z, some 3), ((Z + 3), none), ((Z + 36), none), ((Z + 35), none), (Z, some 10), ((Z + 28), none), ((Z + 26), none), ((Z + 31), none), ((Z + 29), none), ((Z + 27), none), ((Z + 30), none), ((Z + 32), none), (Z, some 9), ((Z + 39), none), ((Z + 38), none), ((Z + 37), none), (Z, some 11), (173, none), (172, none), (171, none), (82, some 20), ((Z + 17), none), ((Z + 16), none), ((Z + 15), none), ((Z + 25), none), (Z, some 8), ((Z + 20), none), ((Z + 21), none), ((Z + 22), none), ((Z + 23), none)] I0 I → Fq (l209_128 Z b3 n I) (fun q => Sum.elim (fun a => Frm [(84, some 0), (82, some 11), (82, some 16), (82, some 13), (82, some 14), (82, some 12), (82, some 15), ((Z + 19), none), ((Z + 18), none), ((Z + 34), none), (174, none), (Z, some 4), ((Z + 1), none), ((Z + 2), none), (Z, some 3), ((Z + 3), none), ((Z + 36), none), ((Z + 35), none), (Z, some 10), ((Z + 28), none), ((Z + 26), none), ((Z + 31), none), ((Z + 29), none), ((Z + 27), none), ((Z + 30), none), ((Z + 32), none), (Z, some 9), ((Z + 39), none), ((Z + 38), none), ((Z + 37), none), (Z, some 11), (173, none), (172, none), (171, none), (82, some 20), ((Z + 17), none), ((Z + 16), none), ((Z + 15), none), ((Z + 25), none), (Z, some 8), ((Z + 20), none), ((Z + 21), none), ((Z + 22), none), ((Z + 23), none)] I0 a) (fun b => Sum.elim (fun a => Frm [(84, some 0), (82, some 11), (82, some 16), (82, some 13), (82, some 14), (82, some 12), (82, some 15), ((Z + 19), none), ((Z + 18), none), ((Z + 34), none), (174, none), (Z, some 4), ((Z + 1), none), ((Z + 2), none), (Z, some 3), ((Z + 3), none), ((Z + 36), none), ((Z + 35), none), (Z, some 10), ((Z + 28), none), ((Z + 26), none), ((Z + 31), none), ((Z + 29), none), ((Z + 27), none), ((Z + 30), none), ((Z + 32), none), (Z, some 9), ((Z + 39), none), ((Z + 38), none), ((Z + 37), none), (Z, some 11), (173, none), (172, none), (171, none), (82, some 20), ((Z + 17), none), ((Z + 16), none), ((Z + 15), none), ((Z + 25), none), (Z, some 8), ((Z + 20), none), ((Z + 21), none), ((Z + 22), none), ((Z + 23), none)] I0 a) (fun b => Frm [(84, some 0), (82, some 11), (82, some 16), (82, some 13), (82, some 14), (82, some 12), (82, some 15), ((Z + 19), none), ((Z + 18), none), ((Z + 34), none), (174, none), (Z, some 4), ((Z + 1), none), ((Z + 2), none), (Z, some 3), ((Z + 3), none), ((Z + 36), none), ((Z + 35), none), (Z, some 10), ((Z + 28), none), ((Z + 26), none), ((Z + 31), none), ((Z + 29), none), ((Z + 27), none), ((Z + 30), none), ((Z + 32), none), (Z, some 9), ((Z + 39), none), ((Z + 38), none), ((Z + 37), none), (Z, some 11), (173, none), (172, none), (171, none), (82, some 20), ((Z + 17), none), ((Z + 16), none), ((Z + 15), none), ((Z + 25), none), (Z, some 8), ((Z + 20), none), ((Z + 21), none), ((Z + 22), none), ((Z + 23), none)] I0 b) b) q) := by
  rcases hZ with rfl | rfl
  all_goals
    intro n
    induction n with
    | zero => intro I h0; exact F.none
    | succ n ih =>
      intro I h0
      rw [l209_128]
      refine F.bindr (fun q10 => ?_)
      refine F.ite (fun _ => ?_) (fun _ => ?_)
      · exact F.some h0
      · refine F.ite (fun _ => ?_) (fun _ => ?_)
        · refine F.ite (fun _ => ?_) (fun _ => ?_)
          · exact F.some (Frm.u2 h0 rfl)
          · refine F.bind (x192_fr  _ _ Frm.refl) (fun q11 hq11 => ?_)
            refine F.bindT (x210_fr (by decide) _ _ Frm.refl) (fun J hJ => ?_) (fun q12 hq12 => ?_)
            · exact F.some (Frm.trans (Frm.trans h0 hq11 rfl) hJ rfl)
            · exact ih  _ (Frm.trans (Frm.trans h0 hq11 rfl) hq12 rfl)
        · exact F.none
theorem l209_217_fr {Z : Nat} {b3 : Int32} {I0 : St} (hZ : Z = 85 ∨ Z = 126) : ∀ (n : Nat) (b6 : Int32) (I : St), Frm [(84, some 0), (82, some 11), (82, some 16), (82, some 13), (82, some 14), (82, some 12), (82, some 15), ((Z + 19), none), ((Z + 18), none), ((Z + 34), none), (174, none), (Z, some 4), ((Z + 1), none), ((Z + 2), none), (Z, some 3), ((Z + 3), none), ((Z + 36), none), ((Z + 35), none), (Z, some 10), ((Z + 28), none), ((Z + 26), none), ((Z + 31), none), ((Z + 29), none), ((Z + 27), none), ((Z + 30), none), ((Z + 32), none), (Z, some 9), ((Z + 39), none), ((Z + 38), none), ((Z + 37), none), (Z, some 11), (173, none), (172, none), (171, none), (82, some 20), ((Z + 17), none), ((Z + 16), none), ((Z + 15), none), ((Z + 25), none), (Z, some 8), ((Z + 20), none), ((Z + 21), none), ((Z + 22), none), ((Z + 23), none)] I0 I → Fq (l209_217 Z b3 n b6 I) (fun q => Sum.elim (fun a => Frm [(84, some 0), (82, some 11), (82, some 16), (82, some 13), (82, some 14), (82, some 12), (82, some 15), ((Z + 19), none), ((Z + 18), none), ((Z + 34), none), (174, none), (Z, some 4), ((Z + 1), none), ((Z + 2), none), (Z, some 3), ((Z + 3), none), ((Z + 36), none), ((Z + 35), none), (Z, some 10), ((Z + 28), none), ((Z + 26), none), ((Z + 31), none), ((Z + 29), none), ((Z + 27), none), ((Z + 30), none), ((Z + 32), none), (Z, some 9), ((Z + 39), none), ((Z + 38), none), ((Z + 37), none), (Z, some 11), (173, none), (172, none), (171, none), (82, some 20), ((Z + 17), none), ((Z + 16), none), ((Z + 15), none), ((Z + 25), none), (Z, some 8), ((Z + 20), none), ((Z + 21), none), ((Z + 22), none), ((Z + 23), none)] I0 a) (fun b => Sum.elim (fun a => Frm [(84, some 0), (82, some 11), (82, some 16), (82, some 13), (82, some 14), (82, some 12), (82, some 15), ((Z + 19), none), ((Z + 18), none), ((Z + 34), none), (174, none), (Z, some 4), ((Z + 1), none), ((Z + 2), none), (Z, some 3), ((Z + 3), none), ((Z + 36), none), ((Z + 35), none), (Z, some 10), ((Z + 28), none), ((Z + 26), none), ((Z + 31), none), ((Z + 29), none), ((Z + 27), none), ((Z + 30), none), ((Z + 32), none), (Z, some 9), ((Z + 39), none), ((Z + 38), none), ((Z + 37), none), (Z, some 11), (173, none), (172, none), (171, none), (82, some 20), ((Z + 17), none), ((Z + 16), none), ((Z + 15), none), ((Z + 25), none), (Z, some 8), ((Z + 20), none), ((Z + 21), none), ((Z + 22), none), ((Z + 23), none)] I0 a) (fun b => Frm [(84, some 0), (82, some 11), (82, some 16), (82, some 13), (82, some 14), (82, some 12), (82, some 15), ((Z + 19), none), ((Z + 18), none), ((Z + 34), none), (174, none), (Z, some 4), ((Z + 1), none), ((Z + 2), none), (Z, some 3), ((Z + 3), none), ((Z + 36), none), ((Z + 35), none), (Z, some 10), ((Z + 28), none), ((Z + 26), none), ((Z + 31), none), ((Z + 29), none), ((Z + 27), none), ((Z + 30), none), ((Z + 32), none), (Z, some 9), ((Z + 39), none), ((Z + 38), none), ((Z + 37), none), (Z, some 11), (173, none), (172, none), (171, none), (82, some 20), ((Z + 17), none), ((Z + 16), none), ((Z + 15), none), ((Z + 25), none), (Z, some 8), ((Z + 20), none), ((Z + 21), none), ((Z + 22), none), ((Z + 23), none)] I0 b) b) q) := by
  rcases hZ with rfl | rfl
  all_goals
    intro n
    induction n with
    | zero => intro b6 I h0; exact F.none
    | succ n ih =>
      intro b6 I h0
      rw [l209_217]
      refine F.bindr (fun q23 => ?_)
      refine F.ite (fun _ => ?_) (fun _ => ?_)
      · refine F.bind (x199_fr  _ _ Frm.refl) (fun q24 hq24 => ?_)
        refine F.ite (fun _ => ?_) (fun _ => ?_)
        · refine F.ite (fun _ => ?_) (fun _ => ?_)
          · refine F.ite (fun _ => ?_) (fun _ => ?_)
            · refine F.ite (fun _ => ?_) (fun _ => ?_)
              · refine F.letS (Frm.u2 (Frm.u2 (Frm.trans h0 hq24 rfl) rfl) rfl) (fun J25 hJ25 => ?_)
                refine F.bindT (x201_fr (by decide) _ _ Frm.refl) (fun J hJ => ?_) (fun q26 hq26 => ?_)
                · exact F.some (Frm.trans hJ25 hJ rfl)
                · refine F.ite (fun _ => ?_) (fun _ => ?_)
                  · refine F.ite (fun _ => ?_) (fun _ => ?_)
                    · refine F.letS (Frm.u2 (Frm.u2 (Frm.trans hJ25 hq26 rfl) rfl) rfl) (fun J27 hJ27 => ?_)
                      refine F.bindT (x204_fr  _ _ Frm.refl) (fun J hJ => ?_) (fun q28 hq28 => ?_)
                      · exact F.some (Frm.trans (Frm.u2 hJ27 rfl) hJ rfl)
                      · exact ih _ _ (Frm.trans (Frm.u2 hJ27 rfl) hq28 rfl)
                    · exact F.none
                  · exact F.none
              · exact F.none
            · exact F.none
          · refine F.bindT (x212_fr (by decide) _ _ Frm.refl) (fun J hJ => ?_) (fun q29 hq29 => ?_)
            · exact F.some (Frm.trans (Frm.trans h0 hq24 rfl) hJ rfl)
            · exact ih _ _ (Frm.trans (Frm.trans h0 hq24 rfl) hq29 rfl)
        · refine F.ite (fun _ => ?_) (fun _ => ?_)
          · exact F.some (Frm.u2 (Frm.trans h0 hq24 rfl) rfl)
          · refine F.bindT (x211_fr (by decide) _ _ Frm.refl) (fun J hJ => ?_) (fun q30 hq30 => ?_)
            · exact F.some (Frm.trans (Frm.trans h0 hq24 rfl) hJ rfl)
            · exact ih _ _ (Frm.trans (Frm.trans h0 hq24 rfl) hq30 rfl)
      · exact F.some h0
theorem x209_fr {Z : Nat} {a1 : Int32} {a2 : Int32} (hZ : Z = 85 ∨ Z = 126) (I0 I : St) (h0 : Frm [(84, some 0), (82, some 11), (82, some 16), (82, some 13), (82, some 14), (82, some 12), (82, some 15), ((Z + 19), none), ((Z + 18), none), ((Z + 34), none), (174, none), (Z, some 4), ((Z + 1), none), ((Z + 2), none), (Z, some 3), ((Z + 3), none), ((Z + 36), none), ((Z + 35), none), (Z, some 10), ((Z + 28), none), ((Z + 26), none), ((Z + 31), none), ((Z + 29), none), ((Z + 27), none), ((Z + 30), none), ((Z + 32), none), (Z, some 9), ((Z + 39), none), ((Z + 38), none), ((Z + 37), none), (Z, some 11), (173, none), (172, none), (171, none), (82, some 20), ((Z + 17), none), ((Z + 16), none), ((Z + 15), none), ((Z + 25), none), (Z, some 8), ((Z + 20), none), ((Z + 21), none), ((Z + 22), none), ((Z + 23), none)] I0 I) : Fq (x209 Z I a1 a2) (fun q => Sum.elim (fun a => Frm [(84, some 0), (82, some 11), (82, some 16), (82, some 13), (82, some 14), (82, some 12), (82, some 15), ((Z + 19), none), ((Z + 18), none), ((Z + 34), none), (174, none), (Z, some 4), ((Z + 1), none), ((Z + 2), none), (Z, some 3), ((Z + 3), none), ((Z + 36), none), ((Z + 35), none), (Z, some 10), ((Z + 28), none), ((Z + 26), none), ((Z + 31), none), ((Z + 29), none), ((Z + 27), none), ((Z + 30), none), ((Z + 32), none), (Z, some 9), ((Z + 39), none), ((Z + 38), none), ((Z + 37), none), (Z, some 11), (173, none), (172, none), (171, none), (82, some 20), ((Z + 17), none), ((Z + 16), none), ((Z + 15), none), ((Z + 25), none), (Z, some 8), ((Z + 20), none), ((Z + 21), none), ((Z + 22), none), ((Z + 23), none)] I0 a) (fun b => Frm [(84, some 0), (82, some 11), (82, some 16), (82, some 13), (82, some 14), (82, some 12), (82, some 15), ((Z + 19), none), ((Z + 18), none), ((Z + 34), none), (174, none), (Z, some 4), ((Z + 1), none), ((Z + 2), none), (Z, some 3), ((Z + 3), none), ((Z + 36), none), ((Z + 35), none), (Z, some 10), ((Z + 28), none), ((Z + 26), none), ((Z + 31), none), ((Z + 29), none), ((Z + 27), none), ((Z + 30), none), ((Z + 32), none), (Z, some 9), ((Z + 39), none), ((Z + 38), none), ((Z + 37), none), (Z, some 11), (173, none), (172, none), (171, none), (82, some 20), ((Z + 17), none), ((Z + 16), none), ((Z + 15), none), ((Z + 25), none), (Z, some 8), ((Z + 20), none), ((Z + 21), none), ((Z + 22), none), ((Z + 23), none)] I0 b) q) := by
  rcases hZ with rfl | rfl
  all_goals
    unfold x209
    refine F.bind (x192_fr  _ _ Frm.refl) (fun q1 hq1 => ?_)
    refine F.bindT (x201_fr (by decide) _ _ Frm.refl) (fun J hJ => ?_) (fun q2 hq2 => ?_)
    · exact F.some (Frm.trans (Frm.trans h0 hq1 rfl) hJ rfl)
    · refine F.bind (x206_fr  _ _ Frm.refl) (fun q3 hq3 => ?_)
      refine F.ite (fun _ => ?_) (fun _ => ?_)
      · refine F.ite (fun _ => ?_) (fun _ => ?_)
        · refine F.ite (fun _ => ?_) (fun _ => ?_)
          · refine F.letS (Frm.u2 (Frm.u2 (Frm.u2 (Frm.trans (Frm.trans (Frm.trans h0 hq1 rfl) hq2 rfl) hq3 rfl) rfl) rfl) rfl) (fun J4 hJ4 => ?_)
            refine F.ite (fun _ => ?_) (fun _ => ?_)
            · refine F.ite (fun _ => ?_) (fun _ => ?_)
              · refine F.letS (Frm.u2 (Frm.u2 hJ4 rfl) rfl) (fun J5 hJ5 => ?_)
                refine F.ite (fun _ => ?_) (fun _ => ?_)
                · refine F.letS (Frm.u2 (Frm.u2 hJ5 rfl) rfl) (fun J6 hJ6 => ?_)
                  refine F.bindT (x204_fr  _ _ Frm.refl) (fun J hJ => ?_) (fun q7 hq7 => ?_)
                  · exact F.some (Frm.trans hJ6 hJ rfl)
                  · refine F.bindr (fun q8 => ?_)
                    refine F.ite (fun _ => ?_) (fun _ => ?_)
                    · refine F.bindT (x210_fr (by decide) _ _ Frm.refl) (fun J hJ => ?_) (fun q9 hq9 => ?_)
                      · exact F.some (Frm.trans (Frm.trans hJ6 hq7 rfl) hJ rfl)
                      · refine F.bindE (l209_128_fr (by decide) _  _ (Frm.trans (Frm.trans hJ6 hq7 rfl) hq9 rfl)) (fun q13 hq13 => ?_) (fun r hr => ?_)
                        · refine F.bindT (x204_fr  _ _ Frm.refl) (fun J hJ => ?_) (fun q20 hq20 => ?_)
                          · exact F.some (Frm.trans hq13 hJ rfl)
                          · refine F.bindT (x207_fr  _ _ Frm.refl) (fun J hJ => ?_) (fun q21 hq21 => ?_)
                            · exact F.some (Frm.trans (Frm.trans hq13 hq20 rfl) hJ rfl)
                            · refine F.ite (fun _ => ?_) (fun _ => ?_)
                              · refine F.bindT (x204_fr  _ _ Frm.refl) (fun J hJ => ?_) (fun q22 hq22 => ?_)
                                · exact F.some (Frm.trans (Frm.u2 (Frm.trans (Frm.trans hq13 hq20 rfl) hq21 rfl) rfl) hJ rfl)
                                · refine F.ite (fun _ => ?_) (fun _ => ?_)
                                  · refine F.bindE (l209_217_fr (by decide) _ _ _ (Frm.u2 (Frm.trans (Frm.u2 (Frm.trans (Frm.trans hq13 hq20 rfl) hq21 rfl) rfl) hq22 rfl) rfl)) (fun q31 hq31 => ?_) (fun r hr => ?_)
                                    · refine F.ite (fun _ => ?_) (fun _ => ?_)
                                      · refine F.ite (fun _ => ?_) (fun _ => ?_)
                                        · refine F.letS (Frm.u2 hq31 rfl) (fun J38 hJ38 => ?_)
                                          refine F.ite (fun _ => ?_) (fun _ => ?_)
                                          · refine F.bind (x192_fr  _ _ Frm.refl) (fun q39 hq39 => ?_)
                                            exact F.some (Frm.trans (Frm.u2 hJ38 rfl) hq39 rfl)
                                          · exact F.none
                                        · exact F.none
                                      · exact F.none
                                    · exact F.some hr
                                  · exact F.none
                              · exact F.none
                        · exact F.some hr
                    · refine F.bindT (x204_fr  _ _ Frm.refl) (fun J hJ => ?_) (fun q40 hq40 => ?_)
                      · exact F.some (Frm.trans (Frm.trans hJ6 hq7 rfl) hJ rfl)
                      · refine F.bindT (x207_fr  _ _ Frm.refl) (fun J hJ => ?_) (fun q41 hq41 => ?_)
                        · exact F.some (Frm.trans (Frm.trans (Frm.trans hJ6 hq7 rfl) hq40 rfl) hJ rfl)
                        · refine F.ite (fun _ => ?_) (fun _ => ?_)
                          · refine F.bindT (x204_fr  _ _ Frm.refl) (fun J hJ => ?_) (fun q42 hq42 => ?_)
                            · exact F.some (Frm.trans (Frm.u2 (Frm.trans (Frm.trans (Frm.trans hJ6 hq7 rfl) hq40 rfl) hq41 rfl) rfl) hJ rfl)
                            · refine F.ite (fun _ => ?_) (fun _ => ?_)
                              · refine F.bindE (l209_217_fr (by decide) _ _ _ (Frm.u2 (Frm.trans (Frm.u2 (Frm.trans (Frm.trans (Frm.trans hJ6 hq7 rfl) hq40 rfl) hq41 rfl) rfl) hq42 rfl) rfl)) (fun q43 hq43 => ?_) (fun r hr => ?_)
                                · refine F.ite (fun _ => ?_) (fun _ => ?_)
                                  · refine F.ite (fun _ => ?_) (fun _ => ?_)
                                    · refine F.letS (Frm.u2 hq43 rfl) (fun J50 hJ50 => ?_)
                                      refine F.ite (fun _ => ?_) (fun _ => ?_)
                                      · refine F.bind (x192_fr  _ _ Frm.refl) (fun q51 hq51 => ?_)
                                        exact F.some (Frm.trans (Frm.u2 hJ50 rfl) hq51 rfl)
                                      · exact F.none
                                    · exact F.none
                                  · exact F.none
                                · exact F.some hr
                              · exact F.none
                          · exact F.none
                · exact F.none
              · exact F.none
            · exact F.none
          · exact F.none
        · exact F.none
      · exact F.none
theorem l226_27_fr {Z : Nat} {b1 : Int32} {b2 : Int32} {I0 : St} (hZ : Z = 85 ∨ Z = 126) : ∀ (n : Nat) (b3 : Int32) (I : St), Frm [(176, none), (175, none), (180, none), (179, none), (82, some 5), (82, some 22), (178, none), (177, none), ((Z + 24), none), (82, some 30), (82, some 29), (82, some 31), (82, some 32)] I0 I → Fq (l226_27 Z b1 b2 n b3 I) (fun q => Frm [(176, none), (175, none), (180, none), (179, none), (82, some 5), (82, some 22), (178, none), (177, none), ((Z + 24), none), (82, some 30), (82, some 29), (82, some 31), (82, some 32)] I0 q) := by
  rcases hZ with rfl | rfl
  all_goals
    intro n
    induction n with
    | zero => intro b3 I h0; exact F.none
    | succ n ih =>
      intro b3 I h0
      rw [l226_27]
      refine F.ite (fun _ => ?_) (fun _ => ?_)
      · exact F.some h0
      · refine F.ite (fun _ => ?_) (fun _ => ?_)
        · refine F.ite (fun _ => ?_) (fun _ => ?_)
          · refine F.letS (Frm.u2 (Frm.u2 h0 rfl) rfl) (fun J2 hJ2 => ?_)
            exact ih _ _ hJ2
          · exact F.none
        · exact F.none
theorem l226_73_fr {Z : Nat} {b1 : Int32} {b2 : Int32} {b3 : Int32} {I0 : St} (hZ : Z = 85 ∨ Z = 126) : ∀ (n : Nat) (b4 : Int32) (I : St), Frm [(176, none), (175, none), (180, none), (179, none), (82, some 5), (82, some 22), (178, none), (177, none), ((Z + 24), none), (82, some 30), (82, some 29), (82, some 31), (82, some 32)] I0 I → Fq (l226_73 Z b1 b2 b3 n b4 I) (fun q => Frm [(176, none), (175, none), (180, none), (179, none), (82, some 5), (82, some 22), (178, none), (177, none), ((Z + 24), none), (82, some 30), (82, some 29), (82, some 31), (82, some 32)] I0 q) := by
  rcases hZ with rfl | rfl
  all_goals
    intro n
    induction n with
    | zero => intro b4 I h0; exact F.none
    | succ n ih =>
      intro b4 I h0
      rw [l226_73]
      refine F.ite (fun _ => ?_) (fun _ => ?_)
      · exact F.some h0
      · refine F.ite (fun _ => ?_) (fun _ => ?_)
        · exact ih _ _ (Frm.u2 h0 rfl)
        · exact F.none
theorem l226_109_fr {Z : Nat} {b1 : Int32} {b2 : Int32} {b3 : Int32} {I0 : St} (hZ : Z = 85 ∨ Z = 126) : ∀ (n : Nat) (b4 : Int32) (I : St), Frm [(176, none), (175, none), (180, none), (179, none), (82, some 5), (82, some 22), (178, none), (177, none), ((Z + 24), none), (82, some 30), (82, some 29), (82, some 31), (82, some 32)] I0 I → Fq (l226_109 Z b1 b2 b3 n b4 I) (fun q => Frm [(176, none), (175, none), (180, none), (179, none), (82, some 5), (82, some 22), (178, none), (177, none), ((Z + 24), none), (82, some 30), (82, some 29), (82, some 31), (82, some 32)] I0 q) := by
  rcases hZ with rfl | rfl
  all_goals
    intro n
    induction n with
    | zero => intro b4 I h0; exact F.none
    | succ n ih =>
      intro b4 I h0
      rw [l226_109]
      refine F.ite (fun _ => ?_) (fun _ => ?_)
      · refine F.ite (fun _ => ?_) (fun _ => ?_)
        · exact F.some h0
        · refine F.ite (fun _ => ?_) (fun _ => ?_)
          · refine F.ite (fun _ => ?_) (fun _ => ?_)
            · refine F.ite (fun _ => ?_) (fun _ => ?_)
              · exact ih _ _ (Frm.u2 h0 rfl)
              · exact F.none
            · refine F.ite (fun _ => ?_) (fun _ => ?_)
              · exact ih _ _ (Frm.u2 h0 rfl)
              · exact F.none
          · exact F.none
      · exact F.none
theorem l226_175_fr {Z : Nat} {b2 : Int32} {I0 : St} (hZ : Z = 85 ∨ Z = 126) : ∀ (n : Nat) (b4 : Int32) (I : St), Frm [(176, none), (175, none), (180, none), (179, none), (82, some 5), (82, some 22), (178, none), (177, none), ((Z + 24), none), (82, some 30), (82, some 29), (82, some 31), (82, some 32)] I0 I → Fq (l226_175 Z b2 n b4 I) (fun q => Frm [(176, none), (175, none), (180, none), (179, none), (82, some 5), (82, some 22), (178, none), (177, none), ((Z + 24), none), (82, some 30), (82, some 29), (82, some 31), (82, some 32)] I0 q) := by
  rcases hZ with rfl | rfl
  all_goals
    intro n
    induction n with
    | zero => intro b4 I h0; exact F.none
    | succ n ih =>
      intro b4 I h0
      rw [l226_175]
      refine F.ite (fun _ => ?_) (fun _ => ?_)
      · exact F.some h0
      · refine F.ite (fun _ => ?_) (fun _ => ?_)
        · refine F.ite (fun _ => ?_) (fun _ => ?_)
          · refine F.bind (x230_fr (by decide) _ _ Frm.refl) (fun q16 hq16 => ?_)
            refine F.bindr (fun q17 => ?_)
            exact ih _ _ (Frm.trans (Frm.u2 h0 rfl) hq16 rfl)
          · exact F.none
        · exact F.some h0
theorem x226_fr {Z : Nat} {a1 : Int32} (hZ : Z = 85 ∨ Z = 126) (I0 I : St) (h0 : Frm [(176, none), (175, none), (180, none), (179, none), (82, some 5), (82, some 22), (178, none), (177, none), ((Z + 24), none), (82, some 30), (82, some 29), (82, some 31), (82, some 32)] I0 I) : Fq (x226 Z I a1) (fun q => Frm [(176, none), (175, none), (180, none), (179, none), (82, some 5), (82, some 22), (178, none), (177, none), ((Z + 24), none), (82, some 30), (82, some 29), (82, some 31), (82, some 32)] I0 q) := by
  rcases hZ with rfl | rfl
  · unfold x226
    refine F.ite (fun _ => ?_) (fun _ => ?_)
    · refine F.ite (fun _ => ?_) (fun _ => ?_)
      · refine F.letV (fun v1 => ?_)
        refine F.bind (l226_27_fr (by decide) _ _ _ (Frm.u2 (Frm.u2 h0 rfl) rfl)) (fun q3 hq3 => ?_)
        refine F.ite (fun _ => ?_) (fun _ => ?_)
        · refine F.bind (S := fun q => True) ?_ (fun q6 hq6 => ?_)
          · refine F.ite (fun _ => ?_) (fun _ => ?_)
            · exact F.some trivial
            · exact F.some trivial
          refine F.bind (l226_73_fr (by decide) _ _ _ hq3) (fun q7 hq7 => ?_)
          refine F.bind (S := fun q => Frm [(176, none), (175, none), (180, none), (179, none), (82, some 5), (82, some 22), (178, none), (177, none), ((85 + 24), none), (82, some 30), (82, some 29), (82, some 31), (82, some 32)] I0 q) ?_ (fun q9 hq9 => ?_)
          · refine F.ite (fun _ => ?_) (fun _ => ?_)
            · refine F.ite (fun _ => ?_) (fun _ => ?_)
              · exact F.some (Frm.u2 hq7 rfl)
              · exact F.none
            · exact F.some hq7
          refine F.bind (l226_109_fr (by decide) _ _ _ hq9) (fun q10 hq10 => ?_)
          refine F.bind (x227_fr (by decide) _ _ Frm.refl) (fun q14 hq14 => ?_)
          refine F.bindr (fun q15 => ?_)
          refine F.bind (l226_175_fr (by decide) _ _ _ (Frm.trans hq10 hq14 rfl)) (fun q18 hq18 => ?_)
          exact F.some hq18
        · exact F.none
      · exact F.none
    · exact F.none
  · unfold x226
    refine F.ite (fun _ => ?_) (fun _ => ?_)
    · refine F.ite (fun _ => ?_) (fun _ => ?_)
      · refine F.letV (fun v1 => ?_)
        refine F.bind (l226_27_fr (by decide) _ _ _ (Frm.u2 (Frm.u2 h0 rfl) rfl)) (fun q3 hq3 => ?_)
        refine F.ite (fun _ => ?_) (fun _ => ?_)
        · refine F.bind (S := fun q => True) ?_ (fun q6 hq6 => ?_)
          · refine F.ite (fun _ => ?_) (fun _ => ?_)
            · exact F.some trivial
            · exact F.some trivial
          refine F.bind (l226_73_fr (by decide) _ _ _ hq3) (fun q7 hq7 => ?_)
          refine F.bind (S := fun q => Frm [(176, none), (175, none), (180, none), (179, none), (82, some 5), (82, some 22), (178, none), (177, none), ((126 + 24), none), (82, some 30), (82, some 29), (82, some 31), (82, some 32)] I0 q) ?_ (fun q9 hq9 => ?_)
          · refine F.ite (fun _ => ?_) (fun _ => ?_)
            · refine F.ite (fun _ => ?_) (fun _ => ?_)
              · exact F.some (Frm.u2 hq7 rfl)
              · exact F.none
            · exact F.some hq7
          refine F.bind (l226_109_fr (by decide) _ _ _ hq9) (fun q10 hq10 => ?_)
          refine F.bind (x227_fr (by decide) _ _ Frm.refl) (fun q14 hq14 => ?_)
          refine F.bindr (fun q15 => ?_)
          refine F.bind (l226_175_fr (by decide) _ _ _ (Frm.trans hq10 hq14 rfl)) (fun q18 hq18 => ?_)
          exact F.some hq18
        · exact F.none
      · exact F.none
    · exact F.none
theorem x238_fr {Q : Nat} (hQ : Q = 85 ∨ Q = 126) (I0 I : St) (h0 : Frm [(199, none), (198, none), (82, some 65), (82, some 64), (82, some 66), (196, none), (197, none), (82, some 34), (191, none), (190, none), (189, none), (82, some 38), (82, some 39), (192, none), (186, none), (185, none), (181, none), (82, some 40), (82, some 41), (184, none), (183, none), (182, none), (82, some 48), (82, some 63), (82, some 55), (82, some 36), (82, some 35), (188, none), (187, none), (195, none), (194, none), (193, none)] I0 I) : Fq (x238 Q I) (fun q => Frm [(199, none), (198, none), (82, some 65), (82, some 64), (82, some 66), (196, none), (197, none), (82, some 34), (191, none), (190, none), (189, none), (82, some 38), (82, some 39), (192, none), (186, none), (185, none), (181, none), (82, some 40), (82, some 41), (184, none), (183, none), (182, none), (82, some 48), (82, some 63), (82, some 55), (82, some 36), (82, some 35), (188, none), (187, none), (195, none), (194, none), (193, none)] I0 q) := by
  rcases hQ with rfl | rfl
  all_goals
    unfold x238
    refine F.ite (fun _ => ?_) (fun _ => ?_)
    · refine F.ite (fun _ => ?_) (fun _ => ?_)
      · refine F.ite (fun _ => ?_) (fun _ => ?_)
        · refine F.bind (x239_fr  _ _ Frm.refl) (fun q1 hq1 => ?_)
          exact F.some (Frm.u2 (Frm.trans h0 hq1 rfl) rfl)
        · exact F.none
      · refine F.ite (fun _ => ?_) (fun _ => ?_)
        · refine F.bind (x239_fr  _ _ Frm.refl) (fun q2 hq2 => ?_)
          exact F.some (Frm.u2 (Frm.trans h0 hq2 rfl) rfl)
        · refine F.ite (fun _ => ?_) (fun _ => ?_)
          · refine F.ite (fun _ => ?_) (fun _ => ?_)
            · refine F.ite (fun _ => ?_) (fun _ => ?_)
              · refine F.ite (fun _ => ?_) (fun _ => ?_)
                · refine F.ite (fun _ => ?_) (fun _ => ?_)
                  · refine F.bind (x239_fr  _ _ Frm.refl) (fun q3 hq3 => ?_)
                    exact F.some (Frm.u2 (Frm.trans h0 hq3 rfl) rfl)
                  · exact F.none
                · exact F.none
              · exact F.none
            · exact F.none
          · refine F.ite (fun _ => ?_) (fun _ => ?_)
            · refine F.bind (x240_fr  _ _ Frm.refl) (fun q4 hq4 => ?_)
              refine F.ite (fun _ => ?_) (fun _ => ?_)
              · refine F.ite (fun _ => ?_) (fun _ => ?_)
                · refine F.letS (Frm.u2 (Frm.trans h0 hq4 rfl) rfl) (fun J5 hJ5 => ?_)
                  refine F.ite (fun _ => ?_) (fun _ => ?_)
                  · refine F.ite (fun _ => ?_) (fun _ => ?_)
                    · refine F.letS (Frm.u2 hJ5 rfl) (fun J6 hJ6 => ?_)
                      exact F.some (Frm.u2 hJ6 rfl)
                    · exact F.none
                  · exact F.none
                · exact F.none
              · exact F.none
            · refine F.ite (fun _ => ?_) (fun _ => ?_)
              · refine F.ite (fun _ => ?_) (fun _ => ?_)
                · refine F.ite (fun _ => ?_) (fun _ => ?_)
                  · refine F.ite (fun _ => ?_) (fun _ => ?_)
                    · refine F.ite (fun _ => ?_) (fun _ => ?_)
                      · refine F.letS (Frm.u2 h0 rfl) (fun J7 hJ7 => ?_)
                        exact F.some (Frm.u2 hJ7 rfl)
                      · exact F.none
                    · exact F.none
                  · exact F.none
                · exact F.none
              · refine F.ite (fun _ => ?_) (fun _ => ?_)
                · refine F.bind (x240_fr  _ _ Frm.refl) (fun q8 hq8 => ?_)
                  refine F.bind (x239_fr  _ _ Frm.refl) (fun q9 hq9 => ?_)
                  refine F.bind (x239_fr  _ _ Frm.refl) (fun q10 hq10 => ?_)
                  exact F.some (Frm.u2 (Frm.trans (Frm.trans (Frm.trans h0 hq8 rfl) hq9 rfl) hq10 rfl) rfl)
                · refine F.ite (fun _ => ?_) (fun _ => ?_)
                  · refine F.bind (x240_fr  _ _ Frm.refl) (fun q11 hq11 => ?_)
                    exact F.some (Frm.u2 (Frm.trans h0 hq11 rfl) rfl)
                  · refine F.ite (fun _ => ?_) (fun _ => ?_)
                    · refine F.bind (x240_fr  _ _ Frm.refl) (fun q12 hq12 => ?_)
                      refine F.bind (x240_fr  _ _ Frm.refl) (fun q13 hq13 => ?_)
                      refine F.bind (x239_fr  _ _ Frm.refl) (fun q14 hq14 => ?_)
                      refine F.bind (x239_fr  _ _ Frm.refl) (fun q15 hq15 => ?_)
                      exact F.some (Frm.u2 (Frm.trans (Frm.trans (Frm.trans (Frm.trans h0 hq12 rfl) hq13 rfl) hq14 rfl) hq15 rfl) rfl)
                    · refine F.ite (fun _ => ?_) (fun _ => ?_)
                      · refine F.bind (x240_fr  _ _ Frm.refl) (fun q16 hq16 => ?_)
                        refine F.bind (x239_fr  _ _ Frm.refl) (fun q17 hq17 => ?_)
                        exact F.some (Frm.u2 (Frm.trans (Frm.trans h0 hq16 rfl) hq17 rfl) rfl)
                      · refine F.ite (fun _ => ?_) (fun _ => ?_)
                        · refine F.ite (fun _ => ?_) (fun _ => ?_)
                          · refine F.ite (fun _ => ?_) (fun _ => ?_)
                            · refine F.ite (fun _ => ?_) (fun _ => ?_)
                              · refine F.bind (x239_fr  _ _ Frm.refl) (fun q18 hq18 => ?_)
                                exact F.some (Frm.u2 (Frm.trans h0 hq18 rfl) rfl)
                              · exact F.none
                            · exact F.none
                          · exact F.none
                        · refine F.ite (fun _ => ?_) (fun _ => ?_)
                          · refine F.ite (fun _ => ?_) (fun _ => ?_)
                            · refine F.bind (x241_fr  _ _ Frm.refl) (fun q19 hq19 => ?_)
                              exact F.some (Frm.u2 (Frm.trans h0 hq19 rfl) rfl)
                            · exact F.none
                          · refine F.ite (fun _ => ?_) (fun _ => ?_)
                            · refine F.bind (x240_fr  _ _ Frm.refl) (fun q20 hq20 => ?_)
                              refine F.ite (fun _ => ?_) (fun _ => ?_)
                              · refine F.bind (x239_fr  _ _ Frm.refl) (fun q21 hq21 => ?_)
                                exact F.some (Frm.u2 (Frm.trans (Frm.trans h0 hq20 rfl) hq21 rfl) rfl)
                              · exact F.none
                            · refine F.ite (fun _ => ?_) (fun _ => ?_)
                              · refine F.bind (x240_fr  _ _ Frm.refl) (fun q22 hq22 => ?_)
                                refine F.ite (fun _ => ?_) (fun _ => ?_)
                                · refine F.bind (x239_fr  _ _ Frm.refl) (fun q23 hq23 => ?_)
                                  exact F.some (Frm.u2 (Frm.trans (Frm.trans h0 hq22 rfl) hq23 rfl) rfl)
                                · exact F.none
                              · refine F.ite (fun _ => ?_) (fun _ => ?_)
                                · refine F.ite (fun _ => ?_) (fun _ => ?_)
                                  · refine F.bind (x251_fr (by decide) _ _ Frm.refl) (fun q24 hq24 => ?_)
                                    exact F.some (Frm.trans h0 hq24 rfl)
                                  · refine F.ite (fun _ => ?_) (fun _ => ?_)
                                    · refine F.bind (x251_fr (by decide) _ _ Frm.refl) (fun q25 hq25 => ?_)
                                      exact F.some (Frm.trans h0 hq25 rfl)
                                    · refine F.bind (x249_fr (by decide) _ _ Frm.refl) (fun q26 hq26 => ?_)
                                      exact F.some (Frm.trans h0 hq26 rfl)
                                · refine F.ite (fun _ => ?_) (fun _ => ?_)
                                  · refine F.ite (fun _ => ?_) (fun _ => ?_)
                                    · refine F.bind (x251_fr (by decide) _ _ Frm.refl) (fun q27 hq27 => ?_)
                                      exact F.some (Frm.trans h0 hq27 rfl)
                                    · refine F.ite (fun _ => ?_) (fun _ => ?_)
                                      · refine F.bind (x251_fr (by decide) _ _ Frm.refl) (fun q28 hq28 => ?_)
                                        exact F.some (Frm.trans h0 hq28 rfl)
                                      · refine F.bind (x249_fr (by decide) _ _ Frm.refl) (fun q29 hq29 => ?_)
                                        exact F.some (Frm.trans h0 hq29 rfl)
                                  · refine F.bind (x242_fr (by decide) _ _ Frm.refl) (fun q30 hq30 => ?_)
                                    exact F.some (Frm.trans h0 hq30 rfl)
    · exact F.none
theorem l98_57_fr {P : Nat} {I0 : St} (hP : P = 3 ∨ P = 18) : ∀ (n : Nat) (b2 : Int32) (I : St), Frm [(60, none), ((P + 8), none), (58, some 6), (58, some 9), (58, some 8), (58, some 7), (58, some 11), (58, some 10), (58, some 5), (58, some 4), (58, some 3)] I0 I → Fq (l98_57 P n b2 I) (fun q => Frm [(60, none), ((P + 8), none), (58, some 6), (58, some 9), (58, some 8), (58, some 7), (58, some 11), (58, some 10), (58, some 5), (58, some 4), (58, some 3)] I0 q) := by
  rcases hP with rfl | rfl
  all_goals
    intro n
    induction n with
    | zero => intro b2 I h0; exact F.none
    | succ n ih =>
      intro b2 I h0
      rw [l98_57]
      refine F.ite (fun _ => ?_) (fun _ => ?_)
      · exact F.some h0
      · refine F.ite (fun _ => ?_) (fun _ => ?_)
        · refine F.bindr (fun q4 => ?_)
          refine F.ite (fun _ => ?_) (fun _ => ?_)
          · exact F.some h0
          · refine F.bind (x106_fr (by decide) _ _ Frm.refl) (fun q5 hq5 => ?_)
            exact ih _ _ (Frm.trans h0 hq5 rfl)
        · exact F.some h0
theorem x98_fr {P : Nat} {a1 : Int32} (hP : P = 3 ∨ P = 18) (I0 I : St) (h0 : Frm [(60, none), ((P + 8), none), (58, some 6), (58, some 9), (58, some 8), (58, some 7), (58, some 11), (58, some 10), (58, some 5), (58, some 4), (58, some 3)] I0 I) : Fq (x98 P I a1) (fun q => Frm [(60, none), ((P + 8), none), (58, some 6), (58, some 9), (58, some 8), (58, some 7), (58, some 11), (58, some 10), (58, some 5), (58, some 4), (58, some 3)] I0 q) := by
  rcases hP with rfl | rfl
  all_goals
    unfold x98
    refine F.letS (Frm.u2 (Frm.u2 (Frm.u2 h0 rfl) rfl) rfl) (fun J1 hJ1 => ?_)
    refine F.bind (x99_fr (by decide) _ _ Frm.refl) (fun q2 hq2 => ?_)
    refine F.bind (x101_fr (by decide) _ _ Frm.refl) (fun q3 hq3 => ?_)
    refine F.bind (l98_57_fr (by decide) _ _ _ (Frm.trans (Frm.trans (Frm.fi hJ1 (fun _ => rfl)) hq2 rfl) hq3 rfl)) (fun q6 hq6 => ?_)
    exact F.some hq6
theorem l125_8_fr {P : Nat} {I0 : St} (hP : P = 3 ∨ P = 18) : ∀ (n : Nat) (b3 : Int32) (I : St), Frm [(68, some 10), (68, some 11), (81, none), (73, none), (72, some 3), (71, none), (70, some 3), (68, some 14), (68, some 16), (68, some 15), (68, some 12), (76, some 3), (77, none), (68, some 18), (79, none), (68, some 7), (68, some 8), (68, some 9), (75, none), (68, some 17), (68, some 13)] I0 I → Fq (l125_8 P n b3 I) (fun q => Frm [(68, some 10), (68, some 11), (81, none), (73, none), (72, some 3), (71, none), (70, some 3), (68, some 14), (68, some 16), (68, some 15), (68, some 12), (76, some 3), (77, none), (68, some 18), (79, none), (68, some 7), (68, some 8), (68, some 9), (75, none), (68, some 17), (68, some 13)] I0 q) := by
  rcases hP with rfl | rfl
  all_goals
    intro n
    induction n with
    | zero => intro b3 I h0; exact F.none
    | succ n ih =>
      intro b3 I h0
      rw [l125_8]
      refine F.ite (fun _ => ?_) (fun _ => ?_)
      · exact F.some h0
      · refine F.ite (fun _ => ?_) (fun _ => ?_)
        · refine F.ite (fun _ => ?_) (fun _ => ?_)
          · refine F.bind (x129_fr (by decide) _ _ Frm.refl) (fun q2 hq2 => ?_)
            refine F.bind (S := fun q => Frm [(68, some 10), (68, some 11), (81, none), (73, none), (72, some 3), (71, none), (70, some 3), (68, some 14), (68, some 16), (68, some 15), (68, some 12), (76, some 3), (77, none), (68, some 18), (79, none), (68, some 7), (68, some 8), (68, some 9), (75, none), (68, some 17), (68, some 13)] I0 q) ?_ (fun q3 hq3 => ?_)
            · refine F.ite (fun _ => ?_) (fun _ => ?_)
              · exact F.some (Frm.trans (Frm.u2 h0 rfl) hq2 rfl)
              · exact F.some (Frm.u2 (Frm.trans (Frm.u2 h0 rfl) hq2 rfl) rfl)
            refine F.ite (fun _ => ?_) (fun _ => ?_)
            · exact ih _ _ (Frm.u2 hq3 rfl)
            · refine F.ite (fun _ => ?_) (fun _ => ?_)
              · refine F.bind (x170_fr (by decide) _ _ Frm.refl) (fun q4 hq4 => ?_)
                exact ih _ _ (Frm.u2 (Frm.trans hq3 hq4 rfl) rfl)
              · exact ih _ _ (Frm.u2 hq3 rfl)
          · exact F.some (Frm.u2 h0 rfl)
        · exact F.some h0
theorem x125_fr {P : Nat} {a2 : Int32} (hP : P = 3 ∨ P = 18) (I0 I : St) (h0 : Frm [(68, some 10), (68, some 11), (81, none), (73, none), (72, some 3), (71, none), (70, some 3), (68, some 14), (68, some 16), (68, some 15), (68, some 12), (76, some 3), (77, none), (68, some 18), (79, none), (68, some 7), (68, some 8), (68, some 9), (75, none), (68, some 17), (68, some 13)] I0 I) : Fq (x125 P I a2) (fun q => Frm [(68, some 10), (68, some 11), (81, none), (73, none), (72, some 3), (71, none), (70, some 3), (68, some 14), (68, some 16), (68, some 15), (68, some 12), (76, some 3), (77, none), (68, some 18), (79, none), (68, some 7), (68, some 8), (68, some 9), (75, none), (68, some 17), (68, some 13)] I0 q.2) := by
  rcases hP with rfl | rfl
  all_goals
    unfold x125
    refine F.bind (x126_fr (by decide) _ _ Frm.refl) (fun q1 hq1 => ?_)
    refine F.bind (l125_8_fr (by decide) _ _ _ (Frm.trans h0 hq1 rfl)) (fun q5 hq5 => ?_)
    refine F.ite (fun _ => ?_) (fun _ => ?_)
    · exact F.some (Frm.u2 (Frm.u2 hq5 rfl) rfl)
    · refine F.ite (fun _ => ?_) (fun _ => ?_)
      · exact F.some hq5
      · exact F.some (Frm.u2 (Frm.u2 hq5 rfl) rfl)
theorem l198_137_fr {Z : Nat} {b1 : Int32} {I0 : St} (hZ : Z = 85 ∨ Z = 126) : ∀ (n : Nat) (b2 : Int32) (I : St), Frm [(82, some 11), (84, some 0), (82, some 16), (82, some 13), (82, some 14), (82, some 12), (82, some 15), ((Z + 19), none), ((Z + 18), none), ((Z + 34), none), (174, none), (Z, some 4), ((Z + 1), none), ((Z + 2), none), (Z, some 3), ((Z + 3), none), ((Z + 36), none), ((Z + 35), none), (Z, some 10), ((Z + 28), none), ((Z + 26), none), ((Z + 31), none), ((Z + 29), none), ((Z + 27), none), ((Z + 30), none), ((Z + 32), none), (Z, some 9), ((Z + 39), none), ((Z + 38), none), ((Z + 37), none), (Z, some 11), (173, none), (172, none), (171, none), (82, some 20), ((Z + 17), none), ((Z + 16), none), ((Z + 15), none), ((Z + 25), none), (Z, some 8), ((Z + 20), none), ((Z + 21), none), ((Z + 22), none), ((Z + 23), none), ((Z + 13), none), ((Z + 12), none), (Z, some 6), ((Z + 14), none), ((Z + 10), none), ((Z + 9), none), (Z, some 7), ((Z + 11), none), ((Z + 5), none), ((Z + 6), none), ((Z + 4), none), ((Z + 7), none), (Z, some 5)] I0 I → Fq (l198_137 Z b1 n b2 I) (fun q => Sum.elim (fun a => Frm [(82, some 11), (84, some 0), (82, some 16), (82, some 13), (82, some 14), (82, some 12), (82, some 15), ((Z + 19), none), ((Z + 18), none), ((Z + 34), none), (174, none), (Z, some 4), ((Z + 1), none), ((Z + 2), none), (Z, some 3), ((Z + 3), none), ((Z + 36), none), ((Z + 35), none), (Z, some 10), ((Z + 28), none), ((Z + 26), none), ((Z + 31), none), ((Z + 29), none), ((Z + 27), none), ((Z + 30), none), ((Z + 32), none), (Z, some 9), ((Z + 39), none), ((Z + 38), none), ((Z + 37), none), (Z, some 11), (173, none), (172, none), (171, none), (82, some 20), ((Z + 17), none), ((Z + 16), none), ((Z + 15), none), ((Z + 25), none), (Z, some 8), ((Z + 20), none), ((Z + 21), none), ((Z + 22), none), ((Z + 23), none), ((Z + 13), none), ((Z + 12), none), (Z, some 6), ((Z + 14), none), ((Z + 10), none), ((Z + 9), none), (Z, some 7), ((Z + 11), none), ((Z + 5), none), ((Z + 6), none), ((Z + 4), none), ((Z + 7), none), (Z, some 5)] I0 a) (fun b => Sum.elim (fun a => Frm [(82, some 11), (84, some 0), (82, some 16), (82, some 13), (82, some 14), (82, some 12), (82, some 15), ((Z + 19), none), ((Z + 18), none), ((Z + 34), none), (174, none), (Z, some 4), ((Z + 1), none), ((Z + 2), none), (Z, some 3), ((Z + 3), none), ((Z + 36), none), ((Z + 35), none), (Z, some 10), ((Z + 28), none), ((Z + 26), none), ((Z + 31), none), ((Z + 29), none), ((Z + 27), none), ((Z + 30), none), ((Z + 32), none), (Z, some 9), ((Z + 39), none), ((Z + 38), none), ((Z + 37), none), (Z, some 11), (173, none), (172, none), (171, none), (82, some 20), ((Z + 17), none), ((Z + 16), none), ((Z + 15), none), ((Z + 25), none), (Z, some 8), ((Z + 20), none), ((Z + 21), none), ((Z + 22), none), ((Z + 23), none), ((Z + 13), none), ((Z + 12), none), (Z, some 6), ((Z + 14), none), ((Z + 10), none), ((Z + 9), none), (Z, some 7), ((Z + 11), none), ((Z + 5), none), ((Z + 6), none), ((Z + 4), none), ((Z + 7), none), (Z, some 5)] I0 a) (fun b => Frm [(82, some 11), (84, some 0), (82, some 16), (82, some 13), (82, some 14), (82, some 12), (82, some 15), ((Z + 19), none), ((Z + 18), none), ((Z + 34), none), (174, none), (Z, some 4), ((Z + 1), none), ((Z + 2), none), (Z, some 3), ((Z + 3), none), ((Z + 36), none), ((Z + 35), none), (Z, some 10), ((Z + 28), none), ((Z + 26), none), ((Z + 31), none), ((Z + 29), none), ((Z + 27), none), ((Z + 30), none), ((Z + 32), none), (Z, some 9), ((Z + 39), none), ((Z + 38), none), ((Z + 37), none), (Z, some 11), (173, none), (172, none), (171, none), (82, some 20), ((Z + 17), none), ((Z + 16), none), ((Z + 15), none), ((Z + 25), none), (Z, some 8), ((Z + 20), none), ((Z + 21), none), ((Z + 22), none), ((Z + 23), none), ((Z + 13), none), ((Z + 12), none), (Z, some 6), ((Z + 14), none), ((Z + 10), none), ((Z + 9), none), (Z, some 7), ((Z + 11), none), ((Z + 5), none), ((Z + 6), none), ((Z + 4), none), ((Z + 7), none), (Z, some 5)] I0 b) b) q) := by
  rcases hZ with rfl | rfl
  all_goals
    intro n
    induction n with
    | zero => intro b2 I h0; exact F.none
    | succ n ih =>
      intro b2 I h0
      rw [l198_137]
      refine F.bindr (fun q9 => ?_)
      refine F.ite (fun _ => ?_) (fun _ => ?_)
      · refine F.bind (x199_fr  _ _ Frm.refl) (fun q10 hq10 => ?_)
        refine F.ite (fun _ => ?_) (fun _ => ?_)
        · refine F.bind (x199_fr  _ _ Frm.refl) (fun q11 hq11 => ?_)
          refine F.ite (fun _ => ?_) (fun _ => ?_)
          · refine F.bind (x199_fr  _ _ Frm.refl) (fun q12 hq12 => ?_)
            refine F.ite (fun _ => ?_) (fun _ => ?_)
            · refine F.bind (x199_fr  _ _ Frm.refl) (fun q13 hq13 => ?_)
              refine F.ite (fun _ => ?_) (fun _ => ?_)
              · exact F.some (Frm.u2 (Frm.trans (Frm.trans (Frm.trans (Frm.trans h0 hq10 rfl) hq11 rfl) hq12 rfl) hq13 rfl) rfl)
              · refine F.ite (fun _ => ?_) (fun _ => ?_)
                · exact F.some (Frm.u2 (Frm.trans (Frm.trans (Frm.trans (Frm.trans h0 hq10 rfl) hq11 rfl) hq12 rfl) hq13 rfl) rfl)
                · refine F.bind (x199_fr  _ _ Frm.refl) (fun q14 hq14 => ?_)
                  refine F.bindT (x209_fr (by decide) _ _ Frm.refl) (fun J hJ => ?_) (fun q15 hq15 => ?_)
                  · exact F.some (Frm.trans (Frm.trans (Frm.trans (Frm.trans (Frm.trans (Frm.trans h0 hq10 rfl) hq11 rfl) hq12 rfl) hq13 rfl) hq14 rfl) hJ rfl)
                  · exact ih _ _ (Frm.trans (Frm.trans (Frm.trans (Frm.trans (Frm.trans (Frm.trans h0 hq10 rfl) hq11 rfl) hq12 rfl) hq13 rfl) hq14 rfl) hq15 rfl)
            · refine F.ite (fun _ => ?_) (fun _ => ?_)
              · exact F.some (Frm.u2 (Frm.trans (Frm.trans (Frm.trans h0 hq10 rfl) hq11 rfl) hq12 rfl) rfl)
              · refine F.bind (x199_fr  _ _ Frm.refl) (fun q16 hq16 => ?_)
                refine F.bindT (x209_fr (by decide) _ _ Frm.refl) (fun J hJ => ?_) (fun q17 hq17 => ?_)
                · exact F.some (Frm.trans (Frm.trans (Frm.trans (Frm.trans (Frm.trans h0 hq10 rfl) hq11 rfl) hq12 rfl) hq16 rfl) hJ rfl)
                · exact ih _ _ (Frm.trans (Frm.trans (Frm.trans (Frm.trans (Frm.trans h0 hq10 rfl) hq11 rfl) hq12 rfl) hq16 rfl) hq17 rfl)
          · refine F.ite (fun _ => ?_) (fun _ => ?_)
            · exact F.some (Frm.u2 (Frm.trans (Frm.trans h0 hq10 rfl) hq11 rfl) rfl)
            · refine F.bindT (x208_fr (by decide) _ _ Frm.refl) (fun J hJ => ?_) (fun q18 hq18 => ?_)
              · exact F.some (Frm.trans (Frm.trans (Frm.trans h0 hq10 rfl) hq11 rfl) hJ rfl)
              · exact ih _ _ (Frm.trans (Frm.trans (Frm.trans h0 hq10 rfl) hq11 rfl) hq18 rfl)
        · refine F.ite (fun _ => ?_) (fun _ => ?_)
          · exact F.some (Frm.u2 (Frm.trans h0 hq10 rfl) rfl)
          · refine F.bindT (x205_fr (by decide) _ _ Frm.refl) (fun J hJ => ?_) (fun q19 hq19 => ?_)
            · exact F.some (Frm.trans (Frm.trans h0 hq10 rfl) hJ rfl)
            · exact ih _ _ (Frm.trans (Frm.trans h0 hq10 rfl) hq19 rfl)
      · exact F.some h0
theorem x198_fr {Z : Nat} (hZ : Z = 85 ∨ Z = 126) (I0 I : St) (h0 : Frm [(82, some 11), (84, some 0), (82, some 16), (82, some 13), (82, some 14), (82, some 12), (82, some 15), ((Z + 19), none), ((Z + 18), none), ((Z + 34), none), (174, none), (Z, some 4), ((Z + 1), none), ((Z + 2), none), (Z, some 3), ((Z + 3), none), ((Z + 36), none), ((Z + 35), none), (Z, some 10), ((Z + 28), none), ((Z + 26), none), ((Z + 31), none), ((Z + 29), none), ((Z + 27), none), ((Z + 30), none), ((Z + 32), none), (Z, some 9), ((Z + 39), none), ((Z + 38), none), ((Z + 37), none), (Z, some 11), (173, none), (172, none), (171, none), (82, some 20), ((Z + 17), none), ((Z + 16), none), ((Z + 15), none), ((Z + 25), none), (Z, some 8), ((Z + 20), none), ((Z + 21), none), ((Z + 22), none), ((Z + 23), none), ((Z + 13), none), ((Z + 12), none), (Z, some 6), ((Z + 14), none), ((Z + 10), none), ((Z + 9), none), (Z, some 7), ((Z + 11), none), ((Z + 5), none), ((Z + 6), none), ((Z + 4), none), ((Z + 7), none), (Z, some 5)] I0 I) : Fq (x198 Z I) (fun q => Sum.elim (fun a => Frm [(82, some 11), (84, some 0), (82, some 16), (82, some 13), (82, some 14), (82, some 12), (82, some 15), ((Z + 19), none), ((Z + 18), none), ((Z + 34), none), (174, none), (Z, some 4), ((Z + 1), none), ((Z + 2), none), (Z, some 3), ((Z + 3), none), ((Z + 36), none), ((Z + 35), none), (Z, some 10), ((Z + 28), none), ((Z + 26), none), ((Z + 31), none), ((Z + 29), none), ((Z + 27), none), ((Z + 30), none), ((Z + 32), none), (Z, some 9), ((Z + 39), none), ((Z + 38), none), ((Z + 37), none), (Z, some 11), (173, none), (172, none), (171, none), (82, some 20), ((Z + 17), none), ((Z + 16), none), ((Z + 15), none), ((Z + 25), none), (Z, some 8), ((Z + 20), none), ((Z + 21), none), ((Z + 22), none), ((Z + 23), none), ((Z + 13), none), ((Z + 12), none), (Z, some 6), ((Z + 14), none), ((Z + 10), none), ((Z + 9), none), (Z, some 7), ((Z + 11), none), ((Z + 5), none), ((Z + 6), none), ((Z + 4), none), ((Z + 7), none), (Z, some 5)] I0 a) (fun b => Frm [(82, some 11), (84, some 0), (82, some 16), (82, some 13), (82, some 14), (82, some 12), (82, some 15), ((Z + 19), none), ((Z + 18), none), ((Z + 34), none), (174, none), (Z, some 4), ((Z + 1), none), ((Z + 2), none), (Z, some 3), ((Z + 3), none), ((Z + 36), none), ((Z + 35), none), (Z, some 10), ((Z + 28), none), ((Z + 26), none), ((Z + 31), none), ((Z + 29), none), ((Z + 27), none), ((Z + 30), none), ((Z + 32), none), (Z, some 9), ((Z + 39), none), ((Z + 38), none), ((Z + 37), none), (Z, some 11), (173, none), (172, none), (171, none), (82, some 20), ((Z + 17), none), ((Z + 16), none), ((Z + 15), none), ((Z + 25), none), (Z, some 8), ((Z + 20), none), ((Z + 21), none), ((Z + 22), none), ((Z + 23), none), ((Z + 13), none), ((Z + 12), none), (Z, some 6), ((Z + 14), none), ((Z + 10), none), ((Z + 9), none), (Z, some 7), ((Z + 11), none), ((Z + 5), none), ((Z + 6), none), ((Z + 4), none), ((Z + 7), none), (Z, some 5)] I0 b) q) := by
  rcases hZ with rfl | rfl
  · unfold x198
    refine F.bind (x199_fr  _ _ Frm.refl) (fun q1 hq1 => ?_)
    refine F.ite (fun _ => ?_) (fun _ => ?_)
    · exact F.some (Frm.u2 (Frm.trans h0 hq1 rfl) rfl)
    · refine F.ite (fun _ => ?_) (fun _ => ?_)
      · exact F.some (Frm.u2 (Frm.trans h0 hq1 rfl) rfl)
      · refine F.bind (x192_fr  _ _ Frm.refl) (fun q2 hq2 => ?_)
        refine F.ite (fun _ => ?_) (fun _ => ?_)
        · refine F.bindT (x201_fr (by decide) _ _ Frm.refl) (fun J hJ => ?_) (fun q3 hq3 => ?_)
          · exact F.some (Frm.trans (Frm.u2 (Frm.trans (Frm.trans h0 hq1 rfl) hq2 rfl) rfl) hJ rfl)
          · refine F.ite (fun _ => ?_) (fun _ => ?_)
            · refine F.ite (fun _ => ?_) (fun _ => ?_)
              · refine F.bindr (fun q4 => ?_)
                refine F.bind (S := fun q => Sum.elim (fun a => Frm [(82, some 11), (84, some 0), (82, some 16), (82, some 13), (82, some 14), (82, some 12), (82, some 15), ((85 + 19), none), ((85 + 18), none), ((85 + 34), none), (174, none), (85, some 4), ((85 + 1), none), ((85 + 2), none), (85, some 3), ((85 + 3), none), ((85 + 36), none), ((85 + 35), none), (85, some 10), ((85 + 28), none), ((85 + 26), none), ((85 + 31), none), ((85 + 29), none), ((85 + 27), none), ((85 + 30), none), ((85 + 32), none), (85, some 9), ((85 + 39), none), ((85 + 38), none), ((85 + 37), none), (85, some 11), (173, none), (172, none), (171, none), (82, some 20), ((85 + 17), none), ((85 + 16), none), ((85 + 15), none), ((85 + 25), none), (85, some 8), ((85 + 20), none), ((85 + 21), none), ((85 + 22), none), ((85 + 23), none), ((85 + 13), none), ((85 + 12), none), (85, some 6), ((85 + 14), none), ((85 + 10), none), ((85 + 9), none), (85, some 7), ((85 + 11), none), ((85 + 5), none), ((85 + 6), none), ((85 + 4), none), ((85 + 7), none), (85, some 5)] I0 a) (fun b => Frm [(82, some 11), (84, some 0), (82, some 16), (82, some 13), (82, some 14), (82, some 12), (82, some 15), ((85 + 19), none), ((85 + 18), none), ((85 + 34), none), (174, none), (85, some 4), ((85 + 1), none), ((85 + 2), none), (85, some 3), ((85 + 3), none), ((85 + 36), none), ((85 + 35), none), (85, some 10), ((85 + 28), none), ((85 + 26), none), ((85 + 31), none), ((85 + 29), none), ((85 + 27), none), ((85 + 30), none), ((85 + 32), none), (85, some 9), ((85 + 39), none), ((85 + 38), none), ((85 + 37), none), (85, some 11), (173, none), (172, none), (171, none), (82, some 20), ((85 + 17), none), ((85 + 16), none), ((85 + 15), none), ((85 + 25), none), (85, some 8), ((85 + 20), none), ((85 + 21), none), ((85 + 22), none), ((85 + 23), none), ((85 + 13), none), ((85 + 12), none), (85, some 6), ((85 + 14), none), ((85 + 10), none), ((85 + 9), none), (85, some 7), ((85 + 11), none), ((85 + 5), none), ((85 + 6), none), ((85 + 4), none), ((85 + 7), none), (85, some 5)] I0 b) q) ?_ (fun z hz => ?_)
                · refine F.ite (fun _ => ?_) (fun _ => ?_)
                  · exact F.some (Frm.u2 (Frm.u2 (Frm.trans (Frm.u2 (Frm.trans (Frm.trans h0 hq1 rfl) hq2 rfl) rfl) hq3 rfl) rfl) rfl)
                  · refine F.bind (x192_fr  _ _ Frm.refl) (fun q5 hq5 => ?_)
                    refine F.ite (fun _ => ?_) (fun _ => ?_)
                    · refine F.bindT (x201_fr (by decide) _ _ Frm.refl) (fun J hJ => ?_) (fun q6 hq6 => ?_)
                      · exact F.some (Frm.trans (Frm.u2 (Frm.trans (Frm.u2 (Frm.u2 (Frm.trans (Frm.u2 (Frm.trans (Frm.trans h0 hq1 rfl) hq2 rfl) rfl) hq3 rfl) rfl) rfl) hq5 rfl) rfl) hJ rfl)
                      · refine F.ite (fun _ => ?_) (fun _ => ?_)
                        · exact F.some (Frm.u2 (Frm.trans (Frm.u2 (Frm.trans (Frm.u2 (Frm.u2 (Frm.trans (Frm.u2 (Frm.trans (Frm.trans h0 hq1 rfl) hq2 rfl) rfl) hq3 rfl) rfl) rfl) hq5 rfl) rfl) hq6 rfl) rfl)
                        · exact F.none
                    · exact F.none
                cases z with
                | inl J =>
                  exact F.some hz
                | inr q7 =>
                  refine F.bindT (x204_fr  _ _ Frm.refl) (fun J hJ => ?_) (fun q8 hq8 => ?_)
                  · exact F.some (Frm.trans (Frm.u2 hz rfl) hJ rfl)
                  · refine F.bindE (l198_137_fr (by decide) _ _ _ (Frm.trans (Frm.u2 hz rfl) hq8 rfl)) (fun q20 hq20 => ?_) (fun r hr => ?_)
                    · refine F.bind (x192_fr  _ _ Frm.refl) (fun q23 hq23 => ?_)
                      exact F.some (Frm.trans hq20 hq23 rfl)
                    · exact F.some hr
              · exact F.none
            · exact F.none
        · exact F.none
  · unfold x198
    refine F.bind (x199_fr  _ _ Frm.refl) (fun q1 hq1 => ?_)
    refine F.ite (fun _ => ?_) (fun _ => ?_)
    · exact F.some (Frm.u2 (Frm.trans h0 hq1 rfl) rfl)
    · refine F.ite (fun _ => ?_) (fun _ => ?_)
      · exact F.some (Frm.u2 (Frm.trans h0 hq1 rfl) rfl)
      · refine F.bind (x192_fr  _ _ Frm.refl) (fun q2 hq2 => ?_)
        refine F.ite (fun _ => ?_) (fun _ => ?_)
        · refine F.bindT (x201_fr (by decide) _ _ Frm.refl) (fun J hJ => ?_) (fun q3 hq3 => ?_)
          · exact F.some (Frm.trans (Frm.u2 (Frm.trans (Frm.trans h0 hq1 rfl) hq2 rfl) rfl) hJ rfl)
          · refine F.ite (fun _ => ?_) (fun _ => ?_)
            · refine F.ite (fun _ => ?_) (fun _ => ?_)
              · refine F.bindr (fun q4 => ?_)
                refine F.bind (S := fun q => Sum.elim (fun a => Frm [(82, some 11), (84, some 0), (82, some 16), (82, some 13), (82, some 14), (82, some 12), (82, some 15), ((126 + 19), none), ((126 + 18), none), ((126 + 34), none), (174, none), (126, some 4), ((126 + 1), none), ((126 + 2), none), (126, some 3), ((126 + 3), none), ((126 + 36), none), ((126 + 35), none), (126, some 10), ((126 + 28), none), ((126 + 26), none), ((126 + 31), none), ((126 + 29), none), ((126 + 27), none), ((126 + 30), none), ((126 + 32), none), (126, some 9), ((126 + 39), none), ((126 + 38), none), ((126 + 37), none), (126, some 11), (173, none), (172, none), (171, none), (82, some 20), ((126 + 17), none), ((126 + 16), none), ((126 + 15), none), ((126 + 25), none), (126, some 8), ((126 + 20), none), ((126 + 21), none), ((126 + 22), none), ((126 + 23), none), ((126 + 13), none), ((126 + 12), none), (126, some 6), ((126 + 14), none), ((126 + 10), none), ((126 + 9), none), (126, some 7), ((126 + 11), none), ((126 + 5), none), ((126 + 6), none), ((126 + 4), none), ((126 + 7), none), (126, some 5)] I0 a) (fun b => Frm [(82, some 11), (84, some 0), (82, some 16), (82, some 13), (82, some 14), (82, some 12), (82, some 15), ((126 + 19), none), ((126 + 18), none), ((126 + 34), none), (174, none), (126, some 4), ((126 + 1), none), ((126 + 2), none), (126, some 3), ((126 + 3), none), ((126 + 36), none), ((126 + 35), none), (126, some 10), ((126 + 28), none), ((126 + 26), none), ((126 + 31), none), ((126 + 29), none), ((126 + 27), none), ((126 + 30), none), ((126 + 32), none), (126, some 9), ((126 + 39), none), ((126 + 38), none), ((126 + 37), none), (126, some 11), (173, none), (172, none), (171, none), (82, some 20), ((126 + 17), none), ((126 + 16), none), ((126 + 15), none), ((126 + 25), none), (126, some 8), ((126 + 20), none), ((126 + 21), none), ((126 + 22), none), ((126 + 23), none), ((126 + 13), none), ((126 + 12), none), (126, some 6), ((126 + 14), none), ((126 + 10), none), ((126 + 9), none), (126, some 7), ((126 + 11), none), ((126 + 5), none), ((126 + 6), none), ((126 + 4), none), ((126 + 7), none), (126, some 5)] I0 b) q) ?_ (fun z hz => ?_)
                · refine F.ite (fun _ => ?_) (fun _ => ?_)
                  · exact F.some (Frm.u2 (Frm.u2 (Frm.trans (Frm.u2 (Frm.trans (Frm.trans h0 hq1 rfl) hq2 rfl) rfl) hq3 rfl) rfl) rfl)
                  · refine F.bind (x192_fr  _ _ Frm.refl) (fun q5 hq5 => ?_)
                    refine F.ite (fun _ => ?_) (fun _ => ?_)
                    · refine F.bindT (x201_fr (by decide) _ _ Frm.refl) (fun J hJ => ?_) (fun q6 hq6 => ?_)
                      · exact F.some (Frm.trans (Frm.u2 (Frm.trans (Frm.u2 (Frm.u2 (Frm.trans (Frm.u2 (Frm.trans (Frm.trans h0 hq1 rfl) hq2 rfl) rfl) hq3 rfl) rfl) rfl) hq5 rfl) rfl) hJ rfl)
                      · refine F.ite (fun _ => ?_) (fun _ => ?_)
                        · exact F.some (Frm.u2 (Frm.trans (Frm.u2 (Frm.trans (Frm.u2 (Frm.u2 (Frm.trans (Frm.u2 (Frm.trans (Frm.trans h0 hq1 rfl) hq2 rfl) rfl) hq3 rfl) rfl) rfl) hq5 rfl) rfl) hq6 rfl) rfl)
                        · exact F.none
                    · exact F.none
                cases z with
                | inl J =>
                  exact F.some hz
                | inr q7 =>
                  refine F.bindT (x204_fr  _ _ Frm.refl) (fun J hJ => ?_) (fun q8 hq8 => ?_)
                  · exact F.some (Frm.trans (Frm.u2 hz rfl) hJ rfl)
                  · refine F.bindE (l198_137_fr (by decide) _ _ _ (Frm.trans (Frm.u2 hz rfl) hq8 rfl)) (fun q20 hq20 => ?_) (fun r hr => ?_)
                    · refine F.bind (x192_fr  _ _ Frm.refl) (fun q23 hq23 => ?_)
                      exact F.some (Frm.trans hq20 hq23 rfl)
                    · exact F.some hr
              · exact F.none
            · exact F.none
        · exact F.none
theorem l225_2_fr {Z : Nat} {I0 : St} (hZ : Z = 85 ∨ Z = 126) : ∀ (n : Nat) (b1 : Int32) (I : St), Frm [(176, none), (175, none), (180, none), (179, none), (82, some 5), (82, some 22), (178, none), (177, none), ((Z + 24), none), (82, some 30), (82, some 29), (82, some 31), (82, some 32)] I0 I → Fq (l225_2 Z n b1 I) (fun q => Frm [(176, none), (175, none), (180, none), (179, none), (82, some 5), (82, some 22), (178, none), (177, none), ((Z + 24), none), (82, some 30), (82, some 29), (82, some 31), (82, some 32)] I0 q) := by
  rcases hZ with rfl | rfl
  all_goals
    intro n
    induction n with
    | zero => intro b1 I h0; exact F.none
    | succ n ih =>
      intro b1 I h0
      rw [l225_2]
      refine F.ite (fun _ => ?_) (fun _ => ?_)
      · exact F.some h0
      · refine F.ite (fun _ => ?_) (fun _ => ?_)
        · refine F.bind (x226_fr (by decide) _ _ Frm.refl) (fun q1 hq1 => ?_)
          exact ih _ _ (Frm.trans h0 hq1 rfl)
        · exact F.some h0
theorem x225_fr {Z : Nat} (hZ : Z = 85 ∨ Z = 126) (I0 I : St) (h0 : Frm [(176, none), (175, none), (180, none), (179, none), (82, some 5), (82, some 22), (178, none), (177, none), ((Z + 24), none), (82, some 30), (82, some 29), (82, some 31), (82, some 32)] I0 I) : Fq (x225 Z I) (fun q => Frm [(176, none), (175, none), (180, none), (179, none), (82, some 5), (82, some 22), (178, none), (177, none), ((Z + 24), none), (82, some 30), (82, some 29), (82, some 31), (82, some 32)] I0 q) := by
  rcases hZ with rfl | rfl
  all_goals
    unfold x225
    refine F.bind (l225_2_fr (by decide) _ _ _ h0) (fun q2 hq2 => ?_)
    exact F.some hq2
theorem l237_65_fr {Q : Nat} {b1 : Int32} {I0 : St} (hQ : Q = 85 ∨ Q = 126) : ∀ (n : Nat) (b2 : Int32) (I : St), Frm [(188, none), (187, none), (197, none), (196, none), (82, some 34), (199, none), (198, none), (82, some 65), (82, some 64), (82, some 66), (191, none), (190, none), (189, none), (82, some 38), (82, some 39), (192, none), (186, none), (185, none), (181, none), (82, some 40), (82, some 41), (184, none), (183, none), (182, none), (82, some 48), (82, some 63), (82, some 55), (82, some 36), (82, some 35), (195, none), (194, none), (193, none), (82, some 37), (82, some 33)] I0 I → Fq (l237_65 Q b1 n b2 I) (fun q => Frm [(188, none), (187, none), (197, none), (196, none), (82, some 34), (199, none), (198, none), (82, some 65), (82, some 64), (82, some 66), (191, none), (190, none), (189, none), (82, some 38), (82, some 39), (192, none), (186, none), (185, none), (181, none), (82, some 40), (82, some 41), (184, none), (183, none), (182, none), (82, some 48), (82, some 63), (82, some 55), (82, some 36), (82, some 35), (195, none), (194, none), (193, none), (82, some 37), (82, some 33)] I0 q) := by
  rcases hQ with rfl | rfl
  all_goals
    intro n
    induction n with
    | zero => intro b2 I h0; exact F.none
    | succ n ih =>
      intro b2 I h0
      rw [l237_65]
      refine F.ite (fun _ => ?_) (fun _ => ?_)
      · exact F.some h0
      · refine F.ite (fun _ => ?_) (fun _ => ?_)
        · refine F.ite (fun _ => ?_) (fun _ => ?_)
          · exact ih _ _ (Frm.u2 (Frm.u2 h0 rfl) rfl)
          · exact F.none
        · exact F.none
theorem l237_145_fr {Q : Nat} {b2 : Int32} {I0 : St} (hQ : Q = 85 ∨ Q = 126) : ∀ (n : Nat) (b3 : Int32) (I : St), Frm [(188, none), (187, none), (197, none), (196, none), (82, some 34), (199, none), (198, none), (82, some 65), (82, some 64), (82, some 66), (191, none), (190, none), (189, none), (82, some 38), (82, some 39), (192, none), (186, none), (185, none), (181, none), (82, some 40), (82, some 41), (184, none), (183, none), (182, none), (82, some 48), (82, some 63), (82, some 55), (82, some 36), (82, some 35), (195, none), (194, none), (193, none), (82, some 37), (82, some 33)] I0 I → Fq (l237_145 Q b2 n b3 I) (fun q => Frm [(188, none), (187, none), (197, none), (196, none), (82, some 34), (199, none), (198, none), (82, some 65), (82, some 64), (82, some 66), (191, none), (190, none), (189, none), (82, some 38), (82, some 39), (192, none), (186, none), (185, none), (181, none), (82, some 40), (82, some 41), (184, none), (183, none), (182, none), (82, some 48), (82, some 63), (82, some 55), (82, some 36), (82, some 35), (195, none), (194, none), (193, none), (82, some 37), (82, some 33)] I0 q) := by
  rcases hQ with rfl | rfl
  all_goals
    intro n
    induction n with
    | zero => intro b3 I h0; exact F.none
    | succ n ih =>
      intro b3 I h0
      rw [l237_145]
      refine F.ite (fun _ => ?_) (fun _ => ?_)
      · exact F.some h0
      · refine F.bind (S := fun q => True) ?_ (fun q8 hq8 => ?_)
        · refine F.ite (fun _ => ?_) (fun _ => ?_)
          · refine F.ite (fun _ => ?_) (fun _ => ?_)
            · exact F.some trivial
            · refine F.ite (fun _ => ?_) (fun _ => ?_)
              · exact F.some trivial
              · refine F.ite (fun _ => ?_) (fun _ => ?_)
                · refine F.ite (fun _ => ?_) (fun _ => ?_)
                  · exact F.some trivial
                  · refine F.ite (fun _ => ?_) (fun _ => ?_)
                    · refine F.ite (fun _ => ?_) (fun _ => ?_)
                      · exact F.some trivial
                      · exact F.some trivial
                    · exact F.none
                · exact F.none
          · refine F.ite (fun _ => ?_) (fun _ => ?_)
            · exact F.some trivial
            · refine F.ite (fun _ => ?_) (fun _ => ?_)
              · refine F.ite (fun _ => ?_) (fun _ => ?_)
                · exact F.some trivial
                · refine F.ite (fun _ => ?_) (fun _ => ?_)
                  · refine F.ite (fun _ => ?_) (fun _ => ?_)
                    · exact F.some trivial
                    · exact F.some trivial
                  · exact F.none
              · exact F.none
        refine F.bind (S := fun q => True) ?_ (fun q9 hq9 => ?_)
        · refine F.ite (fun _ => ?_) (fun _ => ?_)
          · exact F.some trivial
          · refine F.ite (fun _ => ?_) (fun _ => ?_)
            · refine F.ite (fun _ => ?_) (fun _ => ?_)
              · exact F.some trivial
              · exact F.none
            · exact F.some trivial
        refine F.ite (fun _ => ?_) (fun _ => ?_)
        · refine F.ite (fun _ => ?_) (fun _ => ?_)
          · refine F.ite (fun _ => ?_) (fun _ => ?_)
            · exact ih _ _ (Frm.u2 (Frm.u2 h0 rfl) rfl)
            · exact F.none
          · refine F.ite (fun _ => ?_) (fun _ => ?_)
            · refine F.ite (fun _ => ?_) (fun _ => ?_)
              · refine F.letS (Frm.u2 (Frm.u2 h0 rfl) rfl) (fun J10 hJ10 => ?_)
                exact ih _ _ hJ10
              · exact F.none
            · exact F.none
        · exact F.none
theorem l237_272_fr {Q : Nat} {I0 : St} (hQ : Q = 85 ∨ Q = 126) : ∀ (n : Nat) (I : St), Frm [(188, none), (187, none), (197, none), (196, none), (82, some 34), (199, none), (198, none), (82, some 65), (82, some 64), (82, some 66), (191, none), (190, none), (189, none), (82, some 38), (82, some 39), (192, none), (186, none), (185, none), (181, none), (82, some 40), (82, some 41), (184, none), (183, none), (182, none), (82, some 48), (82, some 63), (82, some 55), (82, some 36), (82, some 35), (195, none), (194, none), (193, none), (82, some 37), (82, some 33)] I0 I → Fq (l237_272 Q n I) (fun q => Frm [(188, none), (187, none), (197, none), (196, none), (82, some 34), (199, none), (198, none), (82, some 65), (82, some 64), (82, some 66), (191, none), (190, none), (189, none), (82, some 38), (82, some 39), (192, none), (186, none), (185, none), (181, none), (82, some 40), (82, some 41), (184, none), (183, none), (182, none), (82, some 48), (82, some 63), (82, some 55), (82, some 36), (82, some 35), (195, none), (194, none), (193, none), (82, some 37), (82, some 33)] I0 q) := by
  rcases hQ with rfl | rfl
  all_goals
    intro n
    induction n with
    | zero => intro I h0; exact F.none
    | succ n ih =>
      intro I h0
      rw [l237_272]
      refine F.ite (fun _ => ?_) (fun _ => ?_)
      · refine F.ite (fun _ => ?_) (fun _ => ?_)
        · exact ih  _ (Frm.u2 h0 rfl)
        · refine F.bind (x238_fr (by decide) _ _ Frm.refl) (fun q16 hq16 => ?_)
          refine F.ite (fun _ => ?_) (fun _ => ?_)
          · exact ih  _ (Frm.trans h0 hq16 rfl)
          · exact ih  _ (Frm.u2 (Frm.trans h0 hq16 rfl) rfl)
      · exact F.some h0
theorem x237_fr {Q : Nat} {a1 : Int32} (hQ : Q = 85 ∨ Q = 126) (I0 I : St) (h0 : Frm [(188, none), (187, none), (197, none), (196, none), (82, some 34), (199, none), (198, none), (82, some 65), (82, some 64), (82, some 66), (191, none), (190, none), (189, none), (82, some 38), (82, some 39), (192, none), (186, none), (185, none), (181, none), (82, some 40), (82, some 41), (184, none), (183, none), (182, none), (82, some 48), (82, some 63), (82, some 55), (82, some 36), (82, some 35), (195, none), (194, none), (193, none), (82, some 37), (82, some 33)] I0 I) : Fq (x237 Q I a1) (fun q => Frm [(188, none), (187, none), (197, none), (196, none), (82, some 34), (199, none), (198, none), (82, some 65), (82, some 64), (82, some 66), (191, none), (190, none), (189, none), (82, some 38), (82, some 39), (192, none), (186, none), (185, none), (181, none), (82, some 40), (82, some 41), (184, none), (183, none), (182, none), (82, some 48), (82, some 63), (82, some 55), (82, some 36), (82, some 35), (195, none), (194, none), (193, none), (82, some 37), (82, some 33)] I0 q.2) := by
  rcases hQ with rfl | rfl
  all_goals
    unfold x237
    refine F.ite (fun _ => ?_) (fun _ => ?_)
    · exact F.some h0
    · refine F.ite (fun _ => ?_) (fun _ => ?_)
      · refine F.letS (Frm.u2 (Frm.u2 (Frm.u2 (Frm.u2 (Frm.u2 (Frm.u2 (Frm.u2 h0 rfl) rfl) rfl) rfl) rfl) rfl) rfl) (fun J1 hJ1 => ?_)
        refine F.bind (l237_65_fr (by decide) _ _ _ (Frm.u2 (Frm.u2 hJ1 rfl) rfl)) (fun q2 hq2 => ?_)
        refine F.ite (fun _ => ?_) (fun _ => ?_)
        · refine F.letS (Frm.u2 (Frm.u2 (Frm.u2 hq2 rfl) rfl) rfl) (fun J6 hJ6 => ?_)
          refine F.ite (fun _ => ?_) (fun _ => ?_)
          · refine F.bind (S := fun q => True) ?_ (fun q7 hq7 => ?_)
            · refine F.ite (fun _ => ?_) (fun _ => ?_)
              · exact F.some trivial
              · exact F.some trivial
            refine F.bind (l237_145_fr (by decide) _ _ _ (Frm.u2 hJ6 rfl)) (fun q11 hq11 => ?_)
            refine F.bind (l237_272_fr (by decide) _  _ (Frm.u2 hq11 rfl)) (fun q17 hq17 => ?_)
            exact F.some hq17
          · exact F.none
        · exact F.none
      · exact F.some h0
theorem l97_12_fr {P : Nat} {I0 : St} (hP : P = 3 ∨ P = 18) : ∀ (n : Nat) (b2 : Int32) (I : St), Frm [(60, none), ((P + 8), none), (58, some 6), (58, some 9), (58, some 8), (58, some 7), (58, some 11), (58, some 10), (58, some 5), (58, some 4), (58, some 3)] I0 I → Fq (l97_12 P n b2 I) (fun q => Frm [(60, none), ((P + 8), none), (58, some 6), (58, some 9), (58, some 8), (58, some 7), (58, some 11), (58, some 10), (58, some 5), (58, some 4), (58, some 3)] I0 q) := by
  rcases hP with rfl | rfl
  all_goals
    intro n
    induction n with
    | zero => intro b2 I h0; exact F.none
    | succ n ih =>
      intro b2 I h0
      rw [l97_12]
      refine F.ite (fun _ => ?_) (fun _ => ?_)
      · exact F.some h0
      · refine F.ite (fun _ => ?_) (fun _ => ?_)
        · refine F.bind (x98_fr (by decide) _ _ Frm.refl) (fun q1 hq1 => ?_)
          exact ih _ _ (Frm.trans h0 hq1 rfl)
        · exact F.some h0
theorem x97_fr {P : Nat} (hP : P = 3 ∨ P = 18) (I0 I : St) (h0 : Frm [(60, none), ((P + 8), none), (58, some 6), (58, some 9), (58, some 8), (58, some 7), (58, some 11), (58, some 10), (58, some 5), (58, some 4), (58, some 3)] I0 I) : Fq (x97 P I) (fun q => Frm [(60, none), ((P + 8), none), (58, some 6), (58, some 9), (58, some 8), (58, some 7), (58, some 11), (58, some 10), (58, some 5), (58, some 4), (58, some 3)] I0 q.2) := by
  rcases hP with rfl | rfl
  all_goals
    unfold x97
    refine F.bind (l97_12_fr (by decide) _ _ _ (Frm.u2 h0 rfl)) (fun q2 hq2 => ?_)
    exact F.some hq2
