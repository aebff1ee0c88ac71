/-! FUNCTIONS OF METHODS, by program (wip/gen/all.py): 249 270 26 55 64 75 86 -/
/-- TaintHouseModel.goes(II)V -/
def x249 (Q : Nat) (I : St) (a1 a2 : Int32) : Option (St) := (if a2 < 21 then if a2 < 27 then if a2 = 33 then (x240 I).bind fun q1 => (if q1.1 = 0 then some 1 else some 0).bind fun (q2 : Int32) => (if a2 = 33 then some 1 else some 0).bind fun (q3 : Int32) => if q2 = q3 then some (1, q1.2) else some (0, q1.2) else if a2 = 34 then (x240 I).bind fun q4 => (if q4.1 = 0 then some 1 else some 0).bind fun (q5 : Int32) => (if a2 = 33 then some 1 else some 0).bind fun (q6 : Int32) => if q5 = q6 then some (1, q4.2) else some (0, q4.2) else if a2 = 20 then some (1, I) else (x240 I).bind fun q7 => (x240 q7.2).bind fun q8 => (if q8.1 = q7.1 then some 1 else some 0).bind fun (q9 : Int32) => (if a2 = 35 then some 1 else some 0).bind fun (q10 : Int32) => if q9 = q10 then some (1, q8.2) else some (0, q8.2) else if 32 < a2 then if a2 = 33 then (x240 I).bind fun q11 => (if q11.1 = 0 then some 1 else some 0).bind fun (q12 : Int32) => (if a2 = 33 then some 1 else some 0).bind fun (q13 : Int32) => if q12 = q13 then some (1, q11.2) else some (0, q11.2) else if a2 = 34 then (x240 I).bind fun q14 => (if q14.1 = 0 then some 1 else some 0).bind fun (q15 : Int32) => (if a2 = 33 then some 1 else some 0).bind fun (q16 : Int32) => if q15 = q16 then some (1, q14.2) else some (0, q14.2) else if a2 = 20 then some (1, I) else (x240 I).bind fun q17 => (x240 q17.2).bind fun q18 => (if q18.1 = q17.1 then some 1 else some 0).bind fun (q19 : Int32) => (if a2 = 35 then some 1 else some 0).bind fun (q20 : Int32) => if q19 = q20 then some (1, q18.2) else some (0, q18.2) else (x240 I).bind fun q21 => (x240 q21.2).bind fun q22 => some ((x250 q22.2 (a2 - 27) q22.1 q21.1), q22.2) else if 26 < a2 then if a2 < 27 then if a2 = 33 then (x240 I).bind fun q23 => (if q23.1 = 0 then some 1 else some 0).bind fun (q24 : Int32) => (if a2 = 33 then some 1 else some 0).bind fun (q25 : Int32) => if q24 = q25 then some (1, q23.2) else some (0, q23.2) else if a2 = 34 then (x240 I).bind fun q26 => (if q26.1 = 0 then some 1 else some 0).bind fun (q27 : Int32) => (if a2 = 33 then some 1 else some 0).bind fun (q28 : Int32) => if q27 = q28 then some (1, q26.2) else some (0, q26.2) else if a2 = 20 then some (1, I) else (x240 I).bind fun q29 => (x240 q29.2).bind fun q30 => (if q30.1 = q29.1 then some 1 else some 0).bind fun (q31 : Int32) => (if a2 = 35 then some 1 else some 0).bind fun (q32 : Int32) => if q31 = q32 then some (1, q30.2) else some (0, q30.2) else if 32 < a2 then if a2 = 33 then (x240 I).bind fun q33 => (if q33.1 = 0 then some 1 else some 0).bind fun (q34 : Int32) => (if a2 = 33 then some 1 else some 0).bind fun (q35 : Int32) => if q34 = q35 then some (1, q33.2) else some (0, q33.2) else if a2 = 34 then (x240 I).bind fun q36 => (if q36.1 = 0 then some 1 else some 0).bind fun (q37 : Int32) => (if a2 = 33 then some 1 else some 0).bind fun (q38 : Int32) => if q37 = q38 then some (1, q36.2) else some (0, q36.2) else if a2 = 20 then some (1, I) else (x240 I).bind fun q39 => (x240 q39.2).bind fun q40 => (if q40.1 = q39.1 then some 1 else some 0).bind fun (q41 : Int32) => (if a2 = 35 then some 1 else some 0).bind fun (q42 : Int32) => if q41 = q42 then some (1, q40.2) else some (0, q40.2) else (x240 I).bind fun q43 => (x240 q43.2).bind fun q44 => some ((x250 q44.2 (a2 - 27) q44.1 q43.1), q44.2) else (x240 I).bind fun q45 => some ((x250 q45.2 (a2 - 21) q45.1 0), q45.2)).bind fun (q46 : Int32 × St) => if q46.1 = 0 then some (up2 q46.2 82 64 (a1 + 1)) else if inb a1 2400 then some (up2 q46.2 82 64 (q46.2 (Q + 33) a1.toNatClampNeg)) else none
set_option maxRecDepth 20000 in
theorem x249_D {E : Xe} {R : Nat → Nat → Option Nat} {Q : Nat} {o : Outcome} {w : Wd} {T : (St) → Prop} {I : St} (hQ : Q = 85 ∨ Q = 126) (h82_3 : R 82 3 = some Q) (a1 a2 : Int32) (hT : ∀ r, T r → o = .returned none ∧ w = wT r R) : Dq (x249 Q I a1 a2) T → Rn E 249 (0, loc0 249 [.ref 82, .int a1, .int a2], [], wT I R) o w := by
  unfold x249
  rcases hQ with rfl | rfl
  · refine D.run 4 rfl ?_
    have Kj158 : ∀ (q46 : Int32 × St) (e47 : Value), is1 e47 = true → Dq (if q46.1 = 0 then some (up2 q46.2 82 64 (a1 + 1)) else if inb a1 2400 then some (up2 q46.2 82 64 (q46.2 (85 + 33) a1.toNatClampNeg)) else none) T → Rn E 249 (158, [.ref 82, .int a1, .int a2, .int q46.1, e47], [], wT q46.2 R) o w := by
      intro q46 e47 he47
      refine D.run 2 rfl ?_
      refine D.br rfl (by decide) rfl (fun hc => ?_) (fun hc => ?_)
      · refine D.run 4 rfl ?_
        exact fun h => by obtain ⟨rfl, rfl⟩ := hT _ (D.some h); exact Rn.ret rfl rfl rfl
      · refine D.run 1 rfl ?_
        refine D.st rfl (by decide) (gf_1 h82_3) ?_
        refine D.run 2 rfl ?_
        refine D.gd fun hg => ?_
        refine D.st rfl (by decide) (al_i (by decide) (by first | rfl | decide) hg.1 hg.2) ?_
        show _ → Rn E 249 (172, [.ref 82, .int a1, .int a2, .int q46.1, e47], [.int (q46.2 (85 + 33) a1.toNatClampNeg), .ref 82], wT q46.2 R) o w
        refine D.run 2 rfl ?_
        exact fun h => by obtain ⟨rfl, rfl⟩ := hT _ (D.some h); exact Rn.ret rfl rfl rfl
    refine D.jn (fun T158 c158 => ?_)
    refine D.br rfl (by decide) rfl (fun hc => ?_) (fun hc => ?_)
    · refine D.run 2 rfl ?_
      refine D.br rfl (by decide) rfl (fun hc => ?_) (fun hc => ?_)
      · refine D.run 2 rfl ?_
        refine D.br rfl (by decide) rfl (fun hc => ?_) (fun hc => ?_)
        · refine D.run 1 rfl ?_
          refine D.call rfl rfl rfl rfl (fun q h => x240_ok h) (fun q1 => ?_)
          have Kj89 : ∀ (q2 : Int32), Dq ((if a2 = 33 then some 1 else some 0).bind fun (q3 : Int32) => if q2 = q3 then some (1, q1.2) else some (0, q1.2)) T158 → Rn E 249 (89, [.ref 82, .int a1, .int a2, .int 1, us], [.int q2], wT q1.2 R) o w := by
            intro q2
            refine D.run 2 rfl ?_
            have Kj100 : ∀ (q3 : Int32), Dq (if q2 = q3 then some (1, q1.2) else some (0, q1.2)) T158 → Rn E 249 (100, [.ref 82, .int a1, .int a2, .int 1, us], [.int q3, .int q2], wT q1.2 R) o w := by
              intro q3
              refine D.br rfl (by decide) rfl (fun hc => ?_) (fun hc => ?_)
              · refine D.run 4 rfl ?_
                exact fun h => Kj158 _ _ (by first | rfl | assumption) (c158 _ (D.some h))
              · refine D.run 3 rfl ?_
                exact fun h => Kj158 _ _ (by first | rfl | assumption) (c158 _ (D.some h))
            refine D.jn (fun T100 c100 => ?_)
            refine D.br rfl (by decide) rfl (fun hc => ?_) (fun hc => ?_)
            · refine D.run 2 rfl ?_
              exact fun h => Kj100 _   (c100 _ (D.some h))
            · refine D.run 1 rfl ?_
              exact fun h => Kj100 _   (c100 _ (D.some h))
          refine D.jn (fun T89 c89 => ?_)
          refine D.br rfl (by decide) rfl (fun hc => ?_) (fun hc => ?_)
          · refine D.run 2 rfl ?_
            exact fun h => Kj89 _   (c89 _ (D.some h))
          · refine D.run 1 rfl ?_
            exact fun h => Kj89 _   (c89 _ (D.some h))
        · refine D.run 2 rfl ?_
          refine D.br rfl (by decide) rfl (fun hc => ?_) (fun hc => ?_)
          · refine D.run 1 rfl ?_
            refine D.call rfl rfl rfl rfl (fun q h => x240_ok h) (fun q4 => ?_)
            have Kj89 : ∀ (q5 : Int32), Dq ((if a2 = 33 then some 1 else some 0).bind fun (q6 : Int32) => if q5 = q6 then some (1, q4.2) else some (0, q4.2)) T158 → Rn E 249 (89, [.ref 82, .int a1, .int a2, .int 1, us], [.int q5], wT q4.2 R) o w := by
              intro q5
              refine D.run 2 rfl ?_
              have Kj100 : ∀ (q6 : Int32), Dq (if q5 = q6 then some (1, q4.2) else some (0, q4.2)) T158 → Rn E 249 (100, [.ref 82, .int a1, .int a2, .int 1, us], [.int q6, .int q5], wT q4.2 R) o w := by
                intro q6
                refine D.br rfl (by decide) rfl (fun hc => ?_) (fun hc => ?_)
                · refine D.run 4 rfl ?_
                  exact fun h => Kj158 _ _ (by first | rfl | assumption) (c158 _ (D.some h))
                · refine D.run 3 rfl ?_
                  exact fun h => Kj158 _ _ (by first | rfl | assumption) (c158 _ (D.some h))
              refine D.jn (fun T100 c100 => ?_)
              refine D.br rfl (by decide) rfl (fun hc => ?_) (fun hc => ?_)
              · refine D.run 2 rfl ?_
                exact fun h => Kj100 _   (c100 _ (D.some h))
              · refine D.run 1 rfl ?_
                exact fun h => Kj100 _   (c100 _ (D.some h))
            refine D.jn (fun T89 c89 => ?_)
            refine D.br rfl (by decide) rfl (fun hc => ?_) (fun hc => ?_)
            · refine D.run 2 rfl ?_
              exact fun h => Kj89 _   (c89 _ (D.some h))
            · refine D.run 1 rfl ?_
              exact fun h => Kj89 _   (c89 _ (D.some h))
          · refine D.run 2 rfl ?_
            refine D.br rfl (by decide) rfl (fun hc => ?_) (fun hc => ?_)
            · exact fun h => Kj158 _ _ (by first | rfl | assumption) (c158 _ (D.some h))
            · refine D.run 1 rfl ?_
              refine D.call rfl rfl rfl rfl (fun q h => x240_ok h) (fun q7 => ?_)
              refine D.run 2 rfl ?_
              refine D.call rfl rfl rfl rfl (fun q h => x240_ok h) (fun q8 => ?_)
              refine D.run 1 rfl ?_
              have Kj138 : ∀ (q9 : Int32), Dq ((if a2 = 35 then some 1 else some 0).bind fun (q10 : Int32) => if q9 = q10 then some (1, q8.2) else some (0, q8.2)) T158 → Rn E 249 (138, [.ref 82, .int a1, .int a2, .int 1, .int q7.1], [.int q9], wT q8.2 R) o w := by
                intro q9
                refine D.run 2 rfl ?_
                have Kj149 : ∀ (q10 : Int32), Dq (if q9 = q10 then some (1, q8.2) else some (0, q8.2)) T158 → Rn E 249 (149, [.ref 82, .int a1, .int a2, .int 1, .int q7.1], [.int q10, .int q9], wT q8.2 R) o w := by
                  intro q10
                  refine D.br rfl (by decide) rfl (fun hc => ?_) (fun hc => ?_)
                  · refine D.run 3 rfl ?_
                    exact fun h => Kj158 _ _ (by first | rfl | assumption) (c158 _ (D.some h))
                  · refine D.run 2 rfl ?_
                    exact fun h => Kj158 _ _ (by first | rfl | assumption) (c158 _ (D.some h))
                refine D.jn (fun T149 c149 => ?_)
                refine D.br rfl (by decide) rfl (fun hc => ?_) (fun hc => ?_)
                · refine D.run 2 rfl ?_
                  exact fun h => Kj149 _   (c149 _ (D.some h))
                · refine D.run 1 rfl ?_
                  exact fun h => Kj149 _   (c149 _ (D.some h))
              refine D.jn (fun T138 c138 => ?_)
              refine D.br rfl (by decide) rfl (fun hc => ?_) (fun hc => ?_)
              · refine D.run 2 rfl ?_
                exact fun h => Kj138 _   (c138 _ (D.some h))
              · refine D.run 1 rfl ?_
                exact fun h => Kj138 _   (c138 _ (D.some h))
      · refine D.run 2 rfl ?_
        refine D.br rfl (by decide) rfl (fun hc => ?_) (fun hc => ?_)
        · refine D.run 2 rfl ?_
          refine D.br rfl (by decide) rfl (fun hc => ?_) (fun hc => ?_)
          · refine D.run 1 rfl ?_
            refine D.call rfl rfl rfl rfl (fun q h => x240_ok h) (fun q11 => ?_)
            have Kj89 : ∀ (q12 : Int32), Dq ((if a2 = 33 then some 1 else some 0).bind fun (q13 : Int32) => if q12 = q13 then some (1, q11.2) else some (0, q11.2)) T158 → Rn E 249 (89, [.ref 82, .int a1, .int a2, .int 1, us], [.int q12], wT q11.2 R) o w := by
              intro q12
              refine D.run 2 rfl ?_
              have Kj100 : ∀ (q13 : Int32), Dq (if q12 = q13 then some (1, q11.2) else some (0, q11.2)) T158 → Rn E 249 (100, [.ref 82, .int a1, .int a2, .int 1, us], [.int q13, .int q12], wT q11.2 R) o w := by
                intro q13
                refine D.br rfl (by decide) rfl (fun hc => ?_) (fun hc => ?_)
                · refine D.run 4 rfl ?_
                  exact fun h => Kj158 _ _ (by first | rfl | assumption) (c158 _ (D.some h))
                · refine D.run 3 rfl ?_
                  exact fun h => Kj158 _ _ (by first | rfl | assumption) (c158 _ (D.some h))
              refine D.jn (fun T100 c100 => ?_)
              refine D.br rfl (by decide) rfl (fun hc => ?_) (fun hc => ?_)
              · refine D.run 2 rfl ?_
                exact fun h => Kj100 _   (c100 _ (D.some h))
              · refine D.run 1 rfl ?_
                exact fun h => Kj100 _   (c100 _ (D.some h))
            refine D.jn (fun T89 c89 => ?_)
            refine D.br rfl (by decide) rfl (fun hc => ?_) (fun hc => ?_)
            · refine D.run 2 rfl ?_
              exact fun h => Kj89 _   (c89 _ (D.some h))
            · refine D.run 1 rfl ?_
              exact fun h => Kj89 _   (c89 _ (D.some h))
          · refine D.run 2 rfl ?_
            refine D.br rfl (by decide) rfl (fun hc => ?_) (fun hc => ?_)
            · refine D.run 1 rfl ?_
              refine D.call rfl rfl rfl rfl (fun q h => x240_ok h) (fun q14 => ?_)
              have Kj89 : ∀ (q15 : Int32), Dq ((if a2 = 33 then some 1 else some 0).bind fun (q16 : Int32) => if q15 = q16 then some (1, q14.2) else some (0, q14.2)) T158 → Rn E 249 (89, [.ref 82, .int a1, .int a2, .int 1, us], [.int q15], wT q14.2 R) o w := by
                intro q15
                refine D.run 2 rfl ?_
                have Kj100 : ∀ (q16 : Int32), Dq (if q15 = q16 then some (1, q14.2) else some (0, q14.2)) T158 → Rn E 249 (100, [.ref 82, .int a1, .int a2, .int 1, us], [.int q16, .int q15], wT q14.2 R) o w := by
                  intro q16
                  refine D.br rfl (by decide) rfl (fun hc => ?_) (fun hc => ?_)
                  · refine D.run 4 rfl ?_
                    exact fun h => Kj158 _ _ (by first | rfl | assumption) (c158 _ (D.some h))
                  · refine D.run 3 rfl ?_
                    exact fun h => Kj158 _ _ (by first | rfl | assumption) (c158 _ (D.some h))
                refine D.jn (fun T100 c100 => ?_)
                refine D.br rfl (by decide) rfl (fun hc => ?_) (fun hc => ?_)
                · refine D.run 2 rfl ?_
                  exact fun h => Kj100 _   (c100 _ (D.some h))
                · refine D.run 1 rfl ?_
                  exact fun h => Kj100 _   (c100 _ (D.some h))
              refine D.jn (fun T89 c89 => ?_)
              refine D.br rfl (by decide) rfl (fun hc => ?_) (fun hc => ?_)
              · refine D.run 2 rfl ?_
                exact fun h => Kj89 _   (c89 _ (D.some h))
              · refine D.run 1 rfl ?_
                exact fun h => Kj89 _   (c89 _ (D.some h))
            · refine D.run 2 rfl ?_
              refine D.br rfl (by decide) rfl (fun hc => ?_) (fun hc => ?_)
              · exact fun h => Kj158 _ _ (by first | rfl | assumption) (c158 _ (D.some h))
              · refine D.run 1 rfl ?_
                refine D.call rfl rfl rfl rfl (fun q h => x240_ok h) (fun q17 => ?_)
                refine D.run 2 rfl ?_
                refine D.call rfl rfl rfl rfl (fun q h => x240_ok h) (fun q18 => ?_)
                refine D.run 1 rfl ?_
                have Kj138 : ∀ (q19 : Int32), Dq ((if a2 = 35 then some 1 else some 0).bind fun (q20 : Int32) => if q19 = q20 then some (1, q18.2) else some (0, q18.2)) T158 → Rn E 249 (138, [.ref 82, .int a1, .int a2, .int 1, .int q17.1], [.int q19], wT q18.2 R) o w := by
                  intro q19
                  refine D.run 2 rfl ?_
                  have Kj149 : ∀ (q20 : Int32), Dq (if q19 = q20 then some (1, q18.2) else some (0, q18.2)) T158 → Rn E 249 (149, [.ref 82, .int a1, .int a2, .int 1, .int q17.1], [.int q20, .int q19], wT q18.2 R) o w := by
                    intro q20
                    refine D.br rfl (by decide) rfl (fun hc => ?_) (fun hc => ?_)
                    · refine D.run 3 rfl ?_
                      exact fun h => Kj158 _ _ (by first | rfl | assumption) (c158 _ (D.some h))
                    · refine D.run 2 rfl ?_
                      exact fun h => Kj158 _ _ (by first | rfl | assumption) (c158 _ (D.some h))
                  refine D.jn (fun T149 c149 => ?_)
                  refine D.br rfl (by decide) rfl (fun hc => ?_) (fun hc => ?_)
                  · refine D.run 2 rfl ?_
                    exact fun h => Kj149 _   (c149 _ (D.some h))
                  · refine D.run 1 rfl ?_
                    exact fun h => Kj149 _   (c149 _ (D.some h))
                refine D.jn (fun T138 c138 => ?_)
                refine D.br rfl (by decide) rfl (fun hc => ?_) (fun hc => ?_)
                · refine D.run 2 rfl ?_
                  exact fun h => Kj138 _   (c138 _ (D.some h))
                · refine D.run 1 rfl ?_
                  exact fun h => Kj138 _   (c138 _ (D.some h))
        · refine D.run 1 rfl ?_
          refine D.call rfl rfl rfl rfl (fun q h => x240_ok h) (fun q21 => ?_)
          refine D.run 5 rfl ?_
          refine D.call rfl rfl rfl rfl (fun q h => x240_ok h) (fun q22 => ?_)
          refine D.run 1 rfl ?_
          refine D.ce rfl rfl rfl rfl (x250_ok _ _ _) ?_
          show _ → Rn E 249 (61, [.ref 82, .int a1, .int a2, .int 1, .int q21.1], [.int (x250 q22.2 (a2 - 27) q22.1 q21.1)], wT q22.2 R) o w
          refine D.run 2 rfl ?_
          exact fun h => Kj158 _ _ (by first | rfl | assumption) (c158 _ (D.some h))
    · refine D.run 2 rfl ?_
      refine D.br rfl (by decide) rfl (fun hc => ?_) (fun hc => ?_)
      · refine D.run 2 rfl ?_
        refine D.br rfl (by decide) rfl (fun hc => ?_) (fun hc => ?_)
        · refine D.run 2 rfl ?_
          refine D.br rfl (by decide) rfl (fun hc => ?_) (fun hc => ?_)
          · refine D.run 1 rfl ?_
            refine D.call rfl rfl rfl rfl (fun q h => x240_ok h) (fun q23 => ?_)
            have Kj89 : ∀ (q24 : Int32), Dq ((if a2 = 33 then some 1 else some 0).bind fun (q25 : Int32) => if q24 = q25 then some (1, q23.2) else some (0, q23.2)) T158 → Rn E 249 (89, [.ref 82, .int a1, .int a2, .int 1, us], [.int q24], wT q23.2 R) o w := by
              intro q24
              refine D.run 2 rfl ?_
              have Kj100 : ∀ (q25 : Int32), Dq (if q24 = q25 then some (1, q23.2) else some (0, q23.2)) T158 → Rn E 249 (100, [.ref 82, .int a1, .int a2, .int 1, us], [.int q25, .int q24], wT q23.2 R) o w := by
                intro q25
                refine D.br rfl (by decide) rfl (fun hc => ?_) (fun hc => ?_)
                · refine D.run 4 rfl ?_
                  exact fun h => Kj158 _ _ (by first | rfl | assumption) (c158 _ (D.some h))
                · refine D.run 3 rfl ?_
                  exact fun h => Kj158 _ _ (by first | rfl | assumption) (c158 _ (D.some h))
              refine D.jn (fun T100 c100 => ?_)
              refine D.br rfl (by decide) rfl (fun hc => ?_) (fun hc => ?_)
              · refine D.run 2 rfl ?_
                exact fun h => Kj100 _   (c100 _ (D.some h))
              · refine D.run 1 rfl ?_
                exact fun h => Kj100 _   (c100 _ (D.some h))
            refine D.jn (fun T89 c89 => ?_)
            refine D.br rfl (by decide) rfl (fun hc => ?_) (fun hc => ?_)
            · refine D.run 2 rfl ?_
              exact fun h => Kj89 _   (c89 _ (D.some h))
            · refine D.run 1 rfl ?_
              exact fun h => Kj89 _   (c89 _ (D.some h))
          · refine D.run 2 rfl ?_
            refine D.br rfl (by decide) rfl (fun hc => ?_) (fun hc => ?_)
            · refine D.run 1 rfl ?_
              refine D.call rfl rfl rfl rfl (fun q h => x240_ok h) (fun q26 => ?_)
              have Kj89 : ∀ (q27 : Int32), Dq ((if a2 = 33 then some 1 else some 0).bind fun (q28 : Int32) => if q27 = q28 then some (1, q26.2) else some (0, q26.2)) T158 → Rn E 249 (89, [.ref 82, .int a1, .int a2, .int 1, us], [.int q27], wT q26.2 R) o w := by
                intro q27
                refine D.run 2 rfl ?_
                have Kj100 : ∀ (q28 : Int32), Dq (if q27 = q28 then some (1, q26.2) else some (0, q26.2)) T158 → Rn E 249 (100, [.ref 82, .int a1, .int a2, .int 1, us], [.int q28, .int q27], wT q26.2 R) o w := by
                  intro q28
                  refine D.br rfl (by decide) rfl (fun hc => ?_) (fun hc => ?_)
                  · refine D.run 4 rfl ?_
                    exact fun h => Kj158 _ _ (by first | rfl | assumption) (c158 _ (D.some h))
                  · refine D.run 3 rfl ?_
                    exact fun h => Kj158 _ _ (by first | rfl | assumption) (c158 _ (D.some h))
                refine D.jn (fun T100 c100 => ?_)
                refine D.br rfl (by decide) rfl (fun hc => ?_) (fun hc => ?_)
                · refine D.run 2 rfl ?_
                  exact fun h => Kj100 _   (c100 _ (D.some h))
                · refine D.run 1 rfl ?_
                  exact fun h => Kj100 _   (c100 _ (D.some h))
              refine D.jn (fun T89 c89 => ?_)
              refine D.br rfl (by decide) rfl (fun hc => ?_) (fun hc => ?_)
              · refine D.run 2 rfl ?_
                exact fun h => Kj89 _   (c89 _ (D.some h))
              · refine D.run 1 rfl ?_
                exact fun h => Kj89 _   (c89 _ (D.some h))
            · refine D.run 2 rfl ?_
              refine D.br rfl (by decide) rfl (fun hc => ?_) (fun hc => ?_)
              · exact fun h => Kj158 _ _ (by first | rfl | assumption) (c158 _ (D.some h))
              · refine D.run 1 rfl ?_
                refine D.call rfl rfl rfl rfl (fun q h => x240_ok h) (fun q29 => ?_)
                refine D.run 2 rfl ?_
                refine D.call rfl rfl rfl rfl (fun q h => x240_ok h) (fun q30 => ?_)
                refine D.run 1 rfl ?_
                have Kj138 : ∀ (q31 : Int32), Dq ((if a2 = 35 then some 1 else some 0).bind fun (q32 : Int32) => if q31 = q32 then some (1, q30.2) else some (0, q30.2)) T158 → Rn E 249 (138, [.ref 82, .int a1, .int a2, .int 1, .int q29.1], [.int q31], wT q30.2 R) o w := by
                  intro q31
                  refine D.run 2 rfl ?_
                  have Kj149 : ∀ (q32 : Int32), Dq (if q31 = q32 then some (1, q30.2) else some (0, q30.2)) T158 → Rn E 249 (149, [.ref 82, .int a1, .int a2, .int 1, .int q29.1], [.int q32, .int q31], wT q30.2 R) o w := by
                    intro q32
                    refine D.br rfl (by decide) rfl (fun hc => ?_) (fun hc => ?_)
                    · refine D.run 3 rfl ?_
                      exact fun h => Kj158 _ _ (by first | rfl | assumption) (c158 _ (D.some h))
                    · refine D.run 2 rfl ?_
                      exact fun h => Kj158 _ _ (by first | rfl | assumption) (c158 _ (D.some h))
                  refine D.jn (fun T149 c149 => ?_)
                  refine D.br rfl (by decide) rfl (fun hc => ?_) (fun hc => ?_)
                  · refine D.run 2 rfl ?_
                    exact fun h => Kj149 _   (c149 _ (D.some h))
                  · refine D.run 1 rfl ?_
                    exact fun h => Kj149 _   (c149 _ (D.some h))
                refine D.jn (fun T138 c138 => ?_)
                refine D.br rfl (by decide) rfl (fun hc => ?_) (fun hc => ?_)
                · refine D.run 2 rfl ?_
                  exact fun h => Kj138 _   (c138 _ (D.some h))
                · refine D.run 1 rfl ?_
                  exact fun h => Kj138 _   (c138 _ (D.some h))
        · refine D.run 2 rfl ?_
          refine D.br rfl (by decide) rfl (fun hc => ?_) (fun hc => ?_)
          · refine D.run 2 rfl ?_
            refine D.br rfl (by decide) rfl (fun hc => ?_) (fun hc => ?_)
            · refine D.run 1 rfl ?_
              refine D.call rfl rfl rfl rfl (fun q h => x240_ok h) (fun q33 => ?_)
              have Kj89 : ∀ (q34 : Int32), Dq ((if a2 = 33 then some 1 else some 0).bind fun (q35 : Int32) => if q34 = q35 then some (1, q33.2) else some (0, q33.2)) T158 → Rn E 249 (89, [.ref 82, .int a1, .int a2, .int 1, us], [.int q34], wT q33.2 R) o w := by
                intro q34
                refine D.run 2 rfl ?_
                have Kj100 : ∀ (q35 : Int32), Dq (if q34 = q35 then some (1, q33.2) else some (0, q33.2)) T158 → Rn E 249 (100, [.ref 82, .int a1, .int a2, .int 1, us], [.int q35, .int q34], wT q33.2 R) o w := by
                  intro q35
                  refine D.br rfl (by decide) rfl (fun hc => ?_) (fun hc => ?_)
                  · refine D.run 4 rfl ?_
                    exact fun h => Kj158 _ _ (by first | rfl | assumption) (c158 _ (D.some h))
                  · refine D.run 3 rfl ?_
                    exact fun h => Kj158 _ _ (by first | rfl | assumption) (c158 _ (D.some h))
                refine D.jn (fun T100 c100 => ?_)
                refine D.br rfl (by decide) rfl (fun hc => ?_) (fun hc => ?_)
                · refine D.run 2 rfl ?_
                  exact fun h => Kj100 _   (c100 _ (D.some h))
                · refine D.run 1 rfl ?_
                  exact fun h => Kj100 _   (c100 _ (D.some h))
              refine D.jn (fun T89 c89 => ?_)
              refine D.br rfl (by decide) rfl (fun hc => ?_) (fun hc => ?_)
              · refine D.run 2 rfl ?_
                exact fun h => Kj89 _   (c89 _ (D.some h))
              · refine D.run 1 rfl ?_
                exact fun h => Kj89 _   (c89 _ (D.some h))
            · refine D.run 2 rfl ?_
              refine D.br rfl (by decide) rfl (fun hc => ?_) (fun hc => ?_)
              · refine D.run 1 rfl ?_
                refine D.call rfl rfl rfl rfl (fun q h => x240_ok h) (fun q36 => ?_)
                have Kj89 : ∀ (q37 : Int32), Dq ((if a2 = 33 then some 1 else some 0).bind fun (q38 : Int32) => if q37 = q38 then some (1, q36.2) else some (0, q36.2)) T158 → Rn E 249 (89, [.ref 82, .int a1, .int a2, .int 1, us], [.int q37], wT q36.2 R) o w := by
                  intro q37
                  refine D.run 2 rfl ?_
                  have Kj100 : ∀ (q38 : Int32), Dq (if q37 = q38 then some (1, q36.2) else some (0, q36.2)) T158 → Rn E 249 (100, [.ref 82, .int a1, .int a2, .int 1, us], [.int q38, .int q37], wT q36.2 R) o w := by
                    intro q38
                    refine D.br rfl (by decide) rfl (fun hc => ?_) (fun hc => ?_)
                    · refine D.run 4 rfl ?_
                      exact fun h => Kj158 _ _ (by first | rfl | assumption) (c158 _ (D.some h))
                    · refine D.run 3 rfl ?_
                      exact fun h => Kj158 _ _ (by first | rfl | assumption) (c158 _ (D.some h))
                  refine D.jn (fun T100 c100 => ?_)
                  refine D.br rfl (by decide) rfl (fun hc => ?_) (fun hc => ?_)
                  · refine D.run 2 rfl ?_
                    exact fun h => Kj100 _   (c100 _ (D.some h))
                  · refine D.run 1 rfl ?_
                    exact fun h => Kj100 _   (c100 _ (D.some h))
                refine D.jn (fun T89 c89 => ?_)
                refine D.br rfl (by decide) rfl (fun hc => ?_) (fun hc => ?_)
                · refine D.run 2 rfl ?_
                  exact fun h => Kj89 _   (c89 _ (D.some h))
                · refine D.run 1 rfl ?_
                  exact fun h => Kj89 _   (c89 _ (D.some h))
              · refine D.run 2 rfl ?_
                refine D.br rfl (by decide) rfl (fun hc => ?_) (fun hc => ?_)
                · exact fun h => Kj158 _ _ (by first | rfl | assumption) (c158 _ (D.some h))
                · refine D.run 1 rfl ?_
                  refine D.call rfl rfl rfl rfl (fun q h => x240_ok h) (fun q39 => ?_)
                  refine D.run 2 rfl ?_
                  refine D.call rfl rfl rfl rfl (fun q h => x240_ok h) (fun q40 => ?_)
                  refine D.run 1 rfl ?_
                  have Kj138 : ∀ (q41 : Int32), Dq ((if a2 = 35 then some 1 else some 0).bind fun (q42 : Int32) => if q41 = q42 then some (1, q40.2) else some (0, q40.2)) T158 → Rn E 249 (138, [.ref 82, .int a1, .int a2, .int 1, .int q39.1], [.int q41], wT q40.2 R) o w := by
                    intro q41
                    refine D.run 2 rfl ?_
                    have Kj149 : ∀ (q42 : Int32), Dq (if q41 = q42 then some (1, q40.2) else some (0, q40.2)) T158 → Rn E 249 (149, [.ref 82, .int a1, .int a2, .int 1, .int q39.1], [.int q42, .int q41], wT q40.2 R) o w := by
                      intro q42
                      refine D.br rfl (by decide) rfl (fun hc => ?_) (fun hc => ?_)
                      · refine D.run 3 rfl ?_
                        exact fun h => Kj158 _ _ (by first | rfl | assumption) (c158 _ (D.some h))
                      · refine D.run 2 rfl ?_
                        exact fun h => Kj158 _ _ (by first | rfl | assumption) (c158 _ (D.some h))
                    refine D.jn (fun T149 c149 => ?_)
                    refine D.br rfl (by decide) rfl (fun hc => ?_) (fun hc => ?_)
                    · refine D.run 2 rfl ?_
                      exact fun h => Kj149 _   (c149 _ (D.some h))
                    · refine D.run 1 rfl ?_
                      exact fun h => Kj149 _   (c149 _ (D.some h))
                  refine D.jn (fun T138 c138 => ?_)
                  refine D.br rfl (by decide) rfl (fun hc => ?_) (fun hc => ?_)
                  · refine D.run 2 rfl ?_
                    exact fun h => Kj138 _   (c138 _ (D.some h))
                  · refine D.run 1 rfl ?_
                    exact fun h => Kj138 _   (c138 _ (D.some h))
          · refine D.run 1 rfl ?_
            refine D.call rfl rfl rfl rfl (fun q h => x240_ok h) (fun q43 => ?_)
            refine D.run 5 rfl ?_
            refine D.call rfl rfl rfl rfl (fun q h => x240_ok h) (fun q44 => ?_)
            refine D.run 1 rfl ?_
            refine D.ce rfl rfl rfl rfl (x250_ok _ _ _) ?_
            show _ → Rn E 249 (61, [.ref 82, .int a1, .int a2, .int 1, .int q43.1], [.int (x250 q44.2 (a2 - 27) q44.1 q43.1)], wT q44.2 R) o w
            refine D.run 2 rfl ?_
            exact fun h => Kj158 _ _ (by first | rfl | assumption) (c158 _ (D.some h))
      · refine D.run 4 rfl ?_
        refine D.call rfl rfl rfl rfl (fun q h => x240_ok h) (fun q45 => ?_)
        refine D.run 1 rfl ?_
        refine D.ce rfl rfl rfl rfl (x250_ok _ _ _) ?_
        refine D.run 2 rfl ?_
        exact fun h => Kj158 _ _ (by first | rfl | assumption) (c158 _ (D.some h))
  · refine D.run 4 rfl ?_
    have Kj158 : ∀ (q46 : Int32 × St) (e47 : Value), is1 e47 = true → Dq (if q46.1 = 0 then some (up2 q46.2 82 64 (a1 + 1)) else if inb a1 2400 then some (up2 q46.2 82 64 (q46.2 (126 + 33) a1.toNatClampNeg)) else none) T → Rn E 249 (158, [.ref 82, .int a1, .int a2, .int q46.1, e47], [], wT q46.2 R) o w := by
      intro q46 e47 he47
      refine D.run 2 rfl ?_
      refine D.br rfl (by decide) rfl (fun hc => ?_) (fun hc => ?_)
      · refine D.run 4 rfl ?_
        exact fun h => by obtain ⟨rfl, rfl⟩ := hT _ (D.some h); exact Rn.ret rfl rfl rfl
      · refine D.run 1 rfl ?_
        refine D.st rfl (by decide) (gf_1 h82_3) ?_
        refine D.run 2 rfl ?_
        refine D.gd fun hg => ?_
        refine D.st rfl (by decide) (al_i (by decide) (by first | rfl | decide) hg.1 hg.2) ?_
        show _ → Rn E 249 (172, [.ref 82, .int a1, .int a2, .int q46.1, e47], [.int (q46.2 (126 + 33) a1.toNatClampNeg), .ref 82], wT q46.2 R) o w
        refine D.run 2 rfl ?_
        exact fun h => by obtain ⟨rfl, rfl⟩ := hT _ (D.some h); exact Rn.ret rfl rfl rfl
    refine D.jn (fun T158 c158 => ?_)
    refine D.br rfl (by decide) rfl (fun hc => ?_) (fun hc => ?_)
    · refine D.run 2 rfl ?_
      refine D.br rfl (by decide) rfl (fun hc => ?_) (fun hc => ?_)
      · refine D.run 2 rfl ?_
        refine D.br rfl (by decide) rfl (fun hc => ?_) (fun hc => ?_)
        · refine D.run 1 rfl ?_
          refine D.call rfl rfl rfl rfl (fun q h => x240_ok h) (fun q1 => ?_)
          have Kj89 : ∀ (q2 : Int32), Dq ((if a2 = 33 then some 1 else some 0).bind fun (q3 : Int32) => if q2 = q3 then some (1, q1.2) else some (0, q1.2)) T158 → Rn E 249 (89, [.ref 82, .int a1, .int a2, .int 1, us], [.int q2], wT q1.2 R) o w := by
            intro q2
            refine D.run 2 rfl ?_
            have Kj100 : ∀ (q3 : Int32), Dq (if q2 = q3 then some (1, q1.2) else some (0, q1.2)) T158 → Rn E 249 (100, [.ref 82, .int a1, .int a2, .int 1, us], [.int q3, .int q2], wT q1.2 R) o w := by
              intro q3
              refine D.br rfl (by decide) rfl (fun hc => ?_) (fun hc => ?_)
              · refine D.run 4 rfl ?_
                exact fun h => Kj158 _ _ (by first | rfl | assumption) (c158 _ (D.some h))
              · refine D.run 3 rfl ?_
                exact fun h => Kj158 _ _ (by first | rfl | assumption) (c158 _ (D.some h))
            refine D.jn (fun T100 c100 => ?_)
            refine D.br rfl (by decide) rfl (fun hc => ?_) (fun hc => ?_)
            · refine D.run 2 rfl ?_
              exact fun h => Kj100 _   (c100 _ (D.some h))
            · refine D.run 1 rfl ?_
              exact fun h => Kj100 _   (c100 _ (D.some h))
          refine D.jn (fun T89 c89 => ?_)
          refine D.br rfl (by decide) rfl (fun hc => ?_) (fun hc => ?_)
          · refine D.run 2 rfl ?_
            exact fun h => Kj89 _   (c89 _ (D.some h))
          · refine D.run 1 rfl ?_
            exact fun h => Kj89 _   (c89 _ (D.some h))
        · refine D.run 2 rfl ?_
          refine D.br rfl (by decide) rfl (fun hc => ?_) (fun hc => ?_)
          · refine D.run 1 rfl ?_
            refine D.call rfl rfl rfl rfl (fun q h => x240_ok h) (fun q4 => ?_)
            have Kj89 : ∀ (q5 : Int32), Dq ((if a2 = 33 then some 1 else some 0).bind fun (q6 : Int32) => if q5 = q6 then some (1, q4.2) else some (0, q4.2)) T158 → Rn E 249 (89, [.ref 82, .int a1, .int a2, .int 1, us], [.int q5], wT q4.2 R) o w := by
              intro q5
              refine D.run 2 rfl ?_
              have Kj100 : ∀ (q6 : Int32), Dq (if q5 = q6 then some (1, q4.2) else some (0, q4.2)) T158 → Rn E 249 (100, [.ref 82, .int a1, .int a2, .int 1, us], [.int q6, .int q5], wT q4.2 R) o w := by
                intro q6
                refine D.br rfl (by decide) rfl (fun hc => ?_) (fun hc => ?_)
                · refine D.run 4 rfl ?_
                  exact fun h => Kj158 _ _ (by first | rfl | assumption) (c158 _ (D.some h))
                · refine D.run 3 rfl ?_
                  exact fun h => Kj158 _ _ (by first | rfl | assumption) (c158 _ (D.some h))
              refine D.jn (fun T100 c100 => ?_)
              refine D.br rfl (by decide) rfl (fun hc => ?_) (fun hc => ?_)
              · refine D.run 2 rfl ?_
                exact fun h => Kj100 _   (c100 _ (D.some h))
              · refine D.run 1 rfl ?_
                exact fun h => Kj100 _   (c100 _ (D.some h))
            refine D.jn (fun T89 c89 => ?_)
            refine D.br rfl (by decide) rfl (fun hc => ?_) (fun hc => ?_)
            · refine D.run 2 rfl ?_
              exact fun h => Kj89 _   (c89 _ (D.some h))
            · refine D.run 1 rfl ?_
              exact fun h => Kj89 _   (c89 _ (D.some h))
          · refine D.run 2 rfl ?_
            refine D.br rfl (by decide) rfl (fun hc => ?_) (fun hc => ?_)
            · exact fun h => Kj158 _ _ (by first | rfl | assumption) (c158 _ (D.some h))
            · refine D.run 1 rfl ?_
              refine D.call rfl rfl rfl rfl (fun q h => x240_ok h) (fun q7 => ?_)
              refine D.run 2 rfl ?_
              refine D.call rfl rfl rfl rfl (fun q h => x240_ok h) (fun q8 => ?_)
              refine D.run 1 rfl ?_
              have Kj138 : ∀ (q9 : Int32), Dq ((if a2 = 35 then some 1 else some 0).bind fun (q10 : Int32) => if q9 = q10 then some (1, q8.2) else some (0, q8.2)) T158 → Rn E 249 (138, [.ref 82, .int a1, .int a2, .int 1, .int q7.1], [.int q9], wT q8.2 R) o w := by
                intro q9
                refine D.run 2 rfl ?_
                have Kj149 : ∀ (q10 : Int32), Dq (if q9 = q10 then some (1, q8.2) else some (0, q8.2)) T158 → Rn E 249 (149, [.ref 82, .int a1, .int a2, .int 1, .int q7.1], [.int q10, .int q9], wT q8.2 R) o w := by
                  intro q10
                  refine D.br rfl (by decide) rfl (fun hc => ?_) (fun hc => ?_)
                  · refine D.run 3 rfl ?_
                    exact fun h => Kj158 _ _ (by first | rfl | assumption) (c158 _ (D.some h))
                  · refine D.run 2 rfl ?_
                    exact fun h => Kj158 _ _ (by first | rfl | assumption) (c158 _ (D.some h))
                refine D.jn (fun T149 c149 => ?_)
                refine D.br rfl (by decide) rfl (fun hc => ?_) (fun hc => ?_)
                · refine D.run 2 rfl ?_
                  exact fun h => Kj149 _   (c149 _ (D.some h))
                · refine D.run 1 rfl ?_
                  exact fun h => Kj149 _   (c149 _ (D.some h))
              refine D.jn (fun T138 c138 => ?_)
              refine D.br rfl (by decide) rfl (fun hc => ?_) (fun hc => ?_)
              · refine D.run 2 rfl ?_
                exact fun h => Kj138 _   (c138 _ (D.some h))
              · refine D.run 1 rfl ?_
                exact fun h => Kj138 _   (c138 _ (D.some h))
      · refine D.run 2 rfl ?_
        refine D.br rfl (by decide) rfl (fun hc => ?_) (fun hc => ?_)
        · refine D.run 2 rfl ?_
          refine D.br rfl (by decide) rfl (fun hc => ?_) (fun hc => ?_)
          · refine D.run 1 rfl ?_
            refine D.call rfl rfl rfl rfl (fun q h => x240_ok h) (fun q11 => ?_)
            have Kj89 : ∀ (q12 : Int32), Dq ((if a2 = 33 then some 1 else some 0).bind fun (q13 : Int32) => if q12 = q13 then some (1, q11.2) else some (0, q11.2)) T158 → Rn E 249 (89, [.ref 82, .int a1, .int a2, .int 1, us], [.int q12], wT q11.2 R) o w := by
              intro q12
              refine D.run 2 rfl ?_
              have Kj100 : ∀ (q13 : Int32), Dq (if q12 = q13 then some (1, q11.2) else some (0, q11.2)) T158 → Rn E 249 (100, [.ref 82, .int a1, .int a2, .int 1, us], [.int q13, .int q12], wT q11.2 R) o w := by
                intro q13
                refine D.br rfl (by decide) rfl (fun hc => ?_) (fun hc => ?_)
                · refine D.run 4 rfl ?_
                  exact fun h => Kj158 _ _ (by first | rfl | assumption) (c158 _ (D.some h))
                · refine D.run 3 rfl ?_
                  exact fun h => Kj158 _ _ (by first | rfl | assumption) (c158 _ (D.some h))
              refine D.jn (fun T100 c100 => ?_)
              refine D.br rfl (by decide) rfl (fun hc => ?_) (fun hc => ?_)
              · refine D.run 2 rfl ?_
                exact fun h => Kj100 _   (c100 _ (D.some h))
              · refine D.run 1 rfl ?_
                exact fun h => Kj100 _   (c100 _ (D.some h))
            refine D.jn (fun T89 c89 => ?_)
            refine D.br rfl (by decide) rfl (fun hc => ?_) (fun hc => ?_)
            · refine D.run 2 rfl ?_
              exact fun h => Kj89 _   (c89 _ (D.some h))
            · refine D.run 1 rfl ?_
              exact fun h => Kj89 _   (c89 _ (D.some h))
          · refine D.run 2 rfl ?_
            refine D.br rfl (by decide) rfl (fun hc => ?_) (fun hc => ?_)
            · refine D.run 1 rfl ?_
              refine D.call rfl rfl rfl rfl (fun q h => x240_ok h) (fun q14 => ?_)
              have Kj89 : ∀ (q15 : Int32), Dq ((if a2 = 33 then some 1 else some 0).bind fun (q16 : Int32) => if q15 = q16 then some (1, q14.2) else some (0, q14.2)) T158 → Rn E 249 (89, [.ref 82, .int a1, .int a2, .int 1, us], [.int q15], wT q14.2 R) o w := by
                intro q15
                refine D.run 2 rfl ?_
                have Kj100 : ∀ (q16 : Int32), Dq (if q15 = q16 then some (1, q14.2) else some (0, q14.2)) T158 → Rn E 249 (100, [.ref 82, .int a1, .int a2, .int 1, us], [.int q16, .int q15], wT q14.2 R) o w := by
                  intro q16
                  refine D.br rfl (by decide) rfl (fun hc => ?_) (fun hc => ?_)
                  · refine D.run 4 rfl ?_
                    exact fun h => Kj158 _ _ (by first | rfl | assumption) (c158 _ (D.some h))
                  · refine D.run 3 rfl ?_
                    exact fun h => Kj158 _ _ (by first | rfl | assumption) (c158 _ (D.some h))
                refine D.jn (fun T100 c100 => ?_)
                refine D.br rfl (by decide) rfl (fun hc => ?_) (fun hc => ?_)
                · refine D.run 2 rfl ?_
                  exact fun h => Kj100 _   (c100 _ (D.some h))
                · refine D.run 1 rfl ?_
                  exact fun h => Kj100 _   (c100 _ (D.some h))
              refine D.jn (fun T89 c89 => ?_)
              refine D.br rfl (by decide) rfl (fun hc => ?_) (fun hc => ?_)
              · refine D.run 2 rfl ?_
                exact fun h => Kj89 _   (c89 _ (D.some h))
              · refine D.run 1 rfl ?_
                exact fun h => Kj89 _   (c89 _ (D.some h))
            · refine D.run 2 rfl ?_
              refine D.br rfl (by decide) rfl (fun hc => ?_) (fun hc => ?_)
              · exact fun h => Kj158 _ _ (by first | rfl | assumption) (c158 _ (D.some h))
              · refine D.run 1 rfl ?_
                refine D.call rfl rfl rfl rfl (fun q h => x240_ok h) (fun q17 => ?_)
                refine D.run 2 rfl ?_
                refine D.call rfl rfl rfl rfl (fun q h => x240_ok h) (fun q18 => ?_)
                refine D.run 1 rfl ?_
                have Kj138 : ∀ (q19 : Int32), Dq ((if a2 = 35 then some 1 else some 0).bind fun (q20 : Int32) => if q19 = q20 then some (1, q18.2) else some (0, q18.2)) T158 → Rn E 249 (138, [.ref 82, .int a1, .int a2, .int 1, .int q17.1], [.int q19], wT q18.2 R) o w := by
                  intro q19
                  refine D.run 2 rfl ?_
                  have Kj149 : ∀ (q20 : Int32), Dq (if q19 = q20 then some (1, q18.2) else some (0, q18.2)) T158 → Rn E 249 (149, [.ref 82, .int a1, .int a2, .int 1, .int q17.1], [.int q20, .int q19], wT q18.2 R) o w := by
                    intro q20
                    refine D.br rfl (by decide) rfl (fun hc => ?_) (fun hc => ?_)
                    · refine D.run 3 rfl ?_
                      exact fun h => Kj158 _ _ (by first | rfl | assumption) (c158 _ (D.some h))
                    · refine D.run 2 rfl ?_
                      exact fun h => Kj158 _ _ (by first | rfl | assumption) (c158 _ (D.some h))
                  refine D.jn (fun T149 c149 => ?_)
                  refine D.br rfl (by decide) rfl (fun hc => ?_) (fun hc => ?_)
                  · refine D.run 2 rfl ?_
                    exact fun h => Kj149 _   (c149 _ (D.some h))
                  · refine D.run 1 rfl ?_
                    exact fun h => Kj149 _   (c149 _ (D.some h))
                refine D.jn (fun T138 c138 => ?_)
                refine D.br rfl (by decide) rfl (fun hc => ?_) (fun hc => ?_)
                · refine D.run 2 rfl ?_
                  exact fun h => Kj138 _   (c138 _ (D.some h))
                · refine D.run 1 rfl ?_
                  exact fun h => Kj138 _   (c138 _ (D.some h))
        · refine D.run 1 rfl ?_
          refine D.call rfl rfl rfl rfl (fun q h => x240_ok h) (fun q21 => ?_)
          refine D.run 5 rfl ?_
          refine D.call rfl rfl rfl rfl (fun q h => x240_ok h) (fun q22 => ?_)
          refine D.run 1 rfl ?_
          refine D.ce rfl rfl rfl rfl (x250_ok _ _ _) ?_
          show _ → Rn E 249 (61, [.ref 82, .int a1, .int a2, .int 1, .int q21.1], [.int (x250 q22.2 (a2 - 27) q22.1 q21.1)], wT q22.2 R) o w
          refine D.run 2 rfl ?_
          exact fun h => Kj158 _ _ (by first | rfl | assumption) (c158 _ (D.some h))
    · refine D.run 2 rfl ?_
      refine D.br rfl (by decide) rfl (fun hc => ?_) (fun hc => ?_)
      · refine D.run 2 rfl ?_
        refine D.br rfl (by decide) rfl (fun hc => ?_) (fun hc => ?_)
        · refine D.run 2 rfl ?_
          refine D.br rfl (by decide) rfl (fun hc => ?_) (fun hc => ?_)
          · refine D.run 1 rfl ?_
            refine D.call rfl rfl rfl rfl (fun q h => x240_ok h) (fun q23 => ?_)
            have Kj89 : ∀ (q24 : Int32), Dq ((if a2 = 33 then some 1 else some 0).bind fun (q25 : Int32) => if q24 = q25 then some (1, q23.2) else some (0, q23.2)) T158 → Rn E 249 (89, [.ref 82, .int a1, .int a2, .int 1, us], [.int q24], wT q23.2 R) o w := by
              intro q24
              refine D.run 2 rfl ?_
              have Kj100 : ∀ (q25 : Int32), Dq (if q24 = q25 then some (1, q23.2) else some (0, q23.2)) T158 → Rn E 249 (100, [.ref 82, .int a1, .int a2, .int 1, us], [.int q25, .int q24], wT q23.2 R) o w := by
                intro q25
                refine D.br rfl (by decide) rfl (fun hc => ?_) (fun hc => ?_)
                · refine D.run 4 rfl ?_
                  exact fun h => Kj158 _ _ (by first | rfl | assumption) (c158 _ (D.some h))
                · refine D.run 3 rfl ?_
                  exact fun h => Kj158 _ _ (by first | rfl | assumption) (c158 _ (D.some h))
              refine D.jn (fun T100 c100 => ?_)
              refine D.br rfl (by decide) rfl (fun hc => ?_) (fun hc => ?_)
              · refine D.run 2 rfl ?_
                exact fun h => Kj100 _   (c100 _ (D.some h))
              · refine D.run 1 rfl ?_
                exact fun h => Kj100 _   (c100 _ (D.some h))
            refine D.jn (fun T89 c89 => ?_)
            refine D.br rfl (by decide) rfl (fun hc => ?_) (fun hc => ?_)
            · refine D.run 2 rfl ?_
              exact fun h => Kj89 _   (c89 _ (D.some h))
            · refine D.run 1 rfl ?_
              exact fun h => Kj89 _   (c89 _ (D.some h))
          · refine D.run 2 rfl ?_
            refine D.br rfl (by decide) rfl (fun hc => ?_) (fun hc => ?_)
            · refine D.run 1 rfl ?_
              refine D.call rfl rfl rfl rfl (fun q h => x240_ok h) (fun q26 => ?_)
              have Kj89 : ∀ (q27 : Int32), Dq ((if a2 = 33 then some 1 else some 0).bind fun (q28 : Int32) => if q27 = q28 then some (1, q26.2) else some (0, q26.2)) T158 → Rn E 249 (89, [.ref 82, .int a1, .int a2, .int 1, us], [.int q27], wT q26.2 R) o w := by
                intro q27
                refine D.run 2 rfl ?_
                have Kj100 : ∀ (q28 : Int32), Dq (if q27 = q28 then some (1, q26.2) else some (0, q26.2)) T158 → Rn E 249 (100, [.ref 82, .int a1, .int a2, .int 1, us], [.int q28, .int q27], wT q26.2 R) o w := by
                  intro q28
                  refine D.br rfl (by decide) rfl (fun hc => ?_) (fun hc => ?_)
                  · refine D.run 4 rfl ?_
                    exact fun h => Kj158 _ _ (by first | rfl | assumption) (c158 _ (D.some h))
                  · refine D.run 3 rfl ?_
                    exact fun h => Kj158 _ _ (by first | rfl | assumption) (c158 _ (D.some h))
                refine D.jn (fun T100 c100 => ?_)
                refine D.br rfl (by decide) rfl (fun hc => ?_) (fun hc => ?_)
                · refine D.run 2 rfl ?_
                  exact fun h => Kj100 _   (c100 _ (D.some h))
                · refine D.run 1 rfl ?_
                  exact fun h => Kj100 _   (c100 _ (D.some h))
              refine D.jn (fun T89 c89 => ?_)
              refine D.br rfl (by decide) rfl (fun hc => ?_) (fun hc => ?_)
              · refine D.run 2 rfl ?_
                exact fun h => Kj89 _   (c89 _ (D.some h))
              · refine D.run 1 rfl ?_
                exact fun h => Kj89 _   (c89 _ (D.some h))
            · refine D.run 2 rfl ?_
              refine D.br rfl (by decide) rfl (fun hc => ?_) (fun hc => ?_)
              · exact fun h => Kj158 _ _ (by first | rfl | assumption) (c158 _ (D.some h))
              · refine D.run 1 rfl ?_
                refine D.call rfl rfl rfl rfl (fun q h => x240_ok h) (fun q29 => ?_)
                refine D.run 2 rfl ?_
                refine D.call rfl rfl rfl rfl (fun q h => x240_ok h) (fun q30 => ?_)
                refine D.run 1 rfl ?_
                have Kj138 : ∀ (q31 : Int32), Dq ((if a2 = 35 then some 1 else some 0).bind fun (q32 : Int32) => if q31 = q32 then some (1, q30.2) else some (0, q30.2)) T158 → Rn E 249 (138, [.ref 82, .int a1, .int a2, .int 1, .int q29.1], [.int q31], wT q30.2 R) o w := by
                  intro q31
                  refine D.run 2 rfl ?_
                  have Kj149 : ∀ (q32 : Int32), Dq (if q31 = q32 then some (1, q30.2) else some (0, q30.2)) T158 → Rn E 249 (149, [.ref 82, .int a1, .int a2, .int 1, .int q29.1], [.int q32, .int q31], wT q30.2 R) o w := by
                    intro q32
                    refine D.br rfl (by decide) rfl (fun hc => ?_) (fun hc => ?_)
                    · refine D.run 3 rfl ?_
                      exact fun h => Kj158 _ _ (by first | rfl | assumption) (c158 _ (D.some h))
                    · refine D.run 2 rfl ?_
                      exact fun h => Kj158 _ _ (by first | rfl | assumption) (c158 _ (D.some h))
                  refine D.jn (fun T149 c149 => ?_)
                  refine D.br rfl (by decide) rfl (fun hc => ?_) (fun hc => ?_)
                  · refine D.run 2 rfl ?_
                    exact fun h => Kj149 _   (c149 _ (D.some h))
                  · refine D.run 1 rfl ?_
                    exact fun h => Kj149 _   (c149 _ (D.some h))
                refine D.jn (fun T138 c138 => ?_)
                refine D.br rfl (by decide) rfl (fun hc => ?_) (fun hc => ?_)
                · refine D.run 2 rfl ?_
                  exact fun h => Kj138 _   (c138 _ (D.some h))
                · refine D.run 1 rfl ?_
                  exact fun h => Kj138 _   (c138 _ (D.some h))
        · refine D.run 2 rfl ?_
          refine D.br rfl (by decide) rfl (fun hc => ?_) (fun hc => ?_)
          · refine D.run 2 rfl ?_
            refine D.br rfl (by decide) rfl (fun hc => ?_) (fun hc => ?_)
            · refine D.run 1 rfl ?_
              refine D.call rfl rfl rfl rfl (fun q h => x240_ok h) (fun q33 => ?_)
              have Kj89 : ∀ (q34 : Int32), Dq ((if a2 = 33 then some 1 else some 0).bind fun (q35 : Int32) => if q34 = q35 then some (1, q33.2) else some (0, q33.2)) T158 → Rn E 249 (89, [.ref 82, .int a1, .int a2, .int 1, us], [.int q34], wT q33.2 R) o w := by
                intro q34
                refine D.run 2 rfl ?_
                have Kj100 : ∀ (q35 : Int32), Dq (if q34 = q35 then some (1, q33.2) else some (0, q33.2)) T158 → Rn E 249 (100, [.ref 82, .int a1, .int a2, .int 1, us], [.int q35, .int q34], wT q33.2 R) o w := by
                  intro q35
                  refine D.br rfl (by decide) rfl (fun hc => ?_) (fun hc => ?_)
                  · refine D.run 4 rfl ?_
                    exact fun h => Kj158 _ _ (by first | rfl | assumption) (c158 _ (D.some h))
                  · refine D.run 3 rfl ?_
                    exact fun h => Kj158 _ _ (by first | rfl | assumption) (c158 _ (D.some h))
                refine D.jn (fun T100 c100 => ?_)
                refine D.br rfl (by decide) rfl (fun hc => ?_) (fun hc => ?_)
                · refine D.run 2 rfl ?_
                  exact fun h => Kj100 _   (c100 _ (D.some h))
                · refine D.run 1 rfl ?_
                  exact fun h => Kj100 _   (c100 _ (D.some h))
              refine D.jn (fun T89 c89 => ?_)
              refine D.br rfl (by decide) rfl (fun hc => ?_) (fun hc => ?_)
              · refine D.run 2 rfl ?_
                exact fun h => Kj89 _   (c89 _ (D.some h))
              · refine D.run 1 rfl ?_
                exact fun h => Kj89 _   (c89 _ (D.some h))
            · refine D.run 2 rfl ?_
              refine D.br rfl (by decide) rfl (fun hc => ?_) (fun hc => ?_)
              · refine D.run 1 rfl ?_
                refine D.call rfl rfl rfl rfl (fun q h => x240_ok h) (fun q36 => ?_)
                have Kj89 : ∀ (q37 : Int32), Dq ((if a2 = 33 then some 1 else some 0).bind fun (q38 : Int32) => if q37 = q38 then some (1, q36.2) else some (0, q36.2)) T158 → Rn E 249 (89, [.ref 82, .int a1, .int a2, .int 1, us], [.int q37], wT q36.2 R) o w := by
                  intro q37
                  refine D.run 2 rfl ?_
                  have Kj100 : ∀ (q38 : Int32), Dq (if q37 = q38 then some (1, q36.2) else some (0, q36.2)) T158 → Rn E 249 (100, [.ref 82, .int a1, .int a2, .int 1, us], [.int q38, .int q37], wT q36.2 R) o w := by
                    intro q38
                    refine D.br rfl (by decide) rfl (fun hc => ?_) (fun hc => ?_)
                    · refine D.run 4 rfl ?_
                      exact fun h => Kj158 _ _ (by first | rfl | assumption) (c158 _ (D.some h))
                    · refine D.run 3 rfl ?_
                      exact fun h => Kj158 _ _ (by first | rfl | assumption) (c158 _ (D.some h))
                  refine D.jn (fun T100 c100 => ?_)
                  refine D.br rfl (by decide) rfl (fun hc => ?_) (fun hc => ?_)
                  · refine D.run 2 rfl ?_
                    exact fun h => Kj100 _   (c100 _ (D.some h))
                  · refine D.run 1 rfl ?_
                    exact fun h => Kj100 _   (c100 _ (D.some h))
                refine D.jn (fun T89 c89 => ?_)
                refine D.br rfl (by decide) rfl (fun hc => ?_) (fun hc => ?_)
                · refine D.run 2 rfl ?_
                  exact fun h => Kj89 _   (c89 _ (D.some h))
                · refine D.run 1 rfl ?_
                  exact fun h => Kj89 _   (c89 _ (D.some h))
              · refine D.run 2 rfl ?_
                refine D.br rfl (by decide) rfl (fun hc => ?_) (fun hc => ?_)
                · exact fun h => Kj158 _ _ (by first | rfl | assumption) (c158 _ (D.some h))
                · refine D.run 1 rfl ?_
                  refine D.call rfl rfl rfl rfl (fun q h => x240_ok h) (fun q39 => ?_)
                  refine D.run 2 rfl ?_
                  refine D.call rfl rfl rfl rfl (fun q h => x240_ok h) (fun q40 => ?_)
                  refine D.run 1 rfl ?_
                  have Kj138 : ∀ (q41 : Int32), Dq ((if a2 = 35 then some 1 else some 0).bind fun (q42 : Int32) => if q41 = q42 then some (1, q40.2) else some (0, q40.2)) T158 → Rn E 249 (138, [.ref 82, .int a1, .int a2, .int 1, .int q39.1], [.int q41], wT q40.2 R) o w := by
                    intro q41
                    refine D.run 2 rfl ?_
                    have Kj149 : ∀ (q42 : Int32), Dq (if q41 = q42 then some (1, q40.2) else some (0, q40.2)) T158 → Rn E 249 (149, [.ref 82, .int a1, .int a2, .int 1, .int q39.1], [.int q42, .int q41], wT q40.2 R) o w := by
                      intro q42
                      refine D.br rfl (by decide) rfl (fun hc => ?_) (fun hc => ?_)
                      · refine D.run 3 rfl ?_
                        exact fun h => Kj158 _ _ (by first | rfl | assumption) (c158 _ (D.some h))
                      · refine D.run 2 rfl ?_
                        exact fun h => Kj158 _ _ (by first | rfl | assumption) (c158 _ (D.some h))
                    refine D.jn (fun T149 c149 => ?_)
                    refine D.br rfl (by decide) rfl (fun hc => ?_) (fun hc => ?_)
                    · refine D.run 2 rfl ?_
                      exact fun h => Kj149 _   (c149 _ (D.some h))
                    · refine D.run 1 rfl ?_
                      exact fun h => Kj149 _   (c149 _ (D.some h))
                  refine D.jn (fun T138 c138 => ?_)
                  refine D.br rfl (by decide) rfl (fun hc => ?_) (fun hc => ?_)
                  · refine D.run 2 rfl ?_
                    exact fun h => Kj138 _   (c138 _ (D.some h))
                  · refine D.run 1 rfl ?_
                    exact fun h => Kj138 _   (c138 _ (D.some h))
          · refine D.run 1 rfl ?_
            refine D.call rfl rfl rfl rfl (fun q h => x240_ok h) (fun q43 => ?_)
            refine D.run 5 rfl ?_
            refine D.call rfl rfl rfl rfl (fun q h => x240_ok h) (fun q44 => ?_)
            refine D.run 1 rfl ?_
            refine D.ce rfl rfl rfl rfl (x250_ok _ _ _) ?_
            show _ → Rn E 249 (61, [.ref 82, .int a1, .int a2, .int 1, .int q43.1], [.int (x250 q44.2 (a2 - 27) q44.1 q43.1)], wT q44.2 R) o w
            refine D.run 2 rfl ?_
            exact fun h => Kj158 _ _ (by first | rfl | assumption) (c158 _ (D.some h))
      · refine D.run 4 rfl ?_
        refine D.call rfl rfl rfl rfl (fun q h => x240_ok h) (fun q45 => ?_)
        refine D.run 1 rfl ?_
        refine D.ce rfl rfl rfl rfl (x250_ok _ _ _) ?_
        refine D.run 2 rfl ?_
        exact fun h => Kj158 _ _ (by first | rfl | assumption) (c158 _ (D.some h))
set_option maxRecDepth 20000 in
theorem x249_ok {E : Xe} {R : Nat → Nat → Option Nat} {Q : Nat} {I : St} (hQ : Q = 85 ∨ Q = 126) (h82_3 : R 82 3 = some Q) {a1 a2 : Int32} {q : St} (h : x249 Q I a1 a2 = some q) : Rn E 249 (0, loc0 249 [.ref 82, .int a1, .int a2], [], wT I R) (.returned none) (wT q R) := x249_D hQ h82_3 _ _ (T := fun r => r = q) (by rintro r rfl; exact ⟨rfl, rfl⟩) ⟨_, h, rfl⟩
/-- TaintHouseModel.fieldAt(II)I -/
def l270_2 (Q : Nat) (b1 : Int32) (b2 : Int32) : Nat → Int32 → St → Option ((Unit) ⊕ (Int32))
  | 0, _, _ => none
  | n + 1, b3, I => if (I Q 7) ≤ b3 then some (.inl ()) else if inb b3 100 then (x271 Q I (I (Q + 9) b3.toNatClampNeg) b1).bind fun q1 => if q1 = 0 then l270_2 Q b1 b2 n (b3 + 1) I else (x255 Q I b3).bind fun q2 => if q2 = b2 then some (.inr b3) else l270_2 Q b1 b2 n (b3 + 1) I else none
set_option maxRecDepth 20000 in
theorem l270_2_ok {E : Xe} {R : Nat → Nat → Option Nat} {Q : Nat} {I0 : St} {o : Outcome} {w : Wd} {T : ((Unit) ⊕ (Int32)) → Prop} {b1 : Int32} {b2 : Int32} (hQ : Q = 85 ∨ Q = 126) (h82_3 : R 82 3 = some Q) (hT : ∀ r, T (.inr r) → o = .returned (some (.int r)) ∧ w = wT I0 R) (K : ∀ (q : Unit) (e1 : Value) (_ : is1 e1 = true) (e2 : Value) (_ : is1 e2 = true) (e3 : Value) (_ : is1 e3 = true), T (.inl q) → Rn E 270 (47, [.ref 82, e1, e2, e3], [], wT I0 R) o w) : ∀ (n : Nat) (b3 : Int32), Dq (l270_2 Q b1 b2 n b3 I0) T → Rn E 270 (2, [.ref 82, .int b1, .int b2, .int b3], [], wT I0 R) o w := by
  rcases hQ with rfl | rfl
  · intro n
    induction n with
    | zero => intro b3; exact D.none
    | succ n ih =>
      intro b3
      rw [l270_2]
      refine D.run 2 rfl ?_
      refine D.st rfl (by decide) (gf_1 h82_3) ?_
      refine D.run 1 rfl ?_
      refine D.br rfl (by decide) rfl (fun hc => ?_) (fun hc => ?_)
      · exact fun h => D.to h (K _ _ (by first | rfl | assumption) _ (by first | rfl | assumption) _ (by first | rfl | assumption))
      · refine D.run 2 rfl ?_
        refine D.st rfl (by decide) (gf_1 h82_3) ?_
        refine D.run 2 rfl ?_
        refine D.gd fun hg => ?_
        refine D.st rfl (by decide) (al_i (by decide) (by first | rfl | decide) hg.1 hg.2) ?_
        show _ → Rn E 270 (23, [.ref 82, .int b1, .int b2, .int b3], [.int (I0 (85 + 9) b3.toNatClampNeg), .ref 82], wT I0 R) o w
        refine D.run 1 rfl ?_
        refine D.call rfl rfl rfl rfl (fun q h => x271_ok (by decide) h82_3 h) (fun q1 => ?_)
        refine D.br rfl (by decide) rfl (fun hc => ?_) (fun hc => ?_)
        · refine D.run 2 rfl ?_
          exact ih _  
        · refine D.run 2 rfl ?_
          refine D.call rfl rfl rfl rfl (fun q h => x255_ok (by decide) h82_3 h) (fun q2 => ?_)
          refine D.run 1 rfl ?_
          refine D.br rfl (by decide) rfl (fun hc => ?_) (fun hc => ?_)
          · refine D.run 1 rfl ?_
            exact fun h => by obtain ⟨rfl, rfl⟩ := hT _ (D.some h); exact Rn.ret rfl rfl rfl
          · refine D.run 2 rfl ?_
            exact ih _  
  · intro n
    induction n with
    | zero => intro b3; exact D.none
    | succ n ih =>
      intro b3
      rw [l270_2]
      refine D.run 2 rfl ?_
      refine D.st rfl (by decide) (gf_1 h82_3) ?_
      refine D.run 1 rfl ?_
      refine D.br rfl (by decide) rfl (fun hc => ?_) (fun hc => ?_)
      · exact fun h => D.to h (K _ _ (by first | rfl | assumption) _ (by first | rfl | assumption) _ (by first | rfl | assumption))
      · refine D.run 2 rfl ?_
        refine D.st rfl (by decide) (gf_1 h82_3) ?_
        refine D.run 2 rfl ?_
        refine D.gd fun hg => ?_
        refine D.st rfl (by decide) (al_i (by decide) (by first | rfl | decide) hg.1 hg.2) ?_
        show _ → Rn E 270 (23, [.ref 82, .int b1, .int b2, .int b3], [.int (I0 (126 + 9) b3.toNatClampNeg), .ref 82], wT I0 R) o w
        refine D.run 1 rfl ?_
        refine D.call rfl rfl rfl rfl (fun q h => x271_ok (by decide) h82_3 h) (fun q1 => ?_)
        refine D.br rfl (by decide) rfl (fun hc => ?_) (fun hc => ?_)
        · refine D.run 2 rfl ?_
          exact ih _  
        · refine D.run 2 rfl ?_
          refine D.call rfl rfl rfl rfl (fun q h => x255_ok (by decide) h82_3 h) (fun q2 => ?_)
          refine D.run 1 rfl ?_
          refine D.br rfl (by decide) rfl (fun hc => ?_) (fun hc => ?_)
          · refine D.run 1 rfl ?_
            exact fun h => by obtain ⟨rfl, rfl⟩ := hT _ (D.some h); exact Rn.ret rfl rfl rfl
          · refine D.run 2 rfl ?_
            exact ih _  
def x270 (Q : Nat) (I : St) (a1 a2 : Int32) : Option (Int32) := (l270_2 Q a1 a2 100000 0 I).bind (Sum.elim (fun q3 => some (-1)) (fun r => some r))
set_option maxRecDepth 20000 in
theorem x270_D {E : Xe} {R : Nat → Nat → Option Nat} {Q : Nat} {o : Outcome} {w : Wd} {T : (Int32) → Prop} {I : St} (hQ : Q = 85 ∨ Q = 126) (h82_3 : R 82 3 = some Q) (a1 a2 : Int32) (hT : ∀ r, T r → o = .returned (some (.int r)) ∧ w = wT I R) : Dq (x270 Q I a1 a2) T → Rn E 270 (0, loc0 270 [.ref 82, .int a1, .int a2], [], wT I R) o w := by
  unfold x270
  rcases hQ with rfl | rfl
  all_goals
    refine D.run 2 rfl ?_
    refine D.bind (l270_2_ok (by decide) h82_3 (fun r h => hT _ (D.some h)) (fun q3 e4 he4 e5 he5 e6 he6 => ?_) 100000 _   )
    refine D.inl ?_
    refine D.run 1 rfl ?_
    exact fun h => by obtain ⟨rfl, rfl⟩ := hT _ (D.some h); exact Rn.ret rfl rfl rfl
set_option maxRecDepth 20000 in
theorem x270_ok {E : Xe} {R : Nat → Nat → Option Nat} {Q : Nat} {I : St} (hQ : Q = 85 ∨ Q = 126) (h82_3 : R 82 3 = some Q) {a1 a2 : Int32} {q : Int32} (h : x270 Q I a1 a2 = some q) : Rn E 270 (0, loc0 270 [.ref 82, .int a1, .int a2], [], wT I R) (.returned (some (.int q))) (wT I R) := x270_D hQ h82_3 _ _ (T := fun r => r = q) (by rintro r rfl; exact ⟨rfl, rfl⟩) ⟨_, h, rfl⟩
/-- TaintHouse$Names.reset()V -/
def l26_30 : Nat → Int32 → St → Option (St)
  | 0, _, _ => none
  | n + 1, b1, I => if 405 ≤ b1 then some I else if inb b1 405 then if ((xTL.getD 0 []).getD b1.toNatClampNeg 0) = 32 then (x35 I).bind fun q2 => (x29 q2.2).bind fun q3 => l26_30 n (b1 + 1) q3 else if inb b1 405 then (x38 I ((xTL.getD 0 []).getD b1.toNatClampNeg 0)).bind fun q4 => l26_30 n (b1 + 1) q4 else none else none
set_option maxRecDepth 20000 in
theorem l26_30_ok {E : Xe} {R : Nat → Nat → Option Nat} {o : Outcome} {w : Wd} {T : (St) → Prop} (K : ∀ (q : St) (e1 : Value) (_ : is1 e1 = true), T q → Rn E 26 (78, [.ref 36, e1], [], wT q R) o w) : ∀ (n : Nat) (b1 : Int32) (I : St), Dq (l26_30 n b1 I) T → Rn E 26 (30, [.ref 36, .int b1], [], wT I R) o w := by
  intro n
  induction n with
  | zero => intro b1 I; exact D.none
  | succ n ih =>
    intro b1 I
    rw [l26_30]
    refine D.run 2 rfl ?_
    refine D.ce rfl rfl rfl rfl (slen_ok (t := 0) (by decide)) ?_
    refine D.br rfl (by decide) rfl (fun hc => ?_) (fun hc => ?_)
    · exact fun h => D.to h (K _ _ (by first | rfl | assumption))
    · refine D.run 2 rfl ?_
      refine D.gd fun hg => ?_
      refine D.ce rfl rfl rfl rfl (scharI (tx := 0) (by decide) hg) ?_
      refine D.run 1 rfl ?_
      refine D.br rfl (by decide) rfl (fun hc => ?_) (fun hc => ?_)
      · refine D.run 1 rfl ?_
        refine D.call rfl rfl rfl rfl (fun q h => x35_ok h) (fun q2 => ?_)
        refine D.run 2 rfl ?_
        refine D.call rfl rfl rfl rfl (fun q h => x29_ok h) (fun q3 => ?_)
        refine D.run 3 rfl ?_
        exact ih _ _ 
      · refine D.run 3 rfl ?_
        refine D.gd fun hg => ?_
        refine D.ce rfl rfl rfl rfl (scharI (tx := 0) (by decide) hg) ?_
        refine D.call rfl rfl rfl rfl (fun q h => x38_ok h) (fun q4 => ?_)
        refine D.run 2 rfl ?_
        exact ih _ _ 
def x26 (I : St) : Option (St) := (x29 (fillF (tresize (tresize I 37 0) 39 0) (sf 41 2) 0 (-1))).bind fun q1 => (l26_30 100000 0 q1).bind fun q5 => some q5
set_option maxRecDepth 20000 in
theorem x26_D {E : Xe} {R : Nat → Nat → Option Nat} {o : Outcome} {w : Wd} {T : (St) → Prop} {I : St} (hT : ∀ r, T r → o = .returned none ∧ w = wT r R) : Dq (x26 I) T → Rn E 26 (0, loc0 26 [.ref 36], [], wT I R) o w := by
  unfold x26
  refine D.run 3 rfl ?_
  refine D.ce rfl rfl rfl rfl (tresize_ok (by decide) (by first | rfl | decide) _) ?_
  refine D.run 3 rfl ?_
  refine D.ce rfl rfl rfl rfl (tresize_ok (by decide) (by first | rfl | decide) _) ?_
  refine D.run 3 rfl ?_
  refine D.ce rfl rfl rfl rfl (tfill_ok (by decide) (by first | rfl | decide) _) ?_
  show _ → Rn E 26 (24, [.ref 36, us], [], wT (fillF (tresize (tresize I 37 0) 39 0) (sf 41 2) 0 (-1)) R) o w
  refine D.run 1 rfl ?_
  refine D.call rfl rfl rfl rfl (fun q h => x29_ok h) (fun q1 => ?_)
  refine D.run 2 rfl ?_
  refine D.bind (l26_30_ok  (fun q5 e6 he6 => ?_) 100000 _  _ )
  exact fun h => by obtain ⟨rfl, rfl⟩ := hT _ (D.some h); exact Rn.ret rfl rfl rfl
set_option maxRecDepth 20000 in
theorem x26_ok {E : Xe} {R : Nat → Nat → Option Nat} {I : St} {q : St} (h : x26 I = some q) : Rn E 26 (0, loc0 26 [.ref 36], [], wT I R) (.returned none) (wT q R) := x26_D  (T := fun r => r = q) (by rintro r rfl; exact ⟨rfl, rfl⟩) ⟨_, h, rfl⟩
/-- TaintHouse$Parser.readClassHead()V -/
def x55 (P : Nat) (I : St) : Option (St) := if (x56 I) = 0 then if (I (P + 1) 3) ≤ 7 then if (x57 I 59) = 0 then (x58 I).bind fun q1 => some q1 else if (I (P + 1) 3) < 19 then (x59 (up2 I 56 3 ((I 56 3) + 1))).bind fun q2 => (x6 P q2.2 q2.1).bind fun q3 => Lt (tset (tset (tadd q3.2 44) 44 (I (P + 1) 3) 0 ((tadd q3.2 44) 56 6)) 44 (I (P + 1) 3) 1 (-1)) fun J4 => (if (x61 J4 58) = 0 then some J4 else (x59 (up2 J4 56 3 ((J4 56 3) + 1))).bind fun q5 => Lt (tset (tset q5.2 44 (I (P + 1) 3) 1 q5.1) 44 (I (P + 1) 3) 2 ((tset q5.2 44 (I (P + 1) 3) 1 q5.1) 56 6)) fun J6 => some J6).bind fun (q7 : St) => (x62 q7 123).bind fun q8 => some (up2 q8 56 4 1) else (x58 I).bind fun q9 => some q9 else some (up2 I 56 4 3) else if (x57 I 59) = 0 then (x58 I).bind fun q10 => some q10 else if (I (P + 1) 3) < 19 then (x59 (up2 I 56 3 ((I 56 3) + 1))).bind fun q11 => (x6 P q11.2 q11.1).bind fun q12 => Lt (tset (tset (tadd q12.2 44) 44 (I (P + 1) 3) 0 ((tadd q12.2 44) 56 6)) 44 (I (P + 1) 3) 1 (-1)) fun J13 => (if (x61 J13 58) = 0 then some J13 else (x59 (up2 J13 56 3 ((J13 56 3) + 1))).bind fun q14 => Lt (tset (tset q14.2 44 (I (P + 1) 3) 1 q14.1) 44 (I (P + 1) 3) 2 ((tset q14.2 44 (I (P + 1) 3) 1 q14.1) 56 6)) fun J15 => some J15).bind fun (q16 : St) => (x62 q16 123).bind fun q17 => some (up2 q17 56 4 1) else (x58 I).bind fun q18 => some q18
set_option maxRecDepth 20000 in
theorem x55_D {E : Xe} {R : Nat → Nat → Option Nat} {P : Nat} {o : Outcome} {w : Wd} {T : (St) → Prop} {I : St} (hP : P = 3 ∨ P = 18) (h56_2 : R 56 2 = some P) (hT : ∀ r, T r → o = .returned none ∧ w = wT r R) : Dq (x55 P I) T → Rn E 55 (0, loc0 55 [.ref 56], [], wT I R) o w := by
  unfold x55
  rcases hP with rfl | rfl
  · refine D.run 1 rfl ?_
    refine D.st rfl (by decide) (gf_1 h56_2) ?_
    refine D.run 1 rfl ?_
    refine D.ce rfl rfl rfl rfl (tsize_ok (by decide) (by first | rfl | decide)) ?_
    refine D.run 2 rfl ?_
    refine D.ce rfl rfl rfl rfl (x56_ok) ?_
    show _ → Rn E 55 (15, [.ref 56, .int (I (3 + 1) 3)], [.int (x56 I)], wT I R) o w
    refine D.br rfl (by decide) rfl (fun hc => ?_) (fun hc => ?_)
    · refine D.run 2 rfl ?_
      refine D.br rfl (by decide) rfl (fun hc => ?_) (fun hc => ?_)
      · refine D.run 2 rfl ?_
        refine D.ce rfl rfl rfl rfl (x57_ok _) ?_
        refine D.br rfl (by decide) rfl (fun hc => ?_) (fun hc => ?_)
        · refine D.run 1 rfl ?_
          refine D.call rfl rfl rfl rfl (fun q h => x58_ok h) (fun q1 => ?_)
          exact fun h => by obtain ⟨rfl, rfl⟩ := hT _ (D.some h); exact Rn.ret rfl rfl rfl
        · refine D.run 2 rfl ?_
          refine D.br rfl (by decide) rfl (fun hc => ?_) (fun hc => ?_)
          · refine D.run 7 rfl ?_
            refine D.st rfl (by decide) (gf_1 h56_2) ?_
            refine D.run 1 rfl ?_
            refine D.call rfl rfl rfl rfl (fun q h => x59_ok h) (fun q2 => ?_)
            refine D.call rfl rfl rfl rfl (fun q h => x6_ok (by decide) h) (fun q3 => ?_)
            show _ → Rn E 55 (71, [.ref 56, .int (I (3 + 1) 3)], [.int q3.1], wT q3.2 R) o w
            refine D.run 4 rfl ?_
            refine D.ce rfl rfl rfl rfl (tadd_ok (by decide) (by first | rfl | decide)) ?_
            refine D.run 8 rfl ?_
            refine D.ce rfl rfl rfl rfl (tset_ok (by decide) (by first | rfl | decide) _ _ _) ?_
            refine D.run 6 rfl ?_
            refine D.ce rfl rfl rfl rfl (tset_ok (by decide) (by first | rfl | decide) _ _ _) ?_
            refine D.letS (fun J4 => ?_)
            show _ → Rn E 55 (112, [.ref 56, .int (I (3 + 1) 3)], [], wT J4 R) o w
            refine D.run 2 rfl ?_
            refine D.ce rfl rfl rfl rfl (x61_ok _) ?_
            have Kj163 : ∀ (q7 : St), Dq ((x62 q7 123).bind fun q8 => some (up2 q8 56 4 1)) T → Rn E 55 (163, [.ref 56, .int (I (3 + 1) 3)], [], wT q7 R) o w := by
              intro q7
              refine D.run 2 rfl ?_
              refine D.call rfl rfl rfl rfl (fun q h => x62_ok h) (fun q8 => ?_)
              refine D.run 3 rfl ?_
              exact fun h => by obtain ⟨rfl, rfl⟩ := hT _ (D.some h); exact Rn.ret rfl rfl rfl
            refine D.jn (fun T163 c163 => ?_)
            refine D.br rfl (by decide) rfl (fun hc => ?_) (fun hc => ?_)
            · exact fun h => Kj163 _   (c163 _ (D.some h))
            · refine D.run 12 rfl ?_
              refine D.call rfl rfl rfl rfl (fun q h => x59_ok h) (fun q5 => ?_)
              refine D.ce rfl rfl rfl rfl (tset_ok (by decide) (by first | rfl | decide) _ _ _) ?_
              refine D.run 7 rfl ?_
              refine D.ce rfl rfl rfl rfl (tset_ok (by decide) (by first | rfl | decide) _ _ _) ?_
              refine D.letS (fun J6 => ?_)
              exact fun h => Kj163 _   (c163 _ (D.some h))
          · refine D.run 1 rfl ?_
            refine D.call rfl rfl rfl rfl (fun q h => x58_ok h) (fun q9 => ?_)
            exact fun h => by obtain ⟨rfl, rfl⟩ := hT _ (D.some h); exact Rn.ret rfl rfl rfl
      · refine D.run 3 rfl ?_
        exact fun h => by obtain ⟨rfl, rfl⟩ := hT _ (D.some h); exact Rn.ret rfl rfl rfl
    · refine D.run 2 rfl ?_
      refine D.ce rfl rfl rfl rfl (x57_ok _) ?_
      refine D.br rfl (by decide) rfl (fun hc => ?_) (fun hc => ?_)
      · refine D.run 1 rfl ?_
        refine D.call rfl rfl rfl rfl (fun q h => x58_ok h) (fun q10 => ?_)
        exact fun h => by obtain ⟨rfl, rfl⟩ := hT _ (D.some h); exact Rn.ret rfl rfl rfl
      · refine D.run 2 rfl ?_
        refine D.br rfl (by decide) rfl (fun hc => ?_) (fun hc => ?_)
        · refine D.run 7 rfl ?_
          refine D.st rfl (by decide) (gf_1 h56_2) ?_
          refine D.run 1 rfl ?_
          refine D.call rfl rfl rfl rfl (fun q h => x59_ok h) (fun q11 => ?_)
          refine D.call rfl rfl rfl rfl (fun q h => x6_ok (by decide) h) (fun q12 => ?_)
          show _ → Rn E 55 (71, [.ref 56, .int (I (3 + 1) 3)], [.int q12.1], wT q12.2 R) o w
          refine D.run 4 rfl ?_
          refine D.ce rfl rfl rfl rfl (tadd_ok (by decide) (by first | rfl | decide)) ?_
          refine D.run 8 rfl ?_
          refine D.ce rfl rfl rfl rfl (tset_ok (by decide) (by first | rfl | decide) _ _ _) ?_
          refine D.run 6 rfl ?_
          refine D.ce rfl rfl rfl rfl (tset_ok (by decide) (by first | rfl | decide) _ _ _) ?_
          refine D.letS (fun J13 => ?_)
          show _ → Rn E 55 (112, [.ref 56, .int (I (3 + 1) 3)], [], wT J13 R) o w
          refine D.run 2 rfl ?_
          refine D.ce rfl rfl rfl rfl (x61_ok _) ?_
          have Kj163 : ∀ (q16 : St), Dq ((x62 q16 123).bind fun q17 => some (up2 q17 56 4 1)) T → Rn E 55 (163, [.ref 56, .int (I (3 + 1) 3)], [], wT q16 R) o w := by
            intro q16
            refine D.run 2 rfl ?_
            refine D.call rfl rfl rfl rfl (fun q h => x62_ok h) (fun q17 => ?_)
            refine D.run 3 rfl ?_
            exact fun h => by obtain ⟨rfl, rfl⟩ := hT _ (D.some h); exact Rn.ret rfl rfl rfl
          refine D.jn (fun T163 c163 => ?_)
          refine D.br rfl (by decide) rfl (fun hc => ?_) (fun hc => ?_)
          · exact fun h => Kj163 _   (c163 _ (D.some h))
          · refine D.run 12 rfl ?_
            refine D.call rfl rfl rfl rfl (fun q h => x59_ok h) (fun q14 => ?_)
            refine D.ce rfl rfl rfl rfl (tset_ok (by decide) (by first | rfl | decide) _ _ _) ?_
            refine D.run 7 rfl ?_
            refine D.ce rfl rfl rfl rfl (tset_ok (by decide) (by first | rfl | decide) _ _ _) ?_
            refine D.letS (fun J15 => ?_)
            exact fun h => Kj163 _   (c163 _ (D.some h))
        · refine D.run 1 rfl ?_
          refine D.call rfl rfl rfl rfl (fun q h => x58_ok h) (fun q18 => ?_)
          exact fun h => by obtain ⟨rfl, rfl⟩ := hT _ (D.some h); exact Rn.ret rfl rfl rfl
  · refine D.run 1 rfl ?_
    refine D.st rfl (by decide) (gf_1 h56_2) ?_
    refine D.run 1 rfl ?_
    refine D.ce rfl rfl rfl rfl (tsize_ok (by decide) (by first | rfl | decide)) ?_
    refine D.run 2 rfl ?_
    refine D.ce rfl rfl rfl rfl (x56_ok) ?_
    show _ → Rn E 55 (15, [.ref 56, .int (I (18 + 1) 3)], [.int (x56 I)], wT I R) o w
    refine D.br rfl (by decide) rfl (fun hc => ?_) (fun hc => ?_)
    · refine D.run 2 rfl ?_
      refine D.br rfl (by decide) rfl (fun hc => ?_) (fun hc => ?_)
      · refine D.run 2 rfl ?_
        refine D.ce rfl rfl rfl rfl (x57_ok _) ?_
        refine D.br rfl (by decide) rfl (fun hc => ?_) (fun hc => ?_)
        · refine D.run 1 rfl ?_
          refine D.call rfl rfl rfl rfl (fun q h => x58_ok h) (fun q1 => ?_)
          exact fun h => by obtain ⟨rfl, rfl⟩ := hT _ (D.some h); exact Rn.ret rfl rfl rfl
        · refine D.run 2 rfl ?_
          refine D.br rfl (by decide) rfl (fun hc => ?_) (fun hc => ?_)
          · refine D.run 7 rfl ?_
            refine D.st rfl (by decide) (gf_1 h56_2) ?_
            refine D.run 1 rfl ?_
            refine D.call rfl rfl rfl rfl (fun q h => x59_ok h) (fun q2 => ?_)
            refine D.call rfl rfl rfl rfl (fun q h => x6_ok (by decide) h) (fun q3 => ?_)
            show _ → Rn E 55 (71, [.ref 56, .int (I (18 + 1) 3)], [.int q3.1], wT q3.2 R) o w
            refine D.run 4 rfl ?_
            refine D.ce rfl rfl rfl rfl (tadd_ok (by decide) (by first | rfl | decide)) ?_
            refine D.run 8 rfl ?_
            refine D.ce rfl rfl rfl rfl (tset_ok (by decide) (by first | rfl | decide) _ _ _) ?_
            refine D.run 6 rfl ?_
            refine D.ce rfl rfl rfl rfl (tset_ok (by decide) (by first | rfl | decide) _ _ _) ?_
            refine D.letS (fun J4 => ?_)
            show _ → Rn E 55 (112, [.ref 56, .int (I (18 + 1) 3)], [], wT J4 R) o w
            refine D.run 2 rfl ?_
            refine D.ce rfl rfl rfl rfl (x61_ok _) ?_
            have Kj163 : ∀ (q7 : St), Dq ((x62 q7 123).bind fun q8 => some (up2 q8 56 4 1)) T → Rn E 55 (163, [.ref 56, .int (I (18 + 1) 3)], [], wT q7 R) o w := by
              intro q7
              refine D.run 2 rfl ?_
              refine D.call rfl rfl rfl rfl (fun q h => x62_ok h) (fun q8 => ?_)
              refine D.run 3 rfl ?_
              exact fun h => by obtain ⟨rfl, rfl⟩ := hT _ (D.some h); exact Rn.ret rfl rfl rfl
            refine D.jn (fun T163 c163 => ?_)
            refine D.br rfl (by decide) rfl (fun hc => ?_) (fun hc => ?_)
            · exact fun h => Kj163 _   (c163 _ (D.some h))
            · refine D.run 12 rfl ?_
              refine D.call rfl rfl rfl rfl (fun q h => x59_ok h) (fun q5 => ?_)
              refine D.ce rfl rfl rfl rfl (tset_ok (by decide) (by first | rfl | decide) _ _ _) ?_
              refine D.run 7 rfl ?_
              refine D.ce rfl rfl rfl rfl (tset_ok (by decide) (by first | rfl | decide) _ _ _) ?_
              refine D.letS (fun J6 => ?_)
              exact fun h => Kj163 _   (c163 _ (D.some h))
          · refine D.run 1 rfl ?_
            refine D.call rfl rfl rfl rfl (fun q h => x58_ok h) (fun q9 => ?_)
            exact fun h => by obtain ⟨rfl, rfl⟩ := hT _ (D.some h); exact Rn.ret rfl rfl rfl
      · refine D.run 3 rfl ?_
        exact fun h => by obtain ⟨rfl, rfl⟩ := hT _ (D.some h); exact Rn.ret rfl rfl rfl
    · refine D.run 2 rfl ?_
      refine D.ce rfl rfl rfl rfl (x57_ok _) ?_
      refine D.br rfl (by decide) rfl (fun hc => ?_) (fun hc => ?_)
      · refine D.run 1 rfl ?_
        refine D.call rfl rfl rfl rfl (fun q h => x58_ok h) (fun q10 => ?_)
        exact fun h => by obtain ⟨rfl, rfl⟩ := hT _ (D.some h); exact Rn.ret rfl rfl rfl
      · refine D.run 2 rfl ?_
        refine D.br rfl (by decide) rfl (fun hc => ?_) (fun hc => ?_)
        · refine D.run 7 rfl ?_
          refine D.st rfl (by decide) (gf_1 h56_2) ?_
          refine D.run 1 rfl ?_
          refine D.call rfl rfl rfl rfl (fun q h => x59_ok h) (fun q11 => ?_)
          refine D.call rfl rfl rfl rfl (fun q h => x6_ok (by decide) h) (fun q12 => ?_)
          show _ → Rn E 55 (71, [.ref 56, .int (I (18 + 1) 3)], [.int q12.1], wT q12.2 R) o w
          refine D.run 4 rfl ?_
          refine D.ce rfl rfl rfl rfl (tadd_ok (by decide) (by first | rfl | decide)) ?_
          refine D.run 8 rfl ?_
          refine D.ce rfl rfl rfl rfl (tset_ok (by decide) (by first | rfl | decide) _ _ _) ?_
          refine D.run 6 rfl ?_
          refine D.ce rfl rfl rfl rfl (tset_ok (by decide) (by first | rfl | decide) _ _ _) ?_
          refine D.letS (fun J13 => ?_)
          show _ → Rn E 55 (112, [.ref 56, .int (I (18 + 1) 3)], [], wT J13 R) o w
          refine D.run 2 rfl ?_
          refine D.ce rfl rfl rfl rfl (x61_ok _) ?_
          have Kj163 : ∀ (q16 : St), Dq ((x62 q16 123).bind fun q17 => some (up2 q17 56 4 1)) T → Rn E 55 (163, [.ref 56, .int (I (18 + 1) 3)], [], wT q16 R) o w := by
            intro q16
            refine D.run 2 rfl ?_
            refine D.call rfl rfl rfl rfl (fun q h => x62_ok h) (fun q17 => ?_)
            refine D.run 3 rfl ?_
            exact fun h => by obtain ⟨rfl, rfl⟩ := hT _ (D.some h); exact Rn.ret rfl rfl rfl
          refine D.jn (fun T163 c163 => ?_)
          refine D.br rfl (by decide) rfl (fun hc => ?_) (fun hc => ?_)
          · exact fun h => Kj163 _   (c163 _ (D.some h))
          · refine D.run 12 rfl ?_
            refine D.call rfl rfl rfl rfl (fun q h => x59_ok h) (fun q14 => ?_)
            refine D.ce rfl rfl rfl rfl (tset_ok (by decide) (by first | rfl | decide) _ _ _) ?_
            refine D.run 7 rfl ?_
            refine D.ce rfl rfl rfl rfl (tset_ok (by decide) (by first | rfl | decide) _ _ _) ?_
            refine D.letS (fun J15 => ?_)
            exact fun h => Kj163 _   (c163 _ (D.some h))
        · refine D.run 1 rfl ?_
          refine D.call rfl rfl rfl rfl (fun q h => x58_ok h) (fun q18 => ?_)
          exact fun h => by obtain ⟨rfl, rfl⟩ := hT _ (D.some h); exact Rn.ret rfl rfl rfl
set_option maxRecDepth 20000 in
theorem x55_ok {E : Xe} {R : Nat → Nat → Option Nat} {P : Nat} {I : St} (hP : P = 3 ∨ P = 18) (h56_2 : R 56 2 = some P) {q : St} (h : x55 P I = some q) : Rn E 55 (0, loc0 55 [.ref 56], [], wT I R) (.returned none) (wT q R) := x55_D hP h56_2 (T := fun r => r = q) (by rintro r rfl; exact ⟨rfl, rfl⟩) ⟨_, h, rfl⟩
/-- TaintHouse$Parser.readField()V -/
def x64 (P : Nat) (I : St) : Option (St) := if (tget I (P + 1) (x65 P I) 3) < 8 then (x66 (P + 3) P (tset I (P + 1) (x65 P I) 3 ((tget I (P + 1) (x65 P I) 3) + 1)) 0).bind fun q1 => (x67 q1.2 0).bind fun q2 => (x62 (tset q2.2 (P + 3) q1.1 3 q2.1) 59).bind fun q3 => some q3 else (x58 I).bind fun q4 => some q4
set_option maxRecDepth 20000 in
theorem x64_D {E : Xe} {R : Nat → Nat → Option Nat} {P : Nat} {o : Outcome} {w : Wd} {T : (St) → Prop} {I : St} (hP : P = 3 ∨ P = 18) (h56_2 : R 56 2 = some P) (hT : ∀ r, T r → o = .returned none ∧ w = wT r R) : Dq (x64 P I) T → Rn E 64 (0, loc0 64 [.ref 56], [], wT I R) o w := by
  unfold x64
  rcases hP with rfl | rfl
  · refine D.run 1 rfl ?_
    refine D.st rfl (by decide) (gf_1 h56_2) ?_
    refine D.run 2 rfl ?_
    refine D.ce rfl rfl rfl rfl (x65_ok (by decide) h56_2) ?_
    refine D.run 1 rfl ?_
    refine D.ce rfl rfl rfl rfl (tget_ok (by decide) (by first | rfl | decide) _ _) ?_
    show _ → Rn E 64 (15, [.ref 56, us, us], [.int (tget I (3 + 1) (x65 3 I) 3)], wT I R) o w
    refine D.run 3 rfl ?_
    refine D.br rfl (by decide) rfl (fun hc => ?_) (fun hc => ?_)
    · refine D.run 1 rfl ?_
      refine D.st rfl (by decide) (gf_1 h56_2) ?_
      refine D.run 2 rfl ?_
      refine D.ce rfl rfl rfl rfl (x65_ok (by decide) h56_2) ?_
      refine D.run 4 rfl ?_
      refine D.ce rfl rfl rfl rfl (tset_ok (by decide) (by first | rfl | decide) _ _ _) ?_
      show _ → Rn E 64 (45, [.ref 56, .int (tget I (3 + 1) (x65 3 I) 3), us], [], wT (tset I (3 + 1) (x65 3 I) 3 ((tget I (3 + 1) (x65 3 I) 3) + 1)) R) o w
      refine D.run 2 rfl ?_
      refine D.st rfl (by decide) (gf_1 h56_2) ?_
      refine D.run 2 rfl ?_
      refine D.call rfl rfl rfl rfl (fun q h => x66_ok (by decide) (by decide) h56_2 h) (fun q1 => ?_)
      refine D.run 2 rfl ?_
      refine D.st rfl (by decide) (gf_1 h56_2) ?_
      show _ → Rn E 64 (62, [.ref 56, .int (tget I (3 + 1) (x65 3 I) 3), .int q1.1], [.ref 3], wT q1.2 R) o w
      refine D.run 5 rfl ?_
      refine D.call rfl rfl rfl rfl (fun q h => x67_ok h) (fun q2 => ?_)
      refine D.ce rfl rfl rfl rfl (tset_ok (by decide) (by first | rfl | decide) _ _ _) ?_
      refine D.run 2 rfl ?_
      refine D.call rfl rfl rfl rfl (fun q h => x62_ok h) (fun q3 => ?_)
      show _ → Rn E 64 (81, [.ref 56, .int (tget I (3 + 1) (x65 3 I) 3), .int q1.1], [], wT q3 R) o w
      exact fun h => by obtain ⟨rfl, rfl⟩ := hT _ (D.some h); exact Rn.ret rfl rfl rfl
    · refine D.run 1 rfl ?_
      refine D.call rfl rfl rfl rfl (fun q h => x58_ok h) (fun q4 => ?_)
      exact fun h => by obtain ⟨rfl, rfl⟩ := hT _ (D.some h); exact Rn.ret rfl rfl rfl
  · refine D.run 1 rfl ?_
    refine D.st rfl (by decide) (gf_1 h56_2) ?_
    refine D.run 2 rfl ?_
    refine D.ce rfl rfl rfl rfl (x65_ok (by decide) h56_2) ?_
    refine D.run 1 rfl ?_
    refine D.ce rfl rfl rfl rfl (tget_ok (by decide) (by first | rfl | decide) _ _) ?_
    show _ → Rn E 64 (15, [.ref 56, us, us], [.int (tget I (18 + 1) (x65 18 I) 3)], wT I R) o w
    refine D.run 3 rfl ?_
    refine D.br rfl (by decide) rfl (fun hc => ?_) (fun hc => ?_)
    · refine D.run 1 rfl ?_
      refine D.st rfl (by decide) (gf_1 h56_2) ?_
      refine D.run 2 rfl ?_
      refine D.ce rfl rfl rfl rfl (x65_ok (by decide) h56_2) ?_
      refine D.run 4 rfl ?_
      refine D.ce rfl rfl rfl rfl (tset_ok (by decide) (by first | rfl | decide) _ _ _) ?_
      show _ → Rn E 64 (45, [.ref 56, .int (tget I (18 + 1) (x65 18 I) 3), us], [], wT (tset I (18 + 1) (x65 18 I) 3 ((tget I (18 + 1) (x65 18 I) 3) + 1)) R) o w
      refine D.run 2 rfl ?_
      refine D.st rfl (by decide) (gf_1 h56_2) ?_
      refine D.run 2 rfl ?_
      refine D.call rfl rfl rfl rfl (fun q h => x66_ok (by decide) (by decide) h56_2 h) (fun q1 => ?_)
      refine D.run 2 rfl ?_
      refine D.st rfl (by decide) (gf_1 h56_2) ?_
      show _ → Rn E 64 (62, [.ref 56, .int (tget I (18 + 1) (x65 18 I) 3), .int q1.1], [.ref 18], wT q1.2 R) o w
      refine D.run 5 rfl ?_
      refine D.call rfl rfl rfl rfl (fun q h => x67_ok h) (fun q2 => ?_)
      refine D.ce rfl rfl rfl rfl (tset_ok (by decide) (by first | rfl | decide) _ _ _) ?_
      refine D.run 2 rfl ?_
      refine D.call rfl rfl rfl rfl (fun q h => x62_ok h) (fun q3 => ?_)
      show _ → Rn E 64 (81, [.ref 56, .int (tget I (18 + 1) (x65 18 I) 3), .int q1.1], [], wT q3 R) o w
      exact fun h => by obtain ⟨rfl, rfl⟩ := hT _ (D.some h); exact Rn.ret rfl rfl rfl
    · refine D.run 1 rfl ?_
      refine D.call rfl rfl rfl rfl (fun q h => x58_ok h) (fun q4 => ?_)
      exact fun h => by obtain ⟨rfl, rfl⟩ := hT _ (D.some h); exact Rn.ret rfl rfl rfl
set_option maxRecDepth 20000 in
theorem x64_ok {E : Xe} {R : Nat → Nat → Option Nat} {P : Nat} {I : St} (hP : P = 3 ∨ P = 18) (h56_2 : R 56 2 = some P) {q : St} (h : x64 P I = some q) : Rn E 64 (0, loc0 64 [.ref 56], [], wT I R) (.returned none) (wT q R) := x64_D hP h56_2 (T := fun r => r = q) (by rintro r rfl; exact ⟨rfl, rfl⟩) ⟨_, h, rfl⟩
/-- TaintHouse$Parser.readCode(I)V -/
def x75 (P : Nat) (I : St) (a1 : Int32) : Option (St) := if (tget I (P + 7) (x72 P I) 6) < 100 then Lt (tadr (tset I (P + 7) (x72 P I) 6 ((tget I (P + 7) (x72 P I) 6) + 1)) (P + 9)) fun v1 => Lt (tset (tadd (tadd (tset I (P + 7) (x72 P I) 6 ((tget I (P + 7) (x72 P I) 6) + 1)) (P + 9)) 52) (P + 9) v1 0 a1) fun J2 => (x76 (up2 (tset J2 52 v1 0 (x60 J2)) 56 3 (((tset J2 52 v1 0 (x60 J2)) 56 3) + 1)) a1).bind fun q3 => (if q3 = 1 then (x77 (up2 (tset J2 52 v1 0 (x60 J2)) 56 3 (((tset J2 52 v1 0 (x60 J2)) 56 3) + 1)) 2147483647).bind fun q4 => some (tset q4.2 (P + 9) v1 1 q4.1) else if q3 = 2 then (x78 (up2 (tset J2 52 v1 0 (x60 J2)) 56 3 (((tset J2 52 v1 0 (x60 J2)) 56 3) + 1)) 15).bind fun q5 => some (tset q5.2 (P + 9) v1 1 q5.1) else if q3 = 3 then (x78 (up2 (tset J2 52 v1 0 (x60 J2)) 56 3 (((tset J2 52 v1 0 (x60 J2)) 56 3) + 1)) 15).bind fun q6 => (x77 (tset q6.2 (P + 9) v1 1 q6.1) 32767).bind fun q7 => some (tset q7.2 (P + 9) v1 2 q7.1) else if q3 = 4 then (x79 P (up2 (tset J2 52 v1 0 (x60 J2)) 56 3 (((tset J2 52 v1 0 (x60 J2)) 56 3) + 1)) v1 1).bind fun q8 => some q8 else if q3 = 5 then (x79 P (up2 (tset J2 52 v1 0 (x60 J2)) 56 3 (((tset J2 52 v1 0 (x60 J2)) 56 3) + 1)) v1 1).bind fun q9 => some q9 else if q3 = 6 then (x79 P (up2 (tset J2 52 v1 0 (x60 J2)) 56 3 (((tset J2 52 v1 0 (x60 J2)) 56 3) + 1)) v1 1).bind fun q10 => (x79 P q10 v1 2).bind fun q11 => some q11 else if q3 = 7 then (x78 (up2 (tset J2 52 v1 0 (x60 J2)) 56 3 (((tset J2 52 v1 0 (x60 J2)) 56 3) + 1)) 65535).bind fun q12 => some (tset q12.2 (P + 9) v1 1 q12.1) else some (up2 (tset J2 52 v1 0 (x60 J2)) 56 3 (((tset J2 52 v1 0 (x60 J2)) 56 3) + 1))).bind fun (q13 : St) => (x62 q13 59).bind fun q14 => some q14 else (x58 I).bind fun q15 => some q15
set_option maxRecDepth 20000 in
theorem x75_D {E : Xe} {R : Nat → Nat → Option Nat} {P : Nat} {o : Outcome} {w : Wd} {T : (St) → Prop} {I : St} (hP : P = 3 ∨ P = 18) (h56_2 : R 56 2 = some P) (a1 : Int32) (hT : ∀ r, T r → o = .returned none ∧ w = wT r R) : Dq (x75 P I a1) T → Rn E 75 (0, loc0 75 [.ref 56, .int a1], [], wT I R) o w := by
  unfold x75
  rcases hP with rfl | rfl
  · refine D.run 1 rfl ?_
    refine D.st rfl (by decide) (gf_1 h56_2) ?_
    refine D.run 2 rfl ?_
    refine D.ce rfl rfl rfl rfl (x72_ok (by decide) h56_2) ?_
    refine D.run 1 rfl ?_
    refine D.ce rfl rfl rfl rfl (tget_ok (by decide) (by first | rfl | decide) _ _) ?_
    show _ → Rn E 75 (16, [.ref 56, .int a1, us, us], [.int (tget I (3 + 7) (x72 3 I) 6)], wT I R) o w
    refine D.run 3 rfl ?_
    refine D.br rfl (by decide) rfl (fun hc => ?_) (fun hc => ?_)
    · refine D.run 1 rfl ?_
      refine D.st rfl (by decide) (gf_1 h56_2) ?_
      refine D.run 2 rfl ?_
      refine D.ce rfl rfl rfl rfl (x72_ok (by decide) h56_2) ?_
      refine D.run 4 rfl ?_
      refine D.ce rfl rfl rfl rfl (tset_ok (by decide) (by first | rfl | decide) _ _ _) ?_
      show _ → Rn E 75 (47, [.ref 56, .int a1, .int (tget I (3 + 7) (x72 3 I) 6), us], [], wT (tset I (3 + 7) (x72 3 I) 6 ((tget I (3 + 7) (x72 3 I) 6) + 1)) R) o w
      refine D.run 1 rfl ?_
      refine D.st rfl (by decide) (gf_1 h56_2) ?_
      refine D.run 1 rfl ?_
      refine D.ce rfl rfl rfl rfl (tadd_ok (by decide) (by first | rfl | decide)) ?_
      refine D.run 1 rfl ?_
      refine D.letV (frame := fun v1 => (58, [.ref 56, .int a1, .int (tget I (3 + 7) (x72 3 I) 6), .int v1], [], wT (tadd (tset I (3 + 7) (x72 3 I) 6 ((tget I (3 + 7) (x72 3 I) 6) + 1)) (3 + 9)) R)) (fun v1 => ?_)
      show _ → Rn E 75 (58, [.ref 56, .int a1, .int (tget I (3 + 7) (x72 3 I) 6), .int v1], [], wT (tadd (tset I (3 + 7) (x72 3 I) 6 ((tget I (3 + 7) (x72 3 I) 6) + 1)) (3 + 9)) R) o w
      refine D.run 3 rfl ?_
      refine D.ce rfl rfl rfl rfl (tadd_ok (by decide) (by first | rfl | decide)) ?_
      refine D.run 2 rfl ?_
      refine D.st rfl (by decide) (gf_1 h56_2) ?_
      refine D.run 4 rfl ?_
      refine D.ce rfl rfl rfl rfl (tset_ok (by decide) (by first | rfl | decide) _ _ _) ?_
      refine D.letS (fun J2 => ?_)
      show _ → Rn E 75 (82, [.ref 56, .int a1, .int (tget I (3 + 7) (x72 3 I) 6), .int v1], [], wT J2 R) o w
      refine D.run 6 rfl ?_
      refine D.ce rfl rfl rfl rfl (x60_ok) ?_
      refine D.ce rfl rfl rfl rfl (tset_ok (by decide) (by first | rfl | decide) _ _ _) ?_
      refine D.run 7 rfl ?_
      refine D.call rfl rfl rfl rfl (fun q h => x76_ok h) (fun q3 => ?_)
      show _ → Rn E 75 (112, [.ref 56, .int a1, .int (tget I (3 + 7) (x72 3 I) 6), .int v1], [.int q3], wT (up2 (tset J2 52 v1 0 (x60 J2)) 56 3 (((tset J2 52 v1 0 (x60 J2)) 56 3) + 1)) R) o w
      refine D.sw rfl (by decide) rfl ?_
      show _ → Rn E 75 (swT [(1, 156), (2, 177), (3, 198), (4, 238), (5, 238), (6, 247), (7, 262)] 283 _, _, _, _) _ _
      have Kj283 : ∀ (q13 : St), Dq ((x62 q13 59).bind fun q14 => some q14) T → Rn E 75 (283, [.ref 56, .int a1, .int (tget I (3 + 7) (x72 3 I) 6), .int v1], [], wT q13 R) o w := by
        intro q13
        refine D.run 2 rfl ?_
        refine D.call rfl rfl rfl rfl (fun q h => x62_ok h) (fun q14 => ?_)
        exact fun h => by obtain ⟨rfl, rfl⟩ := hT _ (D.some h); exact Rn.ret rfl rfl rfl
      refine D.jn (fun T283 c283 => ?_)
      refine D.swc (fun hc => ?_) (fun hc => ?_)
      · refine D.run 1 rfl ?_
        refine D.st rfl (by decide) (gf_1 h56_2) ?_
        refine D.run 5 rfl ?_
        refine D.call rfl rfl rfl rfl (fun q h => x77_ok h) (fun q4 => ?_)
        refine D.ce rfl rfl rfl rfl (tset_ok (by decide) (by first | rfl | decide) _ _ _) ?_
        show _ → Rn E 75 (174, [.ref 56, .int a1, .int (tget I (3 + 7) (x72 3 I) 6), .int v1], [], wT (tset q4.2 (3 + 9) v1 1 q4.1) R) o w
        refine D.run 1 rfl ?_
        exact fun h => Kj283 _   (c283 _ (D.some h))
      · refine D.swc (fun hc => ?_) (fun hc => ?_)
        · refine D.run 1 rfl ?_
          refine D.st rfl (by decide) (gf_1 h56_2) ?_
          refine D.run 5 rfl ?_
          refine D.call rfl rfl rfl rfl (fun q h => x78_ok h) (fun q5 => ?_)
          refine D.ce rfl rfl rfl rfl (tset_ok (by decide) (by first | rfl | decide) _ _ _) ?_
          show _ → Rn E 75 (195, [.ref 56, .int a1, .int (tget I (3 + 7) (x72 3 I) 6), .int v1], [], wT (tset q5.2 (3 + 9) v1 1 q5.1) R) o w
          refine D.run 1 rfl ?_
          exact fun h => Kj283 _   (c283 _ (D.some h))
        · refine D.swc (fun hc => ?_) (fun hc => ?_)
          · refine D.run 1 rfl ?_
            refine D.st rfl (by decide) (gf_1 h56_2) ?_
            refine D.run 5 rfl ?_
            refine D.call rfl rfl rfl rfl (fun q h => x78_ok h) (fun q6 => ?_)
            refine D.ce rfl rfl rfl rfl (tset_ok (by decide) (by first | rfl | decide) _ _ _) ?_
            show _ → Rn E 75 (216, [.ref 56, .int a1, .int (tget I (3 + 7) (x72 3 I) 6), .int v1], [], wT (tset q6.2 (3 + 9) v1 1 q6.1) R) o w
            refine D.run 1 rfl ?_
            refine D.st rfl (by decide) (gf_1 h56_2) ?_
            refine D.run 5 rfl ?_
            refine D.call rfl rfl rfl rfl (fun q h => x77_ok h) (fun q7 => ?_)
            refine D.ce rfl rfl rfl rfl (tset_ok (by decide) (by first | rfl | decide) _ _ _) ?_
            show _ → Rn E 75 (235, [.ref 56, .int a1, .int (tget I (3 + 7) (x72 3 I) 6), .int v1], [], wT (tset q7.2 (3 + 9) v1 2 q7.1) R) o w
            refine D.run 1 rfl ?_
            exact fun h => Kj283 _   (c283 _ (D.some h))
          · refine D.swc (fun hc => ?_) (fun hc => ?_)
            · refine D.run 3 rfl ?_
              refine D.call rfl rfl rfl rfl (fun q h => x79_ok (by decide) h56_2 h) (fun q8 => ?_)
              refine D.run 1 rfl ?_
              exact fun h => Kj283 _   (c283 _ (D.some h))
            · refine D.swc (fun hc => ?_) (fun hc => ?_)
              · refine D.run 3 rfl ?_
                refine D.call rfl rfl rfl rfl (fun q h => x79_ok (by decide) h56_2 h) (fun q9 => ?_)
                refine D.run 1 rfl ?_
                exact fun h => Kj283 _   (c283 _ (D.some h))
              · refine D.swc (fun hc => ?_) (fun hc => ?_)
                · refine D.run 3 rfl ?_
                  refine D.call rfl rfl rfl rfl (fun q h => x79_ok (by decide) h56_2 h) (fun q10 => ?_)
                  refine D.run 3 rfl ?_
                  refine D.call rfl rfl rfl rfl (fun q h => x79_ok (by decide) h56_2 h) (fun q11 => ?_)
                  refine D.run 1 rfl ?_
                  exact fun h => Kj283 _   (c283 _ (D.some h))
                · refine D.swc (fun hc => ?_) (fun hc => ?_)
                  · refine D.run 1 rfl ?_
                    refine D.st rfl (by decide) (gf_1 h56_2) ?_
                    refine D.run 5 rfl ?_
                    refine D.call rfl rfl rfl rfl (fun q h => x78_ok h) (fun q12 => ?_)
                    refine D.ce rfl rfl rfl rfl (tset_ok (by decide) (by first | rfl | decide) _ _ _) ?_
                    show _ → Rn E 75 (280, [.ref 56, .int a1, .int (tget I (3 + 7) (x72 3 I) 6), .int v1], [], wT (tset q12.2 (3 + 9) v1 1 q12.1) R) o w
                    refine D.run 1 rfl ?_
                    exact fun h => Kj283 _   (c283 _ (D.some h))
                  · exact fun h => Kj283 _   (c283 _ (D.some h))
    · refine D.run 1 rfl ?_
      refine D.call rfl rfl rfl rfl (fun q h => x58_ok h) (fun q15 => ?_)
      exact fun h => by obtain ⟨rfl, rfl⟩ := hT _ (D.some h); exact Rn.ret rfl rfl rfl
  · refine D.run 1 rfl ?_
    refine D.st rfl (by decide) (gf_1 h56_2) ?_
    refine D.run 2 rfl ?_
    refine D.ce rfl rfl rfl rfl (x72_ok (by decide) h56_2) ?_
    refine D.run 1 rfl ?_
    refine D.ce rfl rfl rfl rfl (tget_ok (by decide) (by first | rfl | decide) _ _) ?_
    show _ → Rn E 75 (16, [.ref 56, .int a1, us, us], [.int (tget I (18 + 7) (x72 18 I) 6)], wT I R) o w
    refine D.run 3 rfl ?_
    refine D.br rfl (by decide) rfl (fun hc => ?_) (fun hc => ?_)
    · refine D.run 1 rfl ?_
      refine D.st rfl (by decide) (gf_1 h56_2) ?_
      refine D.run 2 rfl ?_
      refine D.ce rfl rfl rfl rfl (x72_ok (by decide) h56_2) ?_
      refine D.run 4 rfl ?_
      refine D.ce rfl rfl rfl rfl (tset_ok (by decide) (by first | rfl | decide) _ _ _) ?_
      show _ → Rn E 75 (47, [.ref 56, .int a1, .int (tget I (18 + 7) (x72 18 I) 6), us], [], wT (tset I (18 + 7) (x72 18 I) 6 ((tget I (18 + 7) (x72 18 I) 6) + 1)) R) o w
      refine D.run 1 rfl ?_
      refine D.st rfl (by decide) (gf_1 h56_2) ?_
      refine D.run 1 rfl ?_
      refine D.ce rfl rfl rfl rfl (tadd_ok (by decide) (by first | rfl | decide)) ?_
      refine D.run 1 rfl ?_
      refine D.letV (frame := fun v1 => (58, [.ref 56, .int a1, .int (tget I (18 + 7) (x72 18 I) 6), .int v1], [], wT (tadd (tset I (18 + 7) (x72 18 I) 6 ((tget I (18 + 7) (x72 18 I) 6) + 1)) (18 + 9)) R)) (fun v1 => ?_)
      show _ → Rn E 75 (58, [.ref 56, .int a1, .int (tget I (18 + 7) (x72 18 I) 6), .int v1], [], wT (tadd (tset I (18 + 7) (x72 18 I) 6 ((tget I (18 + 7) (x72 18 I) 6) + 1)) (18 + 9)) R) o w
      refine D.run 3 rfl ?_
      refine D.ce rfl rfl rfl rfl (tadd_ok (by decide) (by first | rfl | decide)) ?_
      refine D.run 2 rfl ?_
      refine D.st rfl (by decide) (gf_1 h56_2) ?_
      refine D.run 4 rfl ?_
      refine D.ce rfl rfl rfl rfl (tset_ok (by decide) (by first | rfl | decide) _ _ _) ?_
      refine D.letS (fun J2 => ?_)
      show _ → Rn E 75 (82, [.ref 56, .int a1, .int (tget I (18 + 7) (x72 18 I) 6), .int v1], [], wT J2 R) o w
      refine D.run 6 rfl ?_
      refine D.ce rfl rfl rfl rfl (x60_ok) ?_
      refine D.ce rfl rfl rfl rfl (tset_ok (by decide) (by first | rfl | decide) _ _ _) ?_
      refine D.run 7 rfl ?_
      refine D.call rfl rfl rfl rfl (fun q h => x76_ok h) (fun q3 => ?_)
      show _ → Rn E 75 (112, [.ref 56, .int a1, .int (tget I (18 + 7) (x72 18 I) 6), .int v1], [.int q3], wT (up2 (tset J2 52 v1 0 (x60 J2)) 56 3 (((tset J2 52 v1 0 (x60 J2)) 56 3) + 1)) R) o w
      refine D.sw rfl (by decide) rfl ?_
      show _ → Rn E 75 (swT [(1, 156), (2, 177), (3, 198), (4, 238), (5, 238), (6, 247), (7, 262)] 283 _, _, _, _) _ _
      have Kj283 : ∀ (q13 : St), Dq ((x62 q13 59).bind fun q14 => some q14) T → Rn E 75 (283, [.ref 56, .int a1, .int (tget I (18 + 7) (x72 18 I) 6), .int v1], [], wT q13 R) o w := by
        intro q13
        refine D.run 2 rfl ?_
        refine D.call rfl rfl rfl rfl (fun q h => x62_ok h) (fun q14 => ?_)
        exact fun h => by obtain ⟨rfl, rfl⟩ := hT _ (D.some h); exact Rn.ret rfl rfl rfl
      refine D.jn (fun T283 c283 => ?_)
      refine D.swc (fun hc => ?_) (fun hc => ?_)
      · refine D.run 1 rfl ?_
        refine D.st rfl (by decide) (gf_1 h56_2) ?_
        refine D.run 5 rfl ?_
        refine D.call rfl rfl rfl rfl (fun q h => x77_ok h) (fun q4 => ?_)
        refine D.ce rfl rfl rfl rfl (tset_ok (by decide) (by first | rfl | decide) _ _ _) ?_
        show _ → Rn E 75 (174, [.ref 56, .int a1, .int (tget I (18 + 7) (x72 18 I) 6), .int v1], [], wT (tset q4.2 (18 + 9) v1 1 q4.1) R) o w
        refine D.run 1 rfl ?_
        exact fun h => Kj283 _   (c283 _ (D.some h))
      · refine D.swc (fun hc => ?_) (fun hc => ?_)
        · refine D.run 1 rfl ?_
          refine D.st rfl (by decide) (gf_1 h56_2) ?_
          refine D.run 5 rfl ?_
          refine D.call rfl rfl rfl rfl (fun q h => x78_ok h) (fun q5 => ?_)
          refine D.ce rfl rfl rfl rfl (tset_ok (by decide) (by first | rfl | decide) _ _ _) ?_
          show _ → Rn E 75 (195, [.ref 56, .int a1, .int (tget I (18 + 7) (x72 18 I) 6), .int v1], [], wT (tset q5.2 (18 + 9) v1 1 q5.1) R) o w
          refine D.run 1 rfl ?_
          exact fun h => Kj283 _   (c283 _ (D.some h))
        · refine D.swc (fun hc => ?_) (fun hc => ?_)
          · refine D.run 1 rfl ?_
            refine D.st rfl (by decide) (gf_1 h56_2) ?_
            refine D.run 5 rfl ?_
            refine D.call rfl rfl rfl rfl (fun q h => x78_ok h) (fun q6 => ?_)
            refine D.ce rfl rfl rfl rfl (tset_ok (by decide) (by first | rfl | decide) _ _ _) ?_
            show _ → Rn E 75 (216, [.ref 56, .int a1, .int (tget I (18 + 7) (x72 18 I) 6), .int v1], [], wT (tset q6.2 (18 + 9) v1 1 q6.1) R) o w
            refine D.run 1 rfl ?_
            refine D.st rfl (by decide) (gf_1 h56_2) ?_
            refine D.run 5 rfl ?_
            refine D.call rfl rfl rfl rfl (fun q h => x77_ok h) (fun q7 => ?_)
            refine D.ce rfl rfl rfl rfl (tset_ok (by decide) (by first | rfl | decide) _ _ _) ?_
            show _ → Rn E 75 (235, [.ref 56, .int a1, .int (tget I (18 + 7) (x72 18 I) 6), .int v1], [], wT (tset q7.2 (18 + 9) v1 2 q7.1) R) o w
            refine D.run 1 rfl ?_
            exact fun h => Kj283 _   (c283 _ (D.some h))
          · refine D.swc (fun hc => ?_) (fun hc => ?_)
            · refine D.run 3 rfl ?_
              refine D.call rfl rfl rfl rfl (fun q h => x79_ok (by decide) h56_2 h) (fun q8 => ?_)
              refine D.run 1 rfl ?_
              exact fun h => Kj283 _   (c283 _ (D.some h))
            · refine D.swc (fun hc => ?_) (fun hc => ?_)
              · refine D.run 3 rfl ?_
                refine D.call rfl rfl rfl rfl (fun q h => x79_ok (by decide) h56_2 h) (fun q9 => ?_)
                refine D.run 1 rfl ?_
                exact fun h => Kj283 _   (c283 _ (D.some h))
              · refine D.swc (fun hc => ?_) (fun hc => ?_)
                · refine D.run 3 rfl ?_
                  refine D.call rfl rfl rfl rfl (fun q h => x79_ok (by decide) h56_2 h) (fun q10 => ?_)
                  refine D.run 3 rfl ?_
                  refine D.call rfl rfl rfl rfl (fun q h => x79_ok (by decide) h56_2 h) (fun q11 => ?_)
                  refine D.run 1 rfl ?_
                  exact fun h => Kj283 _   (c283 _ (D.some h))
                · refine D.swc (fun hc => ?_) (fun hc => ?_)
                  · refine D.run 1 rfl ?_
                    refine D.st rfl (by decide) (gf_1 h56_2) ?_
                    refine D.run 5 rfl ?_
                    refine D.call rfl rfl rfl rfl (fun q h => x78_ok h) (fun q12 => ?_)
                    refine D.ce rfl rfl rfl rfl (tset_ok (by decide) (by first | rfl | decide) _ _ _) ?_
                    show _ → Rn E 75 (280, [.ref 56, .int a1, .int (tget I (18 + 7) (x72 18 I) 6), .int v1], [], wT (tset q12.2 (18 + 9) v1 1 q12.1) R) o w
                    refine D.run 1 rfl ?_
                    exact fun h => Kj283 _   (c283 _ (D.some h))
                  · exact fun h => Kj283 _   (c283 _ (D.some h))
    · refine D.run 1 rfl ?_
      refine D.call rfl rfl rfl rfl (fun q h => x58_ok h) (fun q15 => ?_)
      exact fun h => by obtain ⟨rfl, rfl⟩ := hT _ (D.some h); exact Rn.ret rfl rfl rfl
set_option maxRecDepth 20000 in
theorem x75_ok {E : Xe} {R : Nat → Nat → Option Nat} {P : Nat} {I : St} (hP : P = 3 ∨ P = 18) (h56_2 : R 56 2 = some P) {a1 : Int32} {q : St} (h : x75 P I a1 = some q) : Rn E 75 (0, loc0 75 [.ref 56, .int a1], [], wT I R) (.returned none) (wT q R) := x75_D hP h56_2 _ (T := fun r => r = q) (by rintro r rfl; exact ⟨rfl, rfl⟩) ⟨_, h, rfl⟩
/-- TaintHouse$Linker.linkVirtual(I)V -/
def x86 (P : Nat) (I : St) (a1 : Int32) : Option (St) := if (tget I (P + 7) a1 2) = 0 then some I else (x87 P (P + 7) I (tget I (P + 1) (tget I (P + 7) a1 0) 0) (tget I (P + 7) a1 1) 1).bind fun q1 => if q1 = (-1) then some I else (x88 P I a1 q1).bind fun q2 => if q2 = 0 then (x83 I (tget I 48 a1 0) 3).bind fun q3 => some q3 else some I
set_option maxRecDepth 20000 in
theorem x86_D {E : Xe} {R : Nat → Nat → Option Nat} {P : Nat} {o : Outcome} {w : Wd} {T : (St) → Prop} {I : St} (hP : P = 3 ∨ P = 18) (h57_2 : R 57 2 = some P) (a1 : Int32) (hT : ∀ r, T r → o = .returned none ∧ w = wT r R) : Dq (x86 P I a1) T → Rn E 86 (0, loc0 86 [.ref 57, .int a1], [], wT I R) o w := by
  unfold x86
  rcases hP with rfl | rfl
  · refine D.run 1 rfl ?_
    refine D.st rfl (by decide) (gf_1 h57_2) ?_
    refine D.run 3 rfl ?_
    refine D.ce rfl rfl rfl rfl (tget_ok (by decide) (by first | rfl | decide) _ _) ?_
    refine D.br rfl (by decide) rfl (fun hc => ?_) (fun hc => ?_)
    · exact fun h => by obtain ⟨rfl, rfl⟩ := hT _ (D.some h); exact Rn.ret rfl rfl rfl
    · refine D.run 1 rfl ?_
      refine D.st rfl (by decide) (gf_1 h57_2) ?_
      refine D.run 2 rfl ?_
      refine D.st rfl (by decide) (gf_1 h57_2) ?_
      refine D.run 3 rfl ?_
      refine D.ce rfl rfl rfl rfl (tget_ok (by decide) (by first | rfl | decide) _ _) ?_
      show _ → Rn E 86 (35, [.ref 57, .int a1, us, us], [.int (tget I (3 + 7) a1 0), .ref (3 + 1)], wT I R) o w
      refine D.run 1 rfl ?_
      refine D.ce rfl rfl rfl rfl (tget_ok (by decide) (by first | rfl | decide) _ _) ?_
      refine D.run 2 rfl ?_
      refine D.st rfl (by decide) (gf_1 h57_2) ?_
      refine D.run 1 rfl ?_
      refine D.st rfl (by decide) (gf_1 h57_2) ?_
      show _ → Rn E 86 (48, [.ref 57, .int a1, .int (tget I (3 + 1) (tget I (3 + 7) a1 0) 0), us], [.ref 3, .ref 3], wT I R) o w
      refine D.run 3 rfl ?_
      refine D.st rfl (by decide) (gf_1 h57_2) ?_
      refine D.run 3 rfl ?_
      refine D.ce rfl rfl rfl rfl (tget_ok (by decide) (by first | rfl | decide) _ _) ?_
      refine D.run 1 rfl ?_
      refine D.call rfl rfl rfl rfl (fun q h => x87_ok (by decide) (by decide) h) (fun q1 => ?_)
      show _ → Rn E 86 (68, [.ref 57, .int a1, .int (tget I (3 + 1) (tget I (3 + 7) a1 0) 0), us], [.int q1], wT I R) o w
      refine D.run 3 rfl ?_
      refine D.br rfl (by decide) rfl (fun hc => ?_) (fun hc => ?_)
      · exact fun h => by obtain ⟨rfl, rfl⟩ := hT _ (D.some h); exact Rn.ret rfl rfl rfl
      · refine D.run 3 rfl ?_
        refine D.call rfl rfl rfl rfl (fun q h => x88_ok (by decide) h57_2 h) (fun q2 => ?_)
        refine D.br rfl (by decide) rfl (fun hc => ?_) (fun hc => ?_)
        · refine D.run 6 rfl ?_
          refine D.ce rfl rfl rfl rfl (tget_ok (by decide) (by first | rfl | decide) _ _) ?_
          refine D.run 1 rfl ?_
          refine D.call rfl rfl rfl rfl (fun q h => x83_ok h) (fun q3 => ?_)
          exact fun h => by obtain ⟨rfl, rfl⟩ := hT _ (D.some h); exact Rn.ret rfl rfl rfl
        · exact fun h => by obtain ⟨rfl, rfl⟩ := hT _ (D.some h); exact Rn.ret rfl rfl rfl
  · refine D.run 1 rfl ?_
    refine D.st rfl (by decide) (gf_1 h57_2) ?_
    refine D.run 3 rfl ?_
    refine D.ce rfl rfl rfl rfl (tget_ok (by decide) (by first | rfl | decide) _ _) ?_
    refine D.br rfl (by decide) rfl (fun hc => ?_) (fun hc => ?_)
    · exact fun h => by obtain ⟨rfl, rfl⟩ := hT _ (D.some h); exact Rn.ret rfl rfl rfl
    · refine D.run 1 rfl ?_
      refine D.st rfl (by decide) (gf_1 h57_2) ?_
      refine D.run 2 rfl ?_
      refine D.st rfl (by decide) (gf_1 h57_2) ?_
      refine D.run 3 rfl ?_
      refine D.ce rfl rfl rfl rfl (tget_ok (by decide) (by first | rfl | decide) _ _) ?_
      show _ → Rn E 86 (35, [.ref 57, .int a1, us, us], [.int (tget I (18 + 7) a1 0), .ref (18 + 1)], wT I R) o w
      refine D.run 1 rfl ?_
      refine D.ce rfl rfl rfl rfl (tget_ok (by decide) (by first | rfl | decide) _ _) ?_
      refine D.run 2 rfl ?_
      refine D.st rfl (by decide) (gf_1 h57_2) ?_
      refine D.run 1 rfl ?_
      refine D.st rfl (by decide) (gf_1 h57_2) ?_
      show _ → Rn E 86 (48, [.ref 57, .int a1, .int (tget I (18 + 1) (tget I (18 + 7) a1 0) 0), us], [.ref 18, .ref 18], wT I R) o w
      refine D.run 3 rfl ?_
      refine D.st rfl (by decide) (gf_1 h57_2) ?_
      refine D.run 3 rfl ?_
      refine D.ce rfl rfl rfl rfl (tget_ok (by decide) (by first | rfl | decide) _ _) ?_
      refine D.run 1 rfl ?_
      refine D.call rfl rfl rfl rfl (fun q h => x87_ok (by decide) (by decide) h) (fun q1 => ?_)
      show _ → Rn E 86 (68, [.ref 57, .int a1, .int (tget I (18 + 1) (tget I (18 + 7) a1 0) 0), us], [.int q1], wT I R) o w
      refine D.run 3 rfl ?_
      refine D.br rfl (by decide) rfl (fun hc => ?_) (fun hc => ?_)
      · exact fun h => by obtain ⟨rfl, rfl⟩ := hT _ (D.some h); exact Rn.ret rfl rfl rfl
      · refine D.run 3 rfl ?_
        refine D.call rfl rfl rfl rfl (fun q h => x88_ok (by decide) h57_2 h) (fun q2 => ?_)
        refine D.br rfl (by decide) rfl (fun hc => ?_) (fun hc => ?_)
        · refine D.run 6 rfl ?_
          refine D.ce rfl rfl rfl rfl (tget_ok (by decide) (by first | rfl | decide) _ _) ?_
          refine D.run 1 rfl ?_
          refine D.call rfl rfl rfl rfl (fun q h => x83_ok h) (fun q3 => ?_)
          exact fun h => by obtain ⟨rfl, rfl⟩ := hT _ (D.some h); exact Rn.ret rfl rfl rfl
        · exact fun h => by obtain ⟨rfl, rfl⟩ := hT _ (D.some h); exact Rn.ret rfl rfl rfl
set_option maxRecDepth 20000 in
theorem x86_ok {E : Xe} {R : Nat → Nat → Option Nat} {P : Nat} {I : St} (hP : P = 3 ∨ P = 18) (h57_2 : R 57 2 = some P) {a1 : Int32} {q : St} (h : x86 P I a1 = some q) : Rn E 86 (0, loc0 86 [.ref 57, .int a1], [], wT I R) (.returned none) (wT q R) := x86_D hP h57_2 _ (T := fun r => r = q) (by rintro r rfl; exact ⟨rfl, rfl⟩) ⟨_, h, rfl⟩
