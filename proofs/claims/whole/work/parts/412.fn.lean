/-! FUNCTIONS OF METHODS, by program (wip/gen/all.py): 257 258 259 269 -/
/-- TaintHouseModel.element(II)V -/
def x257 (Q : Nat) (I : St) (a1 a2 : Int32) : Option (St) := (if a2 = 45 then some 1 else if a2 = 47 then some 1 else some 0).bind fun (q1 : Int32) => (if q1 = 0 then some (0, I) else (x240 I).bind fun q2 => some (q2.1, q2.2)).bind fun (q3 : Int32 × St) => (if q1 = 0 then some 0 else some (q3.2 82 66)).bind fun (q4 : Int32) => (x240 q3.2).bind fun q5 => (x240 q5.2).bind fun q6 => (if a2 = 44 then some (-2) else if a2 = 45 then some (-2) else some (-3)).bind fun (q7 : Int32) => if q6.1 = 0 then (if q6.1 = 0 then some 2 else some 6).bind fun (q8 : Int32) => (x243 Q q6.2 q8 ((q4 ||| (q5.2 82 66)) ||| (q6.2 82 66))).bind fun q9 => some q9 else if inb (q6.1 - 1) 3001 then if (q6.2 181 (q6.1 - 1).toNatClampNeg) = q7 then if q5.1 < 0 then (x243 Q q6.2 3 ((q4 ||| (q5.2 82 66)) ||| (q6.2 82 66))).bind fun q10 => some q10 else if inb (q6.1 - 1) 3001 then if q5.1 < (q6.2 183 (q6.1 - 1).toNatClampNeg) then if inb (q6.1 - 1) 3001 then (if ((q6.2 82 6) &&& 1) = 0 then some 0 else some (q5.2 82 66)).bind fun (q11 : Int32) => if q1 = 0 then if inb ((q6.2 182 (q6.1 - 1).toNatClampNeg) + q5.1) 3001 then if inb ((q6.2 182 (q6.1 - 1).toNatClampNeg) + q5.1) 3001 then (if ((q6.2 82 6) &&& 2) = 0 then some 0 else some (q6.2 82 66)).bind fun (q12 : Int32) => (x239 q6.2 (q6.2 185 ((q6.2 182 (q6.1 - 1).toNatClampNeg) + q5.1).toNatClampNeg) (((q6.2 186 ((q6.2 182 (q6.1 - 1).toNatClampNeg) + q5.1).toNatClampNeg) ||| q11) ||| q12)).bind fun q13 => some (up2 q13 82 64 (a1 + 1)) else none else none else if inb ((q6.2 182 (q6.1 - 1).toNatClampNeg) + q5.1) 3001 then if ((q6.2 82 6) &&& 4) = 0 then if inb ((q6.2 182 (q6.1 - 1).toNatClampNeg) + q5.1) 3001 then Lt (up2 (up2 q6.2 185 ((q6.2 182 (q6.1 - 1).toNatClampNeg) + q5.1).toNatClampNeg q3.1) 186 ((q6.2 182 (q6.1 - 1).toNatClampNeg) + q5.1).toNatClampNeg ((q4 ||| q11) ||| 0)) fun J14 => some (up2 J14 82 64 (a1 + 1)) else none else if inb ((q6.2 182 (q6.1 - 1).toNatClampNeg) + q5.1) 3001 then Lt (up2 (up2 q6.2 185 ((q6.2 182 (q6.1 - 1).toNatClampNeg) + q5.1).toNatClampNeg q3.1) 186 ((q6.2 182 (q6.1 - 1).toNatClampNeg) + q5.1).toNatClampNeg ((q4 ||| q11) ||| (q6.2 82 66))) fun J15 => some (up2 J15 82 64 (a1 + 1)) else none else none else none else (x243 Q q6.2 3 ((q4 ||| (q5.2 82 66)) ||| (q6.2 82 66))).bind fun q16 => some q16 else none else (if q6.1 = 0 then some 2 else some 6).bind fun (q17 : Int32) => (x243 Q q6.2 q17 ((q4 ||| (q5.2 82 66)) ||| (q6.2 82 66))).bind fun q18 => some q18 else none
set_option maxRecDepth 20000 in
set_option maxHeartbeats 30000000 in
theorem x257_D {E : Xe} {R : Nat → Nat → Option Nat} {Q : Nat} {o : Outcome} {w : Wd} {T : (St) → Prop} {I : St} (hQ : Q = 85 ∨ Q = 126) (h82_3 : R 82 3 = some Q) (a1 a2 : Int32) (hT : ∀ r, T r → o = .returned none ∧ w = wT r R) : Dq (x257 Q I a1 a2) T → Rn E 257 (0, loc0 257 [.ref 82, .int a1, .int a2], [], wT I R) o w := by
  unfold x257
  rcases hQ with rfl | rfl
  · refine D.run 2 rfl ?_
    have Kj17 : ∀ (q1 : Int32), Dq ((if q1 = 0 then some (0, I) else (x240 I).bind fun q2 => some (q2.1, q2.2)).bind fun (q3 : Int32 × St) => (if q1 = 0 then some 0 else some (q3.2 82 66)).bind fun (q4 : Int32) => (x240 q3.2).bind fun q5 => (x240 q5.2).bind fun q6 => (if a2 = 44 then some (-2) else if a2 = 45 then some (-2) else some (-3)).bind fun (q7 : Int32) => if q6.1 = 0 then (if q6.1 = 0 then some 2 else some 6).bind fun (q8 : Int32) => (x243 85 q6.2 q8 ((q4 ||| (q5.2 82 66)) ||| (q6.2 82 66))).bind fun q9 => some q9 else if inb (q6.1 - 1) 3001 then if (q6.2 181 (q6.1 - 1).toNatClampNeg) = q7 then if q5.1 < 0 then (x243 85 q6.2 3 ((q4 ||| (q5.2 82 66)) ||| (q6.2 82 66))).bind fun q10 => some q10 else if inb (q6.1 - 1) 3001 then if q5.1 < (q6.2 183 (q6.1 - 1).toNatClampNeg) then if inb (q6.1 - 1) 3001 then (if ((q6.2 82 6) &&& 1) = 0 then some 0 else some (q5.2 82 66)).bind fun (q11 : Int32) => if q1 = 0 then if inb ((q6.2 182 (q6.1 - 1).toNatClampNeg) + q5.1) 3001 then if inb ((q6.2 182 (q6.1 - 1).toNatClampNeg) + q5.1) 3001 then (if ((q6.2 82 6) &&& 2) = 0 then some 0 else some (q6.2 82 66)).bind fun (q12 : Int32) => (x239 q6.2 (q6.2 185 ((q6.2 182 (q6.1 - 1).toNatClampNeg) + q5.1).toNatClampNeg) (((q6.2 186 ((q6.2 182 (q6.1 - 1).toNatClampNeg) + q5.1).toNatClampNeg) ||| q11) ||| q12)).bind fun q13 => some (up2 q13 82 64 (a1 + 1)) else none else none else if inb ((q6.2 182 (q6.1 - 1).toNatClampNeg) + q5.1) 3001 then if ((q6.2 82 6) &&& 4) = 0 then if inb ((q6.2 182 (q6.1 - 1).toNatClampNeg) + q5.1) 3001 then Lt (up2 (up2 q6.2 185 ((q6.2 182 (q6.1 - 1).toNatClampNeg) + q5.1).toNatClampNeg q3.1) 186 ((q6.2 182 (q6.1 - 1).toNatClampNeg) + q5.1).toNatClampNeg ((q4 ||| q11) ||| 0)) fun J14 => some (up2 J14 82 64 (a1 + 1)) else none else if inb ((q6.2 182 (q6.1 - 1).toNatClampNeg) + q5.1) 3001 then Lt (up2 (up2 q6.2 185 ((q6.2 182 (q6.1 - 1).toNatClampNeg) + q5.1).toNatClampNeg q3.1) 186 ((q6.2 182 (q6.1 - 1).toNatClampNeg) + q5.1).toNatClampNeg ((q4 ||| q11) ||| (q6.2 82 66))) fun J15 => some (up2 J15 82 64 (a1 + 1)) else none else none else none else (x243 85 q6.2 3 ((q4 ||| (q5.2 82 66)) ||| (q6.2 82 66))).bind fun q16 => some q16 else none else (if q6.1 = 0 then some 2 else some 6).bind fun (q17 : Int32) => (x243 85 q6.2 q17 ((q4 ||| (q5.2 82 66)) ||| (q6.2 82 66))).bind fun q18 => some q18 else none) T → Rn E 257 (17, [.ref 82, .int a1, .int a2, us, us, us, us, us, us, us, us, us, us, us], [.int q1], wT I R) o w := by
      intro q1
      refine D.run 2 rfl ?_
      have Kj30 : ∀ (q3 : Int32 × St), Dq ((if q1 = 0 then some 0 else some (q3.2 82 66)).bind fun (q4 : Int32) => (x240 q3.2).bind fun q5 => (x240 q5.2).bind fun q6 => (if a2 = 44 then some (-2) else if a2 = 45 then some (-2) else some (-3)).bind fun (q7 : Int32) => if q6.1 = 0 then (if q6.1 = 0 then some 2 else some 6).bind fun (q8 : Int32) => (x243 85 q6.2 q8 ((q4 ||| (q5.2 82 66)) ||| (q6.2 82 66))).bind fun q9 => some q9 else if inb (q6.1 - 1) 3001 then if (q6.2 181 (q6.1 - 1).toNatClampNeg) = q7 then if q5.1 < 0 then (x243 85 q6.2 3 ((q4 ||| (q5.2 82 66)) ||| (q6.2 82 66))).bind fun q10 => some q10 else if inb (q6.1 - 1) 3001 then if q5.1 < (q6.2 183 (q6.1 - 1).toNatClampNeg) then if inb (q6.1 - 1) 3001 then (if ((q6.2 82 6) &&& 1) = 0 then some 0 else some (q5.2 82 66)).bind fun (q11 : Int32) => if q1 = 0 then if inb ((q6.2 182 (q6.1 - 1).toNatClampNeg) + q5.1) 3001 then if inb ((q6.2 182 (q6.1 - 1).toNatClampNeg) + q5.1) 3001 then (if ((q6.2 82 6) &&& 2) = 0 then some 0 else some (q6.2 82 66)).bind fun (q12 : Int32) => (x239 q6.2 (q6.2 185 ((q6.2 182 (q6.1 - 1).toNatClampNeg) + q5.1).toNatClampNeg) (((q6.2 186 ((q6.2 182 (q6.1 - 1).toNatClampNeg) + q5.1).toNatClampNeg) ||| q11) ||| q12)).bind fun q13 => some (up2 q13 82 64 (a1 + 1)) else none else none else if inb ((q6.2 182 (q6.1 - 1).toNatClampNeg) + q5.1) 3001 then if ((q6.2 82 6) &&& 4) = 0 then if inb ((q6.2 182 (q6.1 - 1).toNatClampNeg) + q5.1) 3001 then Lt (up2 (up2 q6.2 185 ((q6.2 182 (q6.1 - 1).toNatClampNeg) + q5.1).toNatClampNeg q3.1) 186 ((q6.2 182 (q6.1 - 1).toNatClampNeg) + q5.1).toNatClampNeg ((q4 ||| q11) ||| 0)) fun J14 => some (up2 J14 82 64 (a1 + 1)) else none else if inb ((q6.2 182 (q6.1 - 1).toNatClampNeg) + q5.1) 3001 then Lt (up2 (up2 q6.2 185 ((q6.2 182 (q6.1 - 1).toNatClampNeg) + q5.1).toNatClampNeg q3.1) 186 ((q6.2 182 (q6.1 - 1).toNatClampNeg) + q5.1).toNatClampNeg ((q4 ||| q11) ||| (q6.2 82 66))) fun J15 => some (up2 J15 82 64 (a1 + 1)) else none else none else none else (x243 85 q6.2 3 ((q4 ||| (q5.2 82 66)) ||| (q6.2 82 66))).bind fun q16 => some q16 else none else (if q6.1 = 0 then some 2 else some 6).bind fun (q17 : Int32) => (x243 85 q6.2 q17 ((q4 ||| (q5.2 82 66)) ||| (q6.2 82 66))).bind fun q18 => some q18 else none) T → Rn E 257 (30, [.ref 82, .int a1, .int a2, .int q1, us, us, us, us, us, us, us, us, us, us], [.int q3.1], wT q3.2 R) o w := by
        intro q3
        refine D.run 2 rfl ?_
        have Kj44 : ∀ (q4 : Int32), Dq ((x240 q3.2).bind fun q5 => (x240 q5.2).bind fun q6 => (if a2 = 44 then some (-2) else if a2 = 45 then some (-2) else some (-3)).bind fun (q7 : Int32) => if q6.1 = 0 then (if q6.1 = 0 then some 2 else some 6).bind fun (q8 : Int32) => (x243 85 q6.2 q8 ((q4 ||| (q5.2 82 66)) ||| (q6.2 82 66))).bind fun q9 => some q9 else if inb (q6.1 - 1) 3001 then if (q6.2 181 (q6.1 - 1).toNatClampNeg) = q7 then if q5.1 < 0 then (x243 85 q6.2 3 ((q4 ||| (q5.2 82 66)) ||| (q6.2 82 66))).bind fun q10 => some q10 else if inb (q6.1 - 1) 3001 then if q5.1 < (q6.2 183 (q6.1 - 1).toNatClampNeg) then if inb (q6.1 - 1) 3001 then (if ((q6.2 82 6) &&& 1) = 0 then some 0 else some (q5.2 82 66)).bind fun (q11 : Int32) => if q1 = 0 then if inb ((q6.2 182 (q6.1 - 1).toNatClampNeg) + q5.1) 3001 then if inb ((q6.2 182 (q6.1 - 1).toNatClampNeg) + q5.1) 3001 then (if ((q6.2 82 6) &&& 2) = 0 then some 0 else some (q6.2 82 66)).bind fun (q12 : Int32) => (x239 q6.2 (q6.2 185 ((q6.2 182 (q6.1 - 1).toNatClampNeg) + q5.1).toNatClampNeg) (((q6.2 186 ((q6.2 182 (q6.1 - 1).toNatClampNeg) + q5.1).toNatClampNeg) ||| q11) ||| q12)).bind fun q13 => some (up2 q13 82 64 (a1 + 1)) else none else none else if inb ((q6.2 182 (q6.1 - 1).toNatClampNeg) + q5.1) 3001 then if ((q6.2 82 6) &&& 4) = 0 then if inb ((q6.2 182 (q6.1 - 1).toNatClampNeg) + q5.1) 3001 then Lt (up2 (up2 q6.2 185 ((q6.2 182 (q6.1 - 1).toNatClampNeg) + q5.1).toNatClampNeg q3.1) 186 ((q6.2 182 (q6.1 - 1).toNatClampNeg) + q5.1).toNatClampNeg ((q4 ||| q11) ||| 0)) fun J14 => some (up2 J14 82 64 (a1 + 1)) else none else if inb ((q6.2 182 (q6.1 - 1).toNatClampNeg) + q5.1) 3001 then Lt (up2 (up2 q6.2 185 ((q6.2 182 (q6.1 - 1).toNatClampNeg) + q5.1).toNatClampNeg q3.1) 186 ((q6.2 182 (q6.1 - 1).toNatClampNeg) + q5.1).toNatClampNeg ((q4 ||| q11) ||| (q6.2 82 66))) fun J15 => some (up2 J15 82 64 (a1 + 1)) else none else none else none else (x243 85 q6.2 3 ((q4 ||| (q5.2 82 66)) ||| (q6.2 82 66))).bind fun q16 => some q16 else none else (if q6.1 = 0 then some 2 else some 6).bind fun (q17 : Int32) => (x243 85 q6.2 q17 ((q4 ||| (q5.2 82 66)) ||| (q6.2 82 66))).bind fun q18 => some q18 else none) T → Rn E 257 (44, [.ref 82, .int a1, .int a2, .int q1, .int q3.1, us, us, us, us, us, us, us, us, us], [.int q4], wT q3.2 R) o w := by
          intro q4
          refine D.run 2 rfl ?_
          refine D.call rfl rfl rfl rfl (fun q h => x240_ok h) (fun q5 => ?_)
          refine D.run 5 rfl ?_
          refine D.call rfl rfl rfl rfl (fun q h => x240_ok h) (fun q6 => ?_)
          refine D.run 12 rfl ?_
          have Kj99 : ∀ (q7 : Int32), Dq (if q6.1 = 0 then (if q6.1 = 0 then some 2 else some 6).bind fun (q8 : Int32) => (x243 85 q6.2 q8 ((q4 ||| (q5.2 82 66)) ||| (q6.2 82 66))).bind fun q9 => some q9 else if inb (q6.1 - 1) 3001 then if (q6.2 181 (q6.1 - 1).toNatClampNeg) = q7 then if q5.1 < 0 then (x243 85 q6.2 3 ((q4 ||| (q5.2 82 66)) ||| (q6.2 82 66))).bind fun q10 => some q10 else if inb (q6.1 - 1) 3001 then if q5.1 < (q6.2 183 (q6.1 - 1).toNatClampNeg) then if inb (q6.1 - 1) 3001 then (if ((q6.2 82 6) &&& 1) = 0 then some 0 else some (q5.2 82 66)).bind fun (q11 : Int32) => if q1 = 0 then if inb ((q6.2 182 (q6.1 - 1).toNatClampNeg) + q5.1) 3001 then if inb ((q6.2 182 (q6.1 - 1).toNatClampNeg) + q5.1) 3001 then (if ((q6.2 82 6) &&& 2) = 0 then some 0 else some (q6.2 82 66)).bind fun (q12 : Int32) => (x239 q6.2 (q6.2 185 ((q6.2 182 (q6.1 - 1).toNatClampNeg) + q5.1).toNatClampNeg) (((q6.2 186 ((q6.2 182 (q6.1 - 1).toNatClampNeg) + q5.1).toNatClampNeg) ||| q11) ||| q12)).bind fun q13 => some (up2 q13 82 64 (a1 + 1)) else none else none else if inb ((q6.2 182 (q6.1 - 1).toNatClampNeg) + q5.1) 3001 then if ((q6.2 82 6) &&& 4) = 0 then if inb ((q6.2 182 (q6.1 - 1).toNatClampNeg) + q5.1) 3001 then Lt (up2 (up2 q6.2 185 ((q6.2 182 (q6.1 - 1).toNatClampNeg) + q5.1).toNatClampNeg q3.1) 186 ((q6.2 182 (q6.1 - 1).toNatClampNeg) + q5.1).toNatClampNeg ((q4 ||| q11) ||| 0)) fun J14 => some (up2 J14 82 64 (a1 + 1)) else none else if inb ((q6.2 182 (q6.1 - 1).toNatClampNeg) + q5.1) 3001 then Lt (up2 (up2 q6.2 185 ((q6.2 182 (q6.1 - 1).toNatClampNeg) + q5.1).toNatClampNeg q3.1) 186 ((q6.2 182 (q6.1 - 1).toNatClampNeg) + q5.1).toNatClampNeg ((q4 ||| q11) ||| (q6.2 82 66))) fun J15 => some (up2 J15 82 64 (a1 + 1)) else none else none else none else (x243 85 q6.2 3 ((q4 ||| (q5.2 82 66)) ||| (q6.2 82 66))).bind fun q16 => some q16 else none else (if q6.1 = 0 then some 2 else some 6).bind fun (q17 : Int32) => (x243 85 q6.2 q17 ((q4 ||| (q5.2 82 66)) ||| (q6.2 82 66))).bind fun q18 => some q18 else none) T → Rn E 257 (99, [.ref 82, .int a1, .int a2, .int q1, .int q3.1, .int q4, .int q5.1, .int (q5.2 82 66), .int q6.1, .int (q6.2 82 66), .int ((q4 ||| (q5.2 82 66)) ||| (q6.2 82 66)), us, us, us], [.int q7], wT q6.2 R) o w := by
            intro q7
            refine D.run 2 rfl ?_
            refine D.br rfl (by decide) rfl (fun hc => ?_) (fun hc => ?_)
            · refine D.run 2 rfl ?_
              have Kj132 : ∀ (q8 : Int32), Dq ((x243 85 q6.2 q8 ((q4 ||| (q5.2 82 66)) ||| (q6.2 82 66))).bind fun q9 => some q9) T → Rn E 257 (132, [.ref 82, .int a1, .int a2, .int q1, .int q3.1, .int q4, .int q5.1, .int (q5.2 82 66), .int q6.1, .int (q6.2 82 66), .int ((q4 ||| (q5.2 82 66)) ||| (q6.2 82 66)), .int q7, us, us], [.int q8, .ref 82], wT q6.2 R) o w := by
                intro q8
                refine D.run 1 rfl ?_
                refine D.call rfl rfl rfl rfl (fun q h => x243_ok (by decide) h82_3 h) (fun q9 => ?_)
                exact fun h => by obtain ⟨rfl, rfl⟩ := hT _ (D.some h); exact Rn.ret rfl rfl rfl
              refine D.jn (fun T132 c132 => ?_)
              refine D.br rfl (by decide) rfl (fun hc => ?_) (fun hc => ?_)
              · refine D.run 2 rfl ?_
                exact fun h => Kj132 _   (c132 _ (D.some h))
              · refine D.run 1 rfl ?_
                exact fun h => Kj132 _   (c132 _ (D.some h))
            · refine D.run 5 rfl ?_
              refine D.gd fun hg => ?_
              refine D.st rfl (by decide) (al_i (by decide) (by first | rfl | decide) hg.1 hg.2) ?_
              refine D.run 1 rfl ?_
              refine D.br rfl (by decide) rfl (fun hc => ?_) (fun hc => ?_)
              · refine D.run 1 rfl ?_
                refine D.br rfl (by decide) rfl (fun hc => ?_) (fun hc => ?_)
                · refine D.run 3 rfl ?_
                  refine D.call rfl rfl rfl rfl (fun q h => x243_ok (by decide) h82_3 h) (fun q10 => ?_)
                  exact fun h => by obtain ⟨rfl, rfl⟩ := hT _ (D.some h); exact Rn.ret rfl rfl rfl
                · refine D.run 6 rfl ?_
                  refine D.gd fun hg => ?_
                  refine D.st rfl (by decide) (al_i (by decide) (by first | rfl | decide) hg.1 hg.2) ?_
                  refine D.br rfl (by decide) rfl (fun hc => ?_) (fun hc => ?_)
                  · refine D.run 5 rfl ?_
                    refine D.gd fun hg => ?_
                    refine D.st rfl (by decide) (al_i (by decide) (by first | rfl | decide) hg.1 hg.2) ?_
                    refine D.run 7 rfl ?_
                    have Kj194 : ∀ (q11 : Int32), Dq (if q1 = 0 then if inb ((q6.2 182 (q6.1 - 1).toNatClampNeg) + q5.1) 3001 then if inb ((q6.2 182 (q6.1 - 1).toNatClampNeg) + q5.1) 3001 then (if ((q6.2 82 6) &&& 2) = 0 then some 0 else some (q6.2 82 66)).bind fun (q12 : Int32) => (x239 q6.2 (q6.2 185 ((q6.2 182 (q6.1 - 1).toNatClampNeg) + q5.1).toNatClampNeg) (((q6.2 186 ((q6.2 182 (q6.1 - 1).toNatClampNeg) + q5.1).toNatClampNeg) ||| q11) ||| q12)).bind fun q13 => some (up2 q13 82 64 (a1 + 1)) else none else none else if inb ((q6.2 182 (q6.1 - 1).toNatClampNeg) + q5.1) 3001 then if ((q6.2 82 6) &&& 4) = 0 then if inb ((q6.2 182 (q6.1 - 1).toNatClampNeg) + q5.1) 3001 then Lt (up2 (up2 q6.2 185 ((q6.2 182 (q6.1 - 1).toNatClampNeg) + q5.1).toNatClampNeg q3.1) 186 ((q6.2 182 (q6.1 - 1).toNatClampNeg) + q5.1).toNatClampNeg ((q4 ||| q11) ||| 0)) fun J14 => some (up2 J14 82 64 (a1 + 1)) else none else if inb ((q6.2 182 (q6.1 - 1).toNatClampNeg) + q5.1) 3001 then Lt (up2 (up2 q6.2 185 ((q6.2 182 (q6.1 - 1).toNatClampNeg) + q5.1).toNatClampNeg q3.1) 186 ((q6.2 182 (q6.1 - 1).toNatClampNeg) + q5.1).toNatClampNeg ((q4 ||| q11) ||| (q6.2 82 66))) fun J15 => some (up2 J15 82 64 (a1 + 1)) else none else none) T → Rn E 257 (194, [.ref 82, .int a1, .int a2, .int q1, .int q3.1, .int q4, .int q5.1, .int (q5.2 82 66), .int q6.1, .int (q6.2 82 66), .int ((q4 ||| (q5.2 82 66)) ||| (q6.2 82 66)), .int q7, .int ((q6.2 182 (q6.1 - 1).toNatClampNeg) + q5.1), us], [.int q11], wT q6.2 R) o w := by
                      intro q11
                      refine D.run 2 rfl ?_
                      refine D.br rfl (by decide) rfl (fun hc => ?_) (fun hc => ?_)
                      · refine D.run 4 rfl ?_
                        refine D.gd fun hg => ?_
                        refine D.st rfl (by decide) (al_i (by decide) (by first | rfl | decide) hg.1 hg.2) ?_
                        refine D.run 3 rfl ?_
                        refine D.gd fun hg => ?_
                        refine D.st rfl (by decide) (al_i (by decide) (by first | rfl | decide) hg.1 hg.2) ?_
                        show _ → Rn E 257 (255, [.ref 82, .int a1, .int a2, .int q1, .int q3.1, .int q4, .int q5.1, .int (q5.2 82 66), .int q6.1, .int (q6.2 82 66), .int ((q4 ||| (q5.2 82 66)) ||| (q6.2 82 66)), .int q7, .int ((q6.2 182 (q6.1 - 1).toNatClampNeg) + q5.1), .int q11], [.int (q6.2 186 ((q6.2 182 (q6.1 - 1).toNatClampNeg) + q5.1).toNatClampNeg), .int (q6.2 185 ((q6.2 182 (q6.1 - 1).toNatClampNeg) + q5.1).toNatClampNeg), .ref 82], wT q6.2 R) o w
                        refine D.run 6 rfl ?_
                        have Kj273 : ∀ (q12 : Int32), Dq ((x239 q6.2 (q6.2 185 ((q6.2 182 (q6.1 - 1).toNatClampNeg) + q5.1).toNatClampNeg) (((q6.2 186 ((q6.2 182 (q6.1 - 1).toNatClampNeg) + q5.1).toNatClampNeg) ||| q11) ||| q12)).bind fun q13 => some (up2 q13 82 64 (a1 + 1))) T → Rn E 257 (273, [.ref 82, .int a1, .int a2, .int q1, .int q3.1, .int q4, .int q5.1, .int (q5.2 82 66), .int q6.1, .int (q6.2 82 66), .int ((q4 ||| (q5.2 82 66)) ||| (q6.2 82 66)), .int q7, .int ((q6.2 182 (q6.1 - 1).toNatClampNeg) + q5.1), .int q11], [.int q12, .int ((q6.2 186 ((q6.2 182 (q6.1 - 1).toNatClampNeg) + q5.1).toNatClampNeg) ||| q11), .int (q6.2 185 ((q6.2 182 (q6.1 - 1).toNatClampNeg) + q5.1).toNatClampNeg), .ref 82], wT q6.2 R) o w := by
                          intro q12
                          refine D.run 1 rfl ?_
                          refine D.call rfl rfl rfl rfl (fun q h => x239_ok h) (fun q13 => ?_)
                          refine D.run 5 rfl ?_
                          exact fun h => by obtain ⟨rfl, rfl⟩ := hT _ (D.some h); exact Rn.ret rfl rfl rfl
                        refine D.jn (fun T273 c273 => ?_)
                        refine D.br rfl (by decide) rfl (fun hc => ?_) (fun hc => ?_)
                        · refine D.run 1 rfl ?_
                          exact fun h => Kj273 _   (c273 _ (D.some h))
                        · refine D.run 2 rfl ?_
                          exact fun h => Kj273 _   (c273 _ (D.some h))
                      · refine D.run 4 rfl ?_
                        refine D.gd fun hg => ?_
                        refine D.st rfl (by decide) (as_i (by decide) (by first | rfl | decide) hg.1 hg.2) ?_
                        refine D.run 10 rfl ?_
                        refine D.br rfl (by decide) rfl (fun hc => ?_) (fun hc => ?_)
                        · refine D.run 2 rfl ?_
                          refine D.gd fun hg => ?_
                          refine D.st rfl (by decide) (as_i (by decide) (by first | rfl | decide) hg.1 hg.2) ?_
                          refine D.letS (fun J14 => ?_)
                          refine D.run 6 rfl ?_
                          exact fun h => by obtain ⟨rfl, rfl⟩ := hT _ (D.some h); exact Rn.ret rfl rfl rfl
                        · refine D.run 3 rfl ?_
                          refine D.gd fun hg => ?_
                          refine D.st rfl (by decide) (as_i (by decide) (by first | rfl | decide) hg.1 hg.2) ?_
                          refine D.letS (fun J15 => ?_)
                          refine D.run 6 rfl ?_
                          exact fun h => by obtain ⟨rfl, rfl⟩ := hT _ (D.some h); exact Rn.ret rfl rfl rfl
                    refine D.jn (fun T194 c194 => ?_)
                    refine D.br rfl (by decide) rfl (fun hc => ?_) (fun hc => ?_)
                    · refine D.run 1 rfl ?_
                      exact fun h => Kj194 _   (c194 _ (D.some h))
                    · refine D.run 2 rfl ?_
                      exact fun h => Kj194 _   (c194 _ (D.some h))
                  · refine D.run 3 rfl ?_
                    refine D.call rfl rfl rfl rfl (fun q h => x243_ok (by decide) h82_3 h) (fun q16 => ?_)
                    exact fun h => by obtain ⟨rfl, rfl⟩ := hT _ (D.some h); exact Rn.ret rfl rfl rfl
              · refine D.run 2 rfl ?_
                have Kj132 : ∀ (q17 : Int32), Dq ((x243 85 q6.2 q17 ((q4 ||| (q5.2 82 66)) ||| (q6.2 82 66))).bind fun q18 => some q18) T → Rn E 257 (132, [.ref 82, .int a1, .int a2, .int q1, .int q3.1, .int q4, .int q5.1, .int (q5.2 82 66), .int q6.1, .int (q6.2 82 66), .int ((q4 ||| (q5.2 82 66)) ||| (q6.2 82 66)), .int q7, us, us], [.int q17, .ref 82], wT q6.2 R) o w := by
                  intro q17
                  refine D.run 1 rfl ?_
                  refine D.call rfl rfl rfl rfl (fun q h => x243_ok (by decide) h82_3 h) (fun q18 => ?_)
                  exact fun h => by obtain ⟨rfl, rfl⟩ := hT _ (D.some h); exact Rn.ret rfl rfl rfl
                refine D.jn (fun T132 c132 => ?_)
                refine D.br rfl (by decide) rfl (fun hc => ?_) (fun hc => ?_)
                · refine D.run 2 rfl ?_
                  exact fun h => Kj132 _   (c132 _ (D.some h))
                · refine D.run 1 rfl ?_
                  exact fun h => Kj132 _   (c132 _ (D.some h))
          refine D.jn (fun T99 c99 => ?_)
          refine D.br rfl (by decide) rfl (fun hc => ?_) (fun hc => ?_)
          · refine D.run 2 rfl ?_
            exact fun h => Kj99 _   (c99 _ (D.some h))
          · refine D.run 2 rfl ?_
            refine D.br rfl (by decide) rfl (fun hc => ?_) (fun hc => ?_)
            · refine D.run 2 rfl ?_
              exact fun h => Kj99 _   (c99 _ (D.some h))
            · refine D.run 1 rfl ?_
              exact fun h => Kj99 _   (c99 _ (D.some h))
        refine D.jn (fun T44 c44 => ?_)
        refine D.br rfl (by decide) rfl (fun hc => ?_) (fun hc => ?_)
        · refine D.run 1 rfl ?_
          exact fun h => Kj44 _   (c44 _ (D.some h))
        · refine D.run 3 rfl ?_
          exact fun h => Kj44 _   (c44 _ (D.some h))
      refine D.jn (fun T30 c30 => ?_)
      refine D.br rfl (by decide) rfl (fun hc => ?_) (fun hc => ?_)
      · refine D.run 1 rfl ?_
        exact fun h => Kj30 _   (c30 _ (D.some h))
      · refine D.run 1 rfl ?_
        refine D.call rfl rfl rfl rfl (fun q h => x240_ok h) (fun q2 => ?_)
        refine D.run 1 rfl ?_
        exact fun h => Kj30 _   (c30 _ (D.some h))
    refine D.jn (fun T17 c17 => ?_)
    refine D.br rfl (by decide) rfl (fun hc => ?_) (fun hc => ?_)
    · refine D.run 2 rfl ?_
      exact fun h => Kj17 _   (c17 _ (D.some h))
    · refine D.run 2 rfl ?_
      refine D.br rfl (by decide) rfl (fun hc => ?_) (fun hc => ?_)
      · refine D.run 2 rfl ?_
        exact fun h => Kj17 _   (c17 _ (D.some h))
      · refine D.run 1 rfl ?_
        exact fun h => Kj17 _   (c17 _ (D.some h))
  · refine D.run 2 rfl ?_
    have Kj17 : ∀ (q1 : Int32), Dq ((if q1 = 0 then some (0, I) else (x240 I).bind fun q2 => some (q2.1, q2.2)).bind fun (q3 : Int32 × St) => (if q1 = 0 then some 0 else some (q3.2 82 66)).bind fun (q4 : Int32) => (x240 q3.2).bind fun q5 => (x240 q5.2).bind fun q6 => (if a2 = 44 then some (-2) else if a2 = 45 then some (-2) else some (-3)).bind fun (q7 : Int32) => if q6.1 = 0 then (if q6.1 = 0 then some 2 else some 6).bind fun (q8 : Int32) => (x243 126 q6.2 q8 ((q4 ||| (q5.2 82 66)) ||| (q6.2 82 66))).bind fun q9 => some q9 else if inb (q6.1 - 1) 3001 then if (q6.2 181 (q6.1 - 1).toNatClampNeg) = q7 then if q5.1 < 0 then (x243 126 q6.2 3 ((q4 ||| (q5.2 82 66)) ||| (q6.2 82 66))).bind fun q10 => some q10 else if inb (q6.1 - 1) 3001 then if q5.1 < (q6.2 183 (q6.1 - 1).toNatClampNeg) then if inb (q6.1 - 1) 3001 then (if ((q6.2 82 6) &&& 1) = 0 then some 0 else some (q5.2 82 66)).bind fun (q11 : Int32) => if q1 = 0 then if inb ((q6.2 182 (q6.1 - 1).toNatClampNeg) + q5.1) 3001 then if inb ((q6.2 182 (q6.1 - 1).toNatClampNeg) + q5.1) 3001 then (if ((q6.2 82 6) &&& 2) = 0 then some 0 else some (q6.2 82 66)).bind fun (q12 : Int32) => (x239 q6.2 (q6.2 185 ((q6.2 182 (q6.1 - 1).toNatClampNeg) + q5.1).toNatClampNeg) (((q6.2 186 ((q6.2 182 (q6.1 - 1).toNatClampNeg) + q5.1).toNatClampNeg) ||| q11) ||| q12)).bind fun q13 => some (up2 q13 82 64 (a1 + 1)) else none else none else if inb ((q6.2 182 (q6.1 - 1).toNatClampNeg) + q5.1) 3001 then if ((q6.2 82 6) &&& 4) = 0 then if inb ((q6.2 182 (q6.1 - 1).toNatClampNeg) + q5.1) 3001 then Lt (up2 (up2 q6.2 185 ((q6.2 182 (q6.1 - 1).toNatClampNeg) + q5.1).toNatClampNeg q3.1) 186 ((q6.2 182 (q6.1 - 1).toNatClampNeg) + q5.1).toNatClampNeg ((q4 ||| q11) ||| 0)) fun J14 => some (up2 J14 82 64 (a1 + 1)) else none else if inb ((q6.2 182 (q6.1 - 1).toNatClampNeg) + q5.1) 3001 then Lt (up2 (up2 q6.2 185 ((q6.2 182 (q6.1 - 1).toNatClampNeg) + q5.1).toNatClampNeg q3.1) 186 ((q6.2 182 (q6.1 - 1).toNatClampNeg) + q5.1).toNatClampNeg ((q4 ||| q11) ||| (q6.2 82 66))) fun J15 => some (up2 J15 82 64 (a1 + 1)) else none else none else none else (x243 126 q6.2 3 ((q4 ||| (q5.2 82 66)) ||| (q6.2 82 66))).bind fun q16 => some q16 else none else (if q6.1 = 0 then some 2 else some 6).bind fun (q17 : Int32) => (x243 126 q6.2 q17 ((q4 ||| (q5.2 82 66)) ||| (q6.2 82 66))).bind fun q18 => some q18 else none) T → Rn E 257 (17, [.ref 82, .int a1, .int a2, us, us, us, us, us, us, us, us, us, us, us], [.int q1], wT I R) o w := by
      intro q1
      refine D.run 2 rfl ?_
      have Kj30 : ∀ (q3 : Int32 × St), Dq ((if q1 = 0 then some 0 else some (q3.2 82 66)).bind fun (q4 : Int32) => (x240 q3.2).bind fun q5 => (x240 q5.2).bind fun q6 => (if a2 = 44 then some (-2) else if a2 = 45 then some (-2) else some (-3)).bind fun (q7 : Int32) => if q6.1 = 0 then (if q6.1 = 0 then some 2 else some 6).bind fun (q8 : Int32) => (x243 126 q6.2 q8 ((q4 ||| (q5.2 82 66)) ||| (q6.2 82 66))).bind fun q9 => some q9 else if inb (q6.1 - 1) 3001 then if (q6.2 181 (q6.1 - 1).toNatClampNeg) = q7 then if q5.1 < 0 then (x243 126 q6.2 3 ((q4 ||| (q5.2 82 66)) ||| (q6.2 82 66))).bind fun q10 => some q10 else if inb (q6.1 - 1) 3001 then if q5.1 < (q6.2 183 (q6.1 - 1).toNatClampNeg) then if inb (q6.1 - 1) 3001 then (if ((q6.2 82 6) &&& 1) = 0 then some 0 else some (q5.2 82 66)).bind fun (q11 : Int32) => if q1 = 0 then if inb ((q6.2 182 (q6.1 - 1).toNatClampNeg) + q5.1) 3001 then if inb ((q6.2 182 (q6.1 - 1).toNatClampNeg) + q5.1) 3001 then (if ((q6.2 82 6) &&& 2) = 0 then some 0 else some (q6.2 82 66)).bind fun (q12 : Int32) => (x239 q6.2 (q6.2 185 ((q6.2 182 (q6.1 - 1).toNatClampNeg) + q5.1).toNatClampNeg) (((q6.2 186 ((q6.2 182 (q6.1 - 1).toNatClampNeg) + q5.1).toNatClampNeg) ||| q11) ||| q12)).bind fun q13 => some (up2 q13 82 64 (a1 + 1)) else none else none else if inb ((q6.2 182 (q6.1 - 1).toNatClampNeg) + q5.1) 3001 then if ((q6.2 82 6) &&& 4) = 0 then if inb ((q6.2 182 (q6.1 - 1).toNatClampNeg) + q5.1) 3001 then Lt (up2 (up2 q6.2 185 ((q6.2 182 (q6.1 - 1).toNatClampNeg) + q5.1).toNatClampNeg q3.1) 186 ((q6.2 182 (q6.1 - 1).toNatClampNeg) + q5.1).toNatClampNeg ((q4 ||| q11) ||| 0)) fun J14 => some (up2 J14 82 64 (a1 + 1)) else none else if inb ((q6.2 182 (q6.1 - 1).toNatClampNeg) + q5.1) 3001 then Lt (up2 (up2 q6.2 185 ((q6.2 182 (q6.1 - 1).toNatClampNeg) + q5.1).toNatClampNeg q3.1) 186 ((q6.2 182 (q6.1 - 1).toNatClampNeg) + q5.1).toNatClampNeg ((q4 ||| q11) ||| (q6.2 82 66))) fun J15 => some (up2 J15 82 64 (a1 + 1)) else none else none else none else (x243 126 q6.2 3 ((q4 ||| (q5.2 82 66)) ||| (q6.2 82 66))).bind fun q16 => some q16 else none else (if q6.1 = 0 then some 2 else some 6).bind fun (q17 : Int32) => (x243 126 q6.2 q17 ((q4 ||| (q5.2 82 66)) ||| (q6.2 82 66))).bind fun q18 => some q18 else none) T → Rn E 257 (30, [.ref 82, .int a1, .int a2, .int q1, us, us, us, us, us, us, us, us, us, us], [.int q3.1], wT q3.2 R) o w := by
        intro q3
        refine D.run 2 rfl ?_
        have Kj44 : ∀ (q4 : Int32), Dq ((x240 q3.2).bind fun q5 => (x240 q5.2).bind fun q6 => (if a2 = 44 then some (-2) else if a2 = 45 then some (-2) else some (-3)).bind fun (q7 : Int32) => if q6.1 = 0 then (if q6.1 = 0 then some 2 else some 6).bind fun (q8 : Int32) => (x243 126 q6.2 q8 ((q4 ||| (q5.2 82 66)) ||| (q6.2 82 66))).bind fun q9 => some q9 else if inb (q6.1 - 1) 3001 then if (q6.2 181 (q6.1 - 1).toNatClampNeg) = q7 then if q5.1 < 0 then (x243 126 q6.2 3 ((q4 ||| (q5.2 82 66)) ||| (q6.2 82 66))).bind fun q10 => some q10 else if inb (q6.1 - 1) 3001 then if q5.1 < (q6.2 183 (q6.1 - 1).toNatClampNeg) then if inb (q6.1 - 1) 3001 then (if ((q6.2 82 6) &&& 1) = 0 then some 0 else some (q5.2 82 66)).bind fun (q11 : Int32) => if q1 = 0 then if inb ((q6.2 182 (q6.1 - 1).toNatClampNeg) + q5.1) 3001 then if inb ((q6.2 182 (q6.1 - 1).toNatClampNeg) + q5.1) 3001 then (if ((q6.2 82 6) &&& 2) = 0 then some 0 else some (q6.2 82 66)).bind fun (q12 : Int32) => (x239 q6.2 (q6.2 185 ((q6.2 182 (q6.1 - 1).toNatClampNeg) + q5.1).toNatClampNeg) (((q6.2 186 ((q6.2 182 (q6.1 - 1).toNatClampNeg) + q5.1).toNatClampNeg) ||| q11) ||| q12)).bind fun q13 => some (up2 q13 82 64 (a1 + 1)) else none else none else if inb ((q6.2 182 (q6.1 - 1).toNatClampNeg) + q5.1) 3001 then if ((q6.2 82 6) &&& 4) = 0 then if inb ((q6.2 182 (q6.1 - 1).toNatClampNeg) + q5.1) 3001 then Lt (up2 (up2 q6.2 185 ((q6.2 182 (q6.1 - 1).toNatClampNeg) + q5.1).toNatClampNeg q3.1) 186 ((q6.2 182 (q6.1 - 1).toNatClampNeg) + q5.1).toNatClampNeg ((q4 ||| q11) ||| 0)) fun J14 => some (up2 J14 82 64 (a1 + 1)) else none else if inb ((q6.2 182 (q6.1 - 1).toNatClampNeg) + q5.1) 3001 then Lt (up2 (up2 q6.2 185 ((q6.2 182 (q6.1 - 1).toNatClampNeg) + q5.1).toNatClampNeg q3.1) 186 ((q6.2 182 (q6.1 - 1).toNatClampNeg) + q5.1).toNatClampNeg ((q4 ||| q11) ||| (q6.2 82 66))) fun J15 => some (up2 J15 82 64 (a1 + 1)) else none else none else none else (x243 126 q6.2 3 ((q4 ||| (q5.2 82 66)) ||| (q6.2 82 66))).bind fun q16 => some q16 else none else (if q6.1 = 0 then some 2 else some 6).bind fun (q17 : Int32) => (x243 126 q6.2 q17 ((q4 ||| (q5.2 82 66)) ||| (q6.2 82 66))).bind fun q18 => some q18 else none) T → Rn E 257 (44, [.ref 82, .int a1, .int a2, .int q1, .int q3.1, us, us, us, us, us, us, us, us, us], [.int q4], wT q3.2 R) o w := by
          intro q4
          refine D.run 2 rfl ?_
          refine D.call rfl rfl rfl rfl (fun q h => x240_ok h) (fun q5 => ?_)
          refine D.run 5 rfl ?_
          refine D.call rfl rfl rfl rfl (fun q h => x240_ok h) (fun q6 => ?_)
          refine D.run 12 rfl ?_
          have Kj99 : ∀ (q7 : Int32), Dq (if q6.1 = 0 then (if q6.1 = 0 then some 2 else some 6).bind fun (q8 : Int32) => (x243 126 q6.2 q8 ((q4 ||| (q5.2 82 66)) ||| (q6.2 82 66))).bind fun q9 => some q9 else if inb (q6.1 - 1) 3001 then if (q6.2 181 (q6.1 - 1).toNatClampNeg) = q7 then if q5.1 < 0 then (x243 126 q6.2 3 ((q4 ||| (q5.2 82 66)) ||| (q6.2 82 66))).bind fun q10 => some q10 else if inb (q6.1 - 1) 3001 then if q5.1 < (q6.2 183 (q6.1 - 1).toNatClampNeg) then if inb (q6.1 - 1) 3001 then (if ((q6.2 82 6) &&& 1) = 0 then some 0 else some (q5.2 82 66)).bind fun (q11 : Int32) => if q1 = 0 then if inb ((q6.2 182 (q6.1 - 1).toNatClampNeg) + q5.1) 3001 then if inb ((q6.2 182 (q6.1 - 1).toNatClampNeg) + q5.1) 3001 then (if ((q6.2 82 6) &&& 2) = 0 then some 0 else some (q6.2 82 66)).bind fun (q12 : Int32) => (x239 q6.2 (q6.2 185 ((q6.2 182 (q6.1 - 1).toNatClampNeg) + q5.1).toNatClampNeg) (((q6.2 186 ((q6.2 182 (q6.1 - 1).toNatClampNeg) + q5.1).toNatClampNeg) ||| q11) ||| q12)).bind fun q13 => some (up2 q13 82 64 (a1 + 1)) else none else none else if inb ((q6.2 182 (q6.1 - 1).toNatClampNeg) + q5.1) 3001 then if ((q6.2 82 6) &&& 4) = 0 then if inb ((q6.2 182 (q6.1 - 1).toNatClampNeg) + q5.1) 3001 then Lt (up2 (up2 q6.2 185 ((q6.2 182 (q6.1 - 1).toNatClampNeg) + q5.1).toNatClampNeg q3.1) 186 ((q6.2 182 (q6.1 - 1).toNatClampNeg) + q5.1).toNatClampNeg ((q4 ||| q11) ||| 0)) fun J14 => some (up2 J14 82 64 (a1 + 1)) else none else if inb ((q6.2 182 (q6.1 - 1).toNatClampNeg) + q5.1) 3001 then Lt (up2 (up2 q6.2 185 ((q6.2 182 (q6.1 - 1).toNatClampNeg) + q5.1).toNatClampNeg q3.1) 186 ((q6.2 182 (q6.1 - 1).toNatClampNeg) + q5.1).toNatClampNeg ((q4 ||| q11) ||| (q6.2 82 66))) fun J15 => some (up2 J15 82 64 (a1 + 1)) else none else none else none else (x243 126 q6.2 3 ((q4 ||| (q5.2 82 66)) ||| (q6.2 82 66))).bind fun q16 => some q16 else none else (if q6.1 = 0 then some 2 else some 6).bind fun (q17 : Int32) => (x243 126 q6.2 q17 ((q4 ||| (q5.2 82 66)) ||| (q6.2 82 66))).bind fun q18 => some q18 else none) T → Rn E 257 (99, [.ref 82, .int a1, .int a2, .int q1, .int q3.1, .int q4, .int q5.1, .int (q5.2 82 66), .int q6.1, .int (q6.2 82 66), .int ((q4 ||| (q5.2 82 66)) ||| (q6.2 82 66)), us, us, us], [.int q7], wT q6.2 R) o w := by
            intro q7
            refine D.run 2 rfl ?_
            refine D.br rfl (by decide) rfl (fun hc => ?_) (fun hc => ?_)
            · refine D.run 2 rfl ?_
              have Kj132 : ∀ (q8 : Int32), Dq ((x243 126 q6.2 q8 ((q4 ||| (q5.2 82 66)) ||| (q6.2 82 66))).bind fun q9 => some q9) T → Rn E 257 (132, [.ref 82, .int a1, .int a2, .int q1, .int q3.1, .int q4, .int q5.1, .int (q5.2 82 66), .int q6.1, .int (q6.2 82 66), .int ((q4 ||| (q5.2 82 66)) ||| (q6.2 82 66)), .int q7, us, us], [.int q8, .ref 82], wT q6.2 R) o w := by
                intro q8
                refine D.run 1 rfl ?_
                refine D.call rfl rfl rfl rfl (fun q h => x243_ok (by decide) h82_3 h) (fun q9 => ?_)
                exact fun h => by obtain ⟨rfl, rfl⟩ := hT _ (D.some h); exact Rn.ret rfl rfl rfl
              refine D.jn (fun T132 c132 => ?_)
              refine D.br rfl (by decide) rfl (fun hc => ?_) (fun hc => ?_)
              · refine D.run 2 rfl ?_
                exact fun h => Kj132 _   (c132 _ (D.some h))
              · refine D.run 1 rfl ?_
                exact fun h => Kj132 _   (c132 _ (D.some h))
            · refine D.run 5 rfl ?_
              refine D.gd fun hg => ?_
              refine D.st rfl (by decide) (al_i (by decide) (by first | rfl | decide) hg.1 hg.2) ?_
              refine D.run 1 rfl ?_
              refine D.br rfl (by decide) rfl (fun hc => ?_) (fun hc => ?_)
              · refine D.run 1 rfl ?_
                refine D.br rfl (by decide) rfl (fun hc => ?_) (fun hc => ?_)
                · refine D.run 3 rfl ?_
                  refine D.call rfl rfl rfl rfl (fun q h => x243_ok (by decide) h82_3 h) (fun q10 => ?_)
                  exact fun h => by obtain ⟨rfl, rfl⟩ := hT _ (D.some h); exact Rn.ret rfl rfl rfl
                · refine D.run 6 rfl ?_
                  refine D.gd fun hg => ?_
                  refine D.st rfl (by decide) (al_i (by decide) (by first | rfl | decide) hg.1 hg.2) ?_
                  refine D.br rfl (by decide) rfl (fun hc => ?_) (fun hc => ?_)
                  · refine D.run 5 rfl ?_
                    refine D.gd fun hg => ?_
                    refine D.st rfl (by decide) (al_i (by decide) (by first | rfl | decide) hg.1 hg.2) ?_
                    refine D.run 7 rfl ?_
                    have Kj194 : ∀ (q11 : Int32), Dq (if q1 = 0 then if inb ((q6.2 182 (q6.1 - 1).toNatClampNeg) + q5.1) 3001 then if inb ((q6.2 182 (q6.1 - 1).toNatClampNeg) + q5.1) 3001 then (if ((q6.2 82 6) &&& 2) = 0 then some 0 else some (q6.2 82 66)).bind fun (q12 : Int32) => (x239 q6.2 (q6.2 185 ((q6.2 182 (q6.1 - 1).toNatClampNeg) + q5.1).toNatClampNeg) (((q6.2 186 ((q6.2 182 (q6.1 - 1).toNatClampNeg) + q5.1).toNatClampNeg) ||| q11) ||| q12)).bind fun q13 => some (up2 q13 82 64 (a1 + 1)) else none else none else if inb ((q6.2 182 (q6.1 - 1).toNatClampNeg) + q5.1) 3001 then if ((q6.2 82 6) &&& 4) = 0 then if inb ((q6.2 182 (q6.1 - 1).toNatClampNeg) + q5.1) 3001 then Lt (up2 (up2 q6.2 185 ((q6.2 182 (q6.1 - 1).toNatClampNeg) + q5.1).toNatClampNeg q3.1) 186 ((q6.2 182 (q6.1 - 1).toNatClampNeg) + q5.1).toNatClampNeg ((q4 ||| q11) ||| 0)) fun J14 => some (up2 J14 82 64 (a1 + 1)) else none else if inb ((q6.2 182 (q6.1 - 1).toNatClampNeg) + q5.1) 3001 then Lt (up2 (up2 q6.2 185 ((q6.2 182 (q6.1 - 1).toNatClampNeg) + q5.1).toNatClampNeg q3.1) 186 ((q6.2 182 (q6.1 - 1).toNatClampNeg) + q5.1).toNatClampNeg ((q4 ||| q11) ||| (q6.2 82 66))) fun J15 => some (up2 J15 82 64 (a1 + 1)) else none else none) T → Rn E 257 (194, [.ref 82, .int a1, .int a2, .int q1, .int q3.1, .int q4, .int q5.1, .int (q5.2 82 66), .int q6.1, .int (q6.2 82 66), .int ((q4 ||| (q5.2 82 66)) ||| (q6.2 82 66)), .int q7, .int ((q6.2 182 (q6.1 - 1).toNatClampNeg) + q5.1), us], [.int q11], wT q6.2 R) o w := by
                      intro q11
                      refine D.run 2 rfl ?_
                      refine D.br rfl (by decide) rfl (fun hc => ?_) (fun hc => ?_)
                      · refine D.run 4 rfl ?_
                        refine D.gd fun hg => ?_
                        refine D.st rfl (by decide) (al_i (by decide) (by first | rfl | decide) hg.1 hg.2) ?_
                        refine D.run 3 rfl ?_
                        refine D.gd fun hg => ?_
                        refine D.st rfl (by decide) (al_i (by decide) (by first | rfl | decide) hg.1 hg.2) ?_
                        show _ → Rn E 257 (255, [.ref 82, .int a1, .int a2, .int q1, .int q3.1, .int q4, .int q5.1, .int (q5.2 82 66), .int q6.1, .int (q6.2 82 66), .int ((q4 ||| (q5.2 82 66)) ||| (q6.2 82 66)), .int q7, .int ((q6.2 182 (q6.1 - 1).toNatClampNeg) + q5.1), .int q11], [.int (q6.2 186 ((q6.2 182 (q6.1 - 1).toNatClampNeg) + q5.1).toNatClampNeg), .int (q6.2 185 ((q6.2 182 (q6.1 - 1).toNatClampNeg) + q5.1).toNatClampNeg), .ref 82], wT q6.2 R) o w
                        refine D.run 6 rfl ?_
                        have Kj273 : ∀ (q12 : Int32), Dq ((x239 q6.2 (q6.2 185 ((q6.2 182 (q6.1 - 1).toNatClampNeg) + q5.1).toNatClampNeg) (((q6.2 186 ((q6.2 182 (q6.1 - 1).toNatClampNeg) + q5.1).toNatClampNeg) ||| q11) ||| q12)).bind fun q13 => some (up2 q13 82 64 (a1 + 1))) T → Rn E 257 (273, [.ref 82, .int a1, .int a2, .int q1, .int q3.1, .int q4, .int q5.1, .int (q5.2 82 66), .int q6.1, .int (q6.2 82 66), .int ((q4 ||| (q5.2 82 66)) ||| (q6.2 82 66)), .int q7, .int ((q6.2 182 (q6.1 - 1).toNatClampNeg) + q5.1), .int q11], [.int q12, .int ((q6.2 186 ((q6.2 182 (q6.1 - 1).toNatClampNeg) + q5.1).toNatClampNeg) ||| q11), .int (q6.2 185 ((q6.2 182 (q6.1 - 1).toNatClampNeg) + q5.1).toNatClampNeg), .ref 82], wT q6.2 R) o w := by
                          intro q12
                          refine D.run 1 rfl ?_
                          refine D.call rfl rfl rfl rfl (fun q h => x239_ok h) (fun q13 => ?_)
                          refine D.run 5 rfl ?_
                          exact fun h => by obtain ⟨rfl, rfl⟩ := hT _ (D.some h); exact Rn.ret rfl rfl rfl
                        refine D.jn (fun T273 c273 => ?_)
                        refine D.br rfl (by decide) rfl (fun hc => ?_) (fun hc => ?_)
                        · refine D.run 1 rfl ?_
                          exact fun h => Kj273 _   (c273 _ (D.some h))
                        · refine D.run 2 rfl ?_
                          exact fun h => Kj273 _   (c273 _ (D.some h))
                      · refine D.run 4 rfl ?_
                        refine D.gd fun hg => ?_
                        refine D.st rfl (by decide) (as_i (by decide) (by first | rfl | decide) hg.1 hg.2) ?_
                        refine D.run 10 rfl ?_
                        refine D.br rfl (by decide) rfl (fun hc => ?_) (fun hc => ?_)
                        · refine D.run 2 rfl ?_
                          refine D.gd fun hg => ?_
                          refine D.st rfl (by decide) (as_i (by decide) (by first | rfl | decide) hg.1 hg.2) ?_
                          refine D.letS (fun J14 => ?_)
                          refine D.run 6 rfl ?_
                          exact fun h => by obtain ⟨rfl, rfl⟩ := hT _ (D.some h); exact Rn.ret rfl rfl rfl
                        · refine D.run 3 rfl ?_
                          refine D.gd fun hg => ?_
                          refine D.st rfl (by decide) (as_i (by decide) (by first | rfl | decide) hg.1 hg.2) ?_
                          refine D.letS (fun J15 => ?_)
                          refine D.run 6 rfl ?_
                          exact fun h => by obtain ⟨rfl, rfl⟩ := hT _ (D.some h); exact Rn.ret rfl rfl rfl
                    refine D.jn (fun T194 c194 => ?_)
                    refine D.br rfl (by decide) rfl (fun hc => ?_) (fun hc => ?_)
                    · refine D.run 1 rfl ?_
                      exact fun h => Kj194 _   (c194 _ (D.some h))
                    · refine D.run 2 rfl ?_
                      exact fun h => Kj194 _   (c194 _ (D.some h))
                  · refine D.run 3 rfl ?_
                    refine D.call rfl rfl rfl rfl (fun q h => x243_ok (by decide) h82_3 h) (fun q16 => ?_)
                    exact fun h => by obtain ⟨rfl, rfl⟩ := hT _ (D.some h); exact Rn.ret rfl rfl rfl
              · refine D.run 2 rfl ?_
                have Kj132 : ∀ (q17 : Int32), Dq ((x243 126 q6.2 q17 ((q4 ||| (q5.2 82 66)) ||| (q6.2 82 66))).bind fun q18 => some q18) T → Rn E 257 (132, [.ref 82, .int a1, .int a2, .int q1, .int q3.1, .int q4, .int q5.1, .int (q5.2 82 66), .int q6.1, .int (q6.2 82 66), .int ((q4 ||| (q5.2 82 66)) ||| (q6.2 82 66)), .int q7, us, us], [.int q17, .ref 82], wT q6.2 R) o w := by
                  intro q17
                  refine D.run 1 rfl ?_
                  refine D.call rfl rfl rfl rfl (fun q h => x243_ok (by decide) h82_3 h) (fun q18 => ?_)
                  exact fun h => by obtain ⟨rfl, rfl⟩ := hT _ (D.some h); exact Rn.ret rfl rfl rfl
                refine D.jn (fun T132 c132 => ?_)
                refine D.br rfl (by decide) rfl (fun hc => ?_) (fun hc => ?_)
                · refine D.run 2 rfl ?_
                  exact fun h => Kj132 _   (c132 _ (D.some h))
                · refine D.run 1 rfl ?_
                  exact fun h => Kj132 _   (c132 _ (D.some h))
          refine D.jn (fun T99 c99 => ?_)
          refine D.br rfl (by decide) rfl (fun hc => ?_) (fun hc => ?_)
          · refine D.run 2 rfl ?_
            exact fun h => Kj99 _   (c99 _ (D.some h))
          · refine D.run 2 rfl ?_
            refine D.br rfl (by decide) rfl (fun hc => ?_) (fun hc => ?_)
            · refine D.run 2 rfl ?_
              exact fun h => Kj99 _   (c99 _ (D.some h))
            · refine D.run 1 rfl ?_
              exact fun h => Kj99 _   (c99 _ (D.some h))
        refine D.jn (fun T44 c44 => ?_)
        refine D.br rfl (by decide) rfl (fun hc => ?_) (fun hc => ?_)
        · refine D.run 1 rfl ?_
          exact fun h => Kj44 _   (c44 _ (D.some h))
        · refine D.run 3 rfl ?_
          exact fun h => Kj44 _   (c44 _ (D.some h))
      refine D.jn (fun T30 c30 => ?_)
      refine D.br rfl (by decide) rfl (fun hc => ?_) (fun hc => ?_)
      · refine D.run 1 rfl ?_
        exact fun h => Kj30 _   (c30 _ (D.some h))
      · refine D.run 1 rfl ?_
        refine D.call rfl rfl rfl rfl (fun q h => x240_ok h) (fun q2 => ?_)
        refine D.run 1 rfl ?_
        exact fun h => Kj30 _   (c30 _ (D.some h))
    refine D.jn (fun T17 c17 => ?_)
    refine D.br rfl (by decide) rfl (fun hc => ?_) (fun hc => ?_)
    · refine D.run 2 rfl ?_
      exact fun h => Kj17 _   (c17 _ (D.some h))
    · refine D.run 2 rfl ?_
      refine D.br rfl (by decide) rfl (fun hc => ?_) (fun hc => ?_)
      · refine D.run 2 rfl ?_
        exact fun h => Kj17 _   (c17 _ (D.some h))
      · refine D.run 1 rfl ?_
        exact fun h => Kj17 _   (c17 _ (D.some h))
set_option maxRecDepth 20000 in
set_option maxHeartbeats 30000000 in
theorem x257_ok {E : Xe} {R : Nat → Nat → Option Nat} {Q : Nat} {I : St} (hQ : Q = 85 ∨ Q = 126) (h82_3 : R 82 3 = some Q) {a1 a2 : Int32} {q : St} (h : x257 Q I a1 a2 = some q) : Rn E 257 (0, loc0 257 [.ref 82, .int a1, .int a2], [], wT I R) (.returned none) (wT q R) := x257_D hQ h82_3 _ _ (T := fun r => r = q) (by rintro r rfl; exact ⟨rfl, rfl⟩) ⟨_, h, rfl⟩
/-- TaintHouseModel.size(I)V -/
def x258 (Q : Nat) (I : St) (a1 : Int32) : Option (St) := (x240 I).bind fun q1 => if q1.1 = 0 then (if q1.1 = 0 then some 2 else some 6).bind fun (q2 : Int32) => (x243 Q q1.2 q2 (q1.2 82 66)).bind fun q3 => some q3 else if inb (q1.1 - 1) 3001 then if (q1.2 181 (q1.1 - 1).toNatClampNeg) < 0 then if inb (q1.1 - 1) 3001 then if inb (q1.1 - 1) 3001 then (if ((q1.2 82 6) &&& 2) = 0 then some 0 else some (q1.2 82 66)).bind fun (q4 : Int32) => (x239 q1.2 (q1.2 183 (q1.1 - 1).toNatClampNeg) ((q1.2 184 (q1.1 - 1).toNatClampNeg) ||| q4)).bind fun q5 => some (up2 q5 82 64 (a1 + 1)) else none else none else (if q1.1 = 0 then some 2 else some 6).bind fun (q6 : Int32) => (x243 Q q1.2 q6 (q1.2 82 66)).bind fun q7 => some q7 else none
set_option maxRecDepth 20000 in
set_option maxHeartbeats 30000000 in
theorem x258_D {E : Xe} {R : Nat → Nat → Option Nat} {Q : Nat} {o : Outcome} {w : Wd} {T : (St) → Prop} {I : St} (hQ : Q = 85 ∨ Q = 126) (h82_3 : R 82 3 = some Q) (a1 : Int32) (hT : ∀ r, T r → o = .returned none ∧ w = wT r R) : Dq (x258 Q I a1) T → Rn E 258 (0, loc0 258 [.ref 82, .int a1], [], wT I R) o w := by
  unfold x258
  rcases hQ with rfl | rfl
  · refine D.run 1 rfl ?_
    refine D.call rfl rfl rfl rfl (fun q h => x240_ok h) (fun q1 => ?_)
    refine D.run 5 rfl ?_
    refine D.br rfl (by decide) rfl (fun hc => ?_) (fun hc => ?_)
    · refine D.run 2 rfl ?_
      have Kj36 : ∀ (q2 : Int32), Dq ((x243 85 q1.2 q2 (q1.2 82 66)).bind fun q3 => some q3) T → Rn E 258 (36, [.ref 82, .int a1, .int q1.1, .int (q1.2 82 66)], [.int q2, .ref 82], wT q1.2 R) o w := by
        intro q2
        refine D.run 1 rfl ?_
        refine D.call rfl rfl rfl rfl (fun q h => x243_ok (by decide) h82_3 h) (fun q3 => ?_)
        exact fun h => by obtain ⟨rfl, rfl⟩ := hT _ (D.some h); exact Rn.ret rfl rfl rfl
      refine D.jn (fun T36 c36 => ?_)
      refine D.br rfl (by decide) rfl (fun hc => ?_) (fun hc => ?_)
      · refine D.run 2 rfl ?_
        exact fun h => Kj36 _   (c36 _ (D.some h))
      · refine D.run 1 rfl ?_
        exact fun h => Kj36 _   (c36 _ (D.some h))
    · refine D.run 5 rfl ?_
      refine D.gd fun hg => ?_
      refine D.st rfl (by decide) (al_i (by decide) (by first | rfl | decide) hg.1 hg.2) ?_
      refine D.br rfl (by decide) rfl (fun hc => ?_) (fun hc => ?_)
      · refine D.run 6 rfl ?_
        refine D.gd fun hg => ?_
        refine D.st rfl (by decide) (al_i (by decide) (by first | rfl | decide) hg.1 hg.2) ?_
        refine D.run 5 rfl ?_
        refine D.gd fun hg => ?_
        refine D.st rfl (by decide) (al_i (by decide) (by first | rfl | decide) hg.1 hg.2) ?_
        show _ → Rn E 258 (58, [.ref 82, .int a1, .int q1.1, .int (q1.2 82 66)], [.int (q1.2 184 (q1.1 - 1).toNatClampNeg), .int (q1.2 183 (q1.1 - 1).toNatClampNeg), .ref 82], wT q1.2 R) o w
        refine D.run 4 rfl ?_
        have Kj72 : ∀ (q4 : Int32), Dq ((x239 q1.2 (q1.2 183 (q1.1 - 1).toNatClampNeg) ((q1.2 184 (q1.1 - 1).toNatClampNeg) ||| q4)).bind fun q5 => some (up2 q5 82 64 (a1 + 1))) T → Rn E 258 (72, [.ref 82, .int a1, .int q1.1, .int (q1.2 82 66)], [.int q4, .int (q1.2 184 (q1.1 - 1).toNatClampNeg), .int (q1.2 183 (q1.1 - 1).toNatClampNeg), .ref 82], wT q1.2 R) o w := by
          intro q4
          refine D.run 1 rfl ?_
          refine D.call rfl rfl rfl rfl (fun q h => x239_ok h) (fun q5 => ?_)
          refine D.run 5 rfl ?_
          exact fun h => by obtain ⟨rfl, rfl⟩ := hT _ (D.some h); exact Rn.ret rfl rfl rfl
        refine D.jn (fun T72 c72 => ?_)
        refine D.br rfl (by decide) rfl (fun hc => ?_) (fun hc => ?_)
        · refine D.run 1 rfl ?_
          exact fun h => Kj72 _   (c72 _ (D.some h))
        · refine D.run 2 rfl ?_
          exact fun h => Kj72 _   (c72 _ (D.some h))
      · refine D.run 2 rfl ?_
        have Kj36 : ∀ (q6 : Int32), Dq ((x243 85 q1.2 q6 (q1.2 82 66)).bind fun q7 => some q7) T → Rn E 258 (36, [.ref 82, .int a1, .int q1.1, .int (q1.2 82 66)], [.int q6, .ref 82], wT q1.2 R) o w := by
          intro q6
          refine D.run 1 rfl ?_
          refine D.call rfl rfl rfl rfl (fun q h => x243_ok (by decide) h82_3 h) (fun q7 => ?_)
          exact fun h => by obtain ⟨rfl, rfl⟩ := hT _ (D.some h); exact Rn.ret rfl rfl rfl
        refine D.jn (fun T36 c36 => ?_)
        refine D.br rfl (by decide) rfl (fun hc => ?_) (fun hc => ?_)
        · refine D.run 2 rfl ?_
          exact fun h => Kj36 _   (c36 _ (D.some h))
        · refine D.run 1 rfl ?_
          exact fun h => Kj36 _   (c36 _ (D.some h))
  · refine D.run 1 rfl ?_
    refine D.call rfl rfl rfl rfl (fun q h => x240_ok h) (fun q1 => ?_)
    refine D.run 5 rfl ?_
    refine D.br rfl (by decide) rfl (fun hc => ?_) (fun hc => ?_)
    · refine D.run 2 rfl ?_
      have Kj36 : ∀ (q2 : Int32), Dq ((x243 126 q1.2 q2 (q1.2 82 66)).bind fun q3 => some q3) T → Rn E 258 (36, [.ref 82, .int a1, .int q1.1, .int (q1.2 82 66)], [.int q2, .ref 82], wT q1.2 R) o w := by
        intro q2
        refine D.run 1 rfl ?_
        refine D.call rfl rfl rfl rfl (fun q h => x243_ok (by decide) h82_3 h) (fun q3 => ?_)
        exact fun h => by obtain ⟨rfl, rfl⟩ := hT _ (D.some h); exact Rn.ret rfl rfl rfl
      refine D.jn (fun T36 c36 => ?_)
      refine D.br rfl (by decide) rfl (fun hc => ?_) (fun hc => ?_)
      · refine D.run 2 rfl ?_
        exact fun h => Kj36 _   (c36 _ (D.some h))
      · refine D.run 1 rfl ?_
        exact fun h => Kj36 _   (c36 _ (D.some h))
    · refine D.run 5 rfl ?_
      refine D.gd fun hg => ?_
      refine D.st rfl (by decide) (al_i (by decide) (by first | rfl | decide) hg.1 hg.2) ?_
      refine D.br rfl (by decide) rfl (fun hc => ?_) (fun hc => ?_)
      · refine D.run 6 rfl ?_
        refine D.gd fun hg => ?_
        refine D.st rfl (by decide) (al_i (by decide) (by first | rfl | decide) hg.1 hg.2) ?_
        refine D.run 5 rfl ?_
        refine D.gd fun hg => ?_
        refine D.st rfl (by decide) (al_i (by decide) (by first | rfl | decide) hg.1 hg.2) ?_
        show _ → Rn E 258 (58, [.ref 82, .int a1, .int q1.1, .int (q1.2 82 66)], [.int (q1.2 184 (q1.1 - 1).toNatClampNeg), .int (q1.2 183 (q1.1 - 1).toNatClampNeg), .ref 82], wT q1.2 R) o w
        refine D.run 4 rfl ?_
        have Kj72 : ∀ (q4 : Int32), Dq ((x239 q1.2 (q1.2 183 (q1.1 - 1).toNatClampNeg) ((q1.2 184 (q1.1 - 1).toNatClampNeg) ||| q4)).bind fun q5 => some (up2 q5 82 64 (a1 + 1))) T → Rn E 258 (72, [.ref 82, .int a1, .int q1.1, .int (q1.2 82 66)], [.int q4, .int (q1.2 184 (q1.1 - 1).toNatClampNeg), .int (q1.2 183 (q1.1 - 1).toNatClampNeg), .ref 82], wT q1.2 R) o w := by
          intro q4
          refine D.run 1 rfl ?_
          refine D.call rfl rfl rfl rfl (fun q h => x239_ok h) (fun q5 => ?_)
          refine D.run 5 rfl ?_
          exact fun h => by obtain ⟨rfl, rfl⟩ := hT _ (D.some h); exact Rn.ret rfl rfl rfl
        refine D.jn (fun T72 c72 => ?_)
        refine D.br rfl (by decide) rfl (fun hc => ?_) (fun hc => ?_)
        · refine D.run 1 rfl ?_
          exact fun h => Kj72 _   (c72 _ (D.some h))
        · refine D.run 2 rfl ?_
          exact fun h => Kj72 _   (c72 _ (D.some h))
      · refine D.run 2 rfl ?_
        have Kj36 : ∀ (q6 : Int32), Dq ((x243 126 q1.2 q6 (q1.2 82 66)).bind fun q7 => some q7) T → Rn E 258 (36, [.ref 82, .int a1, .int q1.1, .int (q1.2 82 66)], [.int q6, .ref 82], wT q1.2 R) o w := by
          intro q6
          refine D.run 1 rfl ?_
          refine D.call rfl rfl rfl rfl (fun q h => x243_ok (by decide) h82_3 h) (fun q7 => ?_)
          exact fun h => by obtain ⟨rfl, rfl⟩ := hT _ (D.some h); exact Rn.ret rfl rfl rfl
        refine D.jn (fun T36 c36 => ?_)
        refine D.br rfl (by decide) rfl (fun hc => ?_) (fun hc => ?_)
        · refine D.run 2 rfl ?_
          exact fun h => Kj36 _   (c36 _ (D.some h))
        · refine D.run 1 rfl ?_
          exact fun h => Kj36 _   (c36 _ (D.some h))
set_option maxRecDepth 20000 in
set_option maxHeartbeats 30000000 in
theorem x258_ok {E : Xe} {R : Nat → Nat → Option Nat} {Q : Nat} {I : St} (hQ : Q = 85 ∨ Q = 126) (h82_3 : R 82 3 = some Q) {a1 : Int32} {q : St} (h : x258 Q I a1 = some q) : Rn E 258 (0, loc0 258 [.ref 82, .int a1], [], wT I R) (.returned none) (wT q R) := x258_D hQ h82_3 _ (T := fun r => r = q) (by rintro r rfl; exact ⟨rfl, rfl⟩) ⟨_, h, rfl⟩
/-- TaintHouseModel.call(II)V -/
def l259_71 (Q : Nat) (b1 : Int32) (b3 : Int32) (b4 : Int32) (b5 : Int32) (b6 : Int32) : Nat → Int32 → Int32 → St → Option (Int32)
  | 0, _, _, _ => none
  | n + 1, b7, b8, I => if b4 ≤ b8 then some b7 else if inb (b5 + b8) 384 then l259_71 Q b1 b3 b4 b5 b6 n (b7 ||| (I 199 (b5 + b8).toNatClampNeg)) (b8 + 1) I else none
set_option maxRecDepth 20000 in
set_option maxHeartbeats 30000000 in
theorem l259_71_ok {E : Xe} {R : Nat → Nat → Option Nat} {Q : Nat} {I0 : St} {o : Outcome} {w : Wd} {T : (Int32) → Prop} {b1 : Int32} {b3 : Int32} {b4 : Int32} {b5 : Int32} {b6 : Int32} (hQ : Q = 85 ∨ Q = 126) (h82_3 : R 82 3 = some Q) (K : ∀ (q : Int32) (e2 : Value) (_ : is1 e2 = true) (e8 : Value) (_ : is1 e8 = true), T q → Rn E 259 (99, [.ref 82, .int b1, e2, .int b3, .int b4, .int b5, .int b6, .int q, e8], [], wT I0 R) o w) : ∀ (n : Nat) (b7 : Int32) (b8 : Int32) (d2 : Value), is1 d2 = true → Dq (l259_71 Q b1 b3 b4 b5 b6 n b7 b8 I0) T → Rn E 259 (71, [.ref 82, .int b1, d2, .int b3, .int b4, .int b5, .int b6, .int b7, .int b8], [], wT I0 R) o w := by
  rcases hQ with rfl | rfl
  all_goals
    intro n
    induction n with
    | zero => intro b7 b8 d2 hd2; exact D.none
    | succ n ih =>
      intro b7 b8 d2 hd2
      rw [l259_71]
      refine D.run 2 rfl ?_
      refine D.br rfl (by decide) rfl (fun hc => ?_) (fun hc => ?_)
      · exact fun h => D.to h (K _ _ (by first | rfl | assumption) _ (by first | rfl | assumption))
      · refine D.run 6 rfl ?_
        refine D.gd fun hg => ?_
        refine D.st rfl (by decide) (al_i (by decide) (by first | rfl | decide) hg.1 hg.2) ?_
        refine D.run 4 rfl ?_
        exact ih _ _ _  (by first | rfl | assumption)
def l259_242 (Q : Nat) (b3 : Int32) (b4 : Int32) (b5 : Int32) : Nat → Int32 → St → Option (St)
  | 0, _, _ => none
  | n + 1, b6, I => if 16 ≤ b6 then some I else (if b4 ≤ b6 then some 0 else if inb (b5 + b6) 384 then some (I 198 (b5 + b6).toNatClampNeg) else none).bind fun (q14 : Int32) => if inb ((16 * (I 82 55)) + b6) 384 then if b4 ≤ b6 then if inb ((16 * (I 82 55)) + b6) 384 then Lt (up2 (up2 I 196 ((16 * (I 82 55)) + b6).toNatClampNeg q14) 197 ((16 * (I 82 55)) + b6).toNatClampNeg 0) fun J15 => l259_242 Q b3 b4 b5 n (b6 + 1) J15 else none else if inb (b5 + b6) 384 then if inb ((16 * (I 82 55)) + b6) 384 then Lt (up2 (up2 I 196 ((16 * (I 82 55)) + b6).toNatClampNeg q14) 197 ((16 * (I 82 55)) + b6).toNatClampNeg ((up2 I 196 ((16 * (I 82 55)) + b6).toNatClampNeg q14) 199 (b5 + b6).toNatClampNeg)) fun J16 => l259_242 Q b3 b4 b5 n (b6 + 1) J16 else none else none else none
set_option maxRecDepth 20000 in
set_option maxHeartbeats 30000000 in
theorem l259_242_ok {E : Xe} {R : Nat → Nat → Option Nat} {Q : Nat} {o : Outcome} {w : Wd} {T : (St) → Prop} {b3 : Int32} {b4 : Int32} {b5 : Int32} (hQ : Q = 85 ∨ Q = 126) (h82_3 : R 82 3 = some Q) (K : ∀ (q : St) (e1 : Value) (_ : is1 e1 = true) (e2 : Value) (_ : is1 e2 = true) (e4 : Value) (_ : is1 e4 = true) (e5 : Value) (_ : is1 e5 = true) (e6 : Value) (_ : is1 e6 = true) (e7 : Value) (_ : is1 e7 = true) (e8 : Value) (_ : is1 e8 = true), T q → Rn E 259 (327, [.ref 82, e1, e2, .int b3, e4, e5, e6, e7, e8], [], wT q R) o w) : ∀ (n : Nat) (b6 : Int32) (d1 : Value) (d2 : Value) (d7 : Value) (d8 : Value) (I : St), is1 d1 = true → is1 d2 = true → is1 d7 = true → is1 d8 = true → Dq (l259_242 Q b3 b4 b5 n b6 I) T → Rn E 259 (242, [.ref 82, d1, d2, .int b3, .int b4, .int b5, .int b6, d7, d8], [], wT I R) o w := by
  rcases hQ with rfl | rfl
  · intro n
    induction n with
    | zero => intro b6 d1 d2 d7 d8 I hd1 hd2 hd7 hd8; exact D.none
    | succ n ih =>
      intro b6 d1 d2 d7 d8 I hd1 hd2 hd7 hd8
      rw [l259_242]
      refine D.run 2 rfl ?_
      refine D.br rfl (by decide) rfl (fun hc => ?_) (fun hc => ?_)
      · exact fun h => D.to h (K _ _ (by first | rfl | assumption) _ (by first | rfl | assumption) _ (by first | rfl | assumption) _ (by first | rfl | assumption) _ (by first | rfl | assumption) _ (by first | rfl | assumption) _ (by first | rfl | assumption))
      · refine D.run 10 rfl ?_
        have Kj284 : ∀ (q14 : Int32), Dq (if inb ((16 * (I 82 55)) + b6) 384 then if b4 ≤ b6 then if inb ((16 * (I 82 55)) + b6) 384 then Lt (up2 (up2 I 196 ((16 * (I 82 55)) + b6).toNatClampNeg q14) 197 ((16 * (I 82 55)) + b6).toNatClampNeg 0) fun J15 => l259_242 85 b3 b4 b5 n (b6 + 1) J15 else none else if inb (b5 + b6) 384 then if inb ((16 * (I 82 55)) + b6) 384 then Lt (up2 (up2 I 196 ((16 * (I 82 55)) + b6).toNatClampNeg q14) 197 ((16 * (I 82 55)) + b6).toNatClampNeg ((up2 I 196 ((16 * (I 82 55)) + b6).toNatClampNeg q14) 199 (b5 + b6).toNatClampNeg)) fun J16 => l259_242 85 b3 b4 b5 n (b6 + 1) J16 else none else none else none) T → Rn E 259 (284, [.ref 82, d1, d2, .int b3, .int b4, .int b5, .int b6, d7, d8], [.int q14, .int ((16 * (I 82 55)) + b6), .ref 196], wT I R) o w := by
          intro q14
          refine D.gd fun hg => ?_
          refine D.st rfl (by decide) (as_i (by decide) (by first | rfl | decide) hg.1 hg.2) ?_
          refine D.run 10 rfl ?_
          refine D.br rfl (by decide) rfl (fun hc => ?_) (fun hc => ?_)
          · refine D.run 1 rfl ?_
            refine D.gd fun hg => ?_
            refine D.st rfl (by decide) (as_i (by decide) (by first | rfl | decide) hg.1 hg.2) ?_
            refine D.letS (fun J15 => ?_)
            refine D.run 2 rfl ?_
            exact ih _ _ _ _ _ _ (by first | rfl | assumption) (by first | rfl | assumption) (by first | rfl | assumption) (by first | rfl | assumption)
          · refine D.run 5 rfl ?_
            refine D.gd fun hg => ?_
            refine D.st rfl (by decide) (al_i (by decide) (by first | rfl | decide) hg.1 hg.2) ?_
            refine D.run 1 rfl ?_
            refine D.gd fun hg => ?_
            refine D.st rfl (by decide) (as_i (by decide) (by first | rfl | decide) hg.1 hg.2) ?_
            refine D.letS (fun J16 => ?_)
            show _ → Rn E 259 (321, [.ref 82, d1, d2, .int b3, .int b4, .int b5, .int b6, d7, d8], [], wT J16 R) o w
            refine D.run 2 rfl ?_
            exact ih _ _ _ _ _ _ (by first | rfl | assumption) (by first | rfl | assumption) (by first | rfl | assumption) (by first | rfl | assumption)
        refine D.jn (fun T284 c284 => ?_)
        refine D.br rfl (by decide) rfl (fun hc => ?_) (fun hc => ?_)
        · refine D.run 1 rfl ?_
          exact fun h => Kj284 _   (c284 _ (D.some h))
        · refine D.run 5 rfl ?_
          refine D.gd fun hg => ?_
          refine D.st rfl (by decide) (al_i (by decide) (by first | rfl | decide) hg.1 hg.2) ?_
          refine D.run 1 rfl ?_
          exact fun h => Kj284 _   (c284 _ (D.some h))
  · intro n
    induction n with
    | zero => intro b6 d1 d2 d7 d8 I hd1 hd2 hd7 hd8; exact D.none
    | succ n ih =>
      intro b6 d1 d2 d7 d8 I hd1 hd2 hd7 hd8
      rw [l259_242]
      refine D.run 2 rfl ?_
      refine D.br rfl (by decide) rfl (fun hc => ?_) (fun hc => ?_)
      · exact fun h => D.to h (K _ _ (by first | rfl | assumption) _ (by first | rfl | assumption) _ (by first | rfl | assumption) _ (by first | rfl | assumption) _ (by first | rfl | assumption) _ (by first | rfl | assumption) _ (by first | rfl | assumption))
      · refine D.run 10 rfl ?_
        have Kj284 : ∀ (q14 : Int32), Dq (if inb ((16 * (I 82 55)) + b6) 384 then if b4 ≤ b6 then if inb ((16 * (I 82 55)) + b6) 384 then Lt (up2 (up2 I 196 ((16 * (I 82 55)) + b6).toNatClampNeg q14) 197 ((16 * (I 82 55)) + b6).toNatClampNeg 0) fun J15 => l259_242 126 b3 b4 b5 n (b6 + 1) J15 else none else if inb (b5 + b6) 384 then if inb ((16 * (I 82 55)) + b6) 384 then Lt (up2 (up2 I 196 ((16 * (I 82 55)) + b6).toNatClampNeg q14) 197 ((16 * (I 82 55)) + b6).toNatClampNeg ((up2 I 196 ((16 * (I 82 55)) + b6).toNatClampNeg q14) 199 (b5 + b6).toNatClampNeg)) fun J16 => l259_242 126 b3 b4 b5 n (b6 + 1) J16 else none else none else none) T → Rn E 259 (284, [.ref 82, d1, d2, .int b3, .int b4, .int b5, .int b6, d7, d8], [.int q14, .int ((16 * (I 82 55)) + b6), .ref 196], wT I R) o w := by
          intro q14
          refine D.gd fun hg => ?_
          refine D.st rfl (by decide) (as_i (by decide) (by first | rfl | decide) hg.1 hg.2) ?_
          refine D.run 10 rfl ?_
          refine D.br rfl (by decide) rfl (fun hc => ?_) (fun hc => ?_)
          · refine D.run 1 rfl ?_
            refine D.gd fun hg => ?_
            refine D.st rfl (by decide) (as_i (by decide) (by first | rfl | decide) hg.1 hg.2) ?_
            refine D.letS (fun J15 => ?_)
            refine D.run 2 rfl ?_
            exact ih _ _ _ _ _ _ (by first | rfl | assumption) (by first | rfl | assumption) (by first | rfl | assumption) (by first | rfl | assumption)
          · refine D.run 5 rfl ?_
            refine D.gd fun hg => ?_
            refine D.st rfl (by decide) (al_i (by decide) (by first | rfl | decide) hg.1 hg.2) ?_
            refine D.run 1 rfl ?_
            refine D.gd fun hg => ?_
            refine D.st rfl (by decide) (as_i (by decide) (by first | rfl | decide) hg.1 hg.2) ?_
            refine D.letS (fun J16 => ?_)
            show _ → Rn E 259 (321, [.ref 82, d1, d2, .int b3, .int b4, .int b5, .int b6, d7, d8], [], wT J16 R) o w
            refine D.run 2 rfl ?_
            exact ih _ _ _ _ _ _ (by first | rfl | assumption) (by first | rfl | assumption) (by first | rfl | assumption) (by first | rfl | assumption)
        refine D.jn (fun T284 c284 => ?_)
        refine D.br rfl (by decide) rfl (fun hc => ?_) (fun hc => ?_)
        · refine D.run 1 rfl ?_
          exact fun h => Kj284 _   (c284 _ (D.some h))
        · refine D.run 5 rfl ?_
          refine D.gd fun hg => ?_
          refine D.st rfl (by decide) (al_i (by decide) (by first | rfl | decide) hg.1 hg.2) ?_
          refine D.run 1 rfl ?_
          exact fun h => Kj284 _   (c284 _ (D.some h))
def x259 (Q : Nat) (I : St) (a1 a2 : Int32) : Option (St) := if inb a1 2400 then if inb (I (Q + 27) a1.toNatClampNeg) 24 then (if a2 = 50 then some 1 else some 0).bind fun (q1 : Int32) => Lt (((16 * (I 82 55)) + (I 82 65)) - ((I (Q + 18) (I (Q + 27) a1.toNatClampNeg).toNatClampNeg) + q1)) fun v2 => if a2 = 50 then if inb v2 384 then (l259_71 Q a1 (I (Q + 27) a1.toNatClampNeg) ((I (Q + 18) (I (Q + 27) a1.toNatClampNeg).toNatClampNeg) + q1) v2 (I 198 v2.toNatClampNeg) 100000 0 0 I).bind fun q3 => if (I 198 v2.toNatClampNeg) = 0 then (if (I 198 v2.toNatClampNeg) = 0 then some 2 else some 6).bind fun (q6 : Int32) => (x243 Q I q6 q3).bind fun q7 => some q7 else if inb a1 2400 then (x254 Q I (I 198 v2.toNatClampNeg) (I (Q + 33) a1.toNatClampNeg)).bind fun q8 => if q8 = 0 then (if (I 198 v2.toNatClampNeg) = 0 then some 2 else some 6).bind fun (q9 : Int32) => (x243 Q I q9 q3).bind fun q10 => some q10 else if inb ((I 198 v2.toNatClampNeg) - 1) 3001 then if inb (I (Q + 27) a1.toNatClampNeg) 24 then (x219 Q I (I 181 ((I 198 v2.toNatClampNeg) - 1).toNatClampNeg) (I (Q + 16) (I (Q + 27) a1.toNatClampNeg).toNatClampNeg) 1).bind fun q11 => if (I 82 55) = 23 then some (up2 I 82 34 5) else Lt (up2 I 82 65 ((I 82 65) - ((I (Q + 18) (I (Q + 27) a1.toNatClampNeg).toNatClampNeg) + q1))) fun J12 => if inb (J12 82 55) 24 then if inb (J12 82 55) 24 then if inb (J12 82 55) 24 then Lt (up2 (up2 (up2 J12 193 (J12 82 55).toNatClampNeg (J12 82 63)) 194 (J12 82 55).toNatClampNeg a1) 195 (J12 82 55).toNatClampNeg (J12 82 65)) fun J13 => (l259_242 Q q11 ((I (Q + 18) (I (Q + 27) a1.toNatClampNeg).toNatClampNeg) + q1) v2 100000 0 (up2 J13 82 55 ((J13 82 55) + 1))).bind fun q17 => if inb q11 24 then Lt (up2 (up2 (up2 q17 82 63 q11) 82 64 ((up2 q17 82 63 q11) (Q + 21) q11.toNatClampNeg)) 82 65 0) fun J25 => some J25 else none else none else none else none else none else none else none else none else if (I 82 55) = 23 then some (up2 I 82 34 5) else Lt (up2 I 82 65 ((I 82 65) - ((I (Q + 18) (I (Q + 27) a1.toNatClampNeg).toNatClampNeg) + q1))) fun J26 => if inb (J26 82 55) 24 then if inb (J26 82 55) 24 then if inb (J26 82 55) 24 then Lt (up2 (up2 (up2 J26 193 (J26 82 55).toNatClampNeg (J26 82 63)) 194 (J26 82 55).toNatClampNeg a1) 195 (J26 82 55).toNatClampNeg (J26 82 65)) fun J27 => (l259_242 Q (I (Q + 27) a1.toNatClampNeg) ((I (Q + 18) (I (Q + 27) a1.toNatClampNeg).toNatClampNeg) + q1) v2 100000 0 (up2 J27 82 55 ((J27 82 55) + 1))).bind fun q28 => if inb (I (Q + 27) a1.toNatClampNeg) 24 then Lt (up2 (up2 q28 82 63 (I (Q + 27) a1.toNatClampNeg)) 82 64 ((up2 q28 82 63 (I (Q + 27) a1.toNatClampNeg)) (Q + 21) (I (Q + 27) a1.toNatClampNeg).toNatClampNeg)) fun J36 => some (up2 J36 82 65 0) else none else none else none else none else none else none
set_option maxRecDepth 20000 in
set_option maxHeartbeats 30000000 in
theorem x259_D {E : Xe} {R : Nat → Nat → Option Nat} {Q : Nat} {o : Outcome} {w : Wd} {T : (St) → Prop} {I : St} (hQ : Q = 85 ∨ Q = 126) (h82_3 : R 82 3 = some Q) (a1 a2 : Int32) (hT : ∀ r, T r → o = .returned none ∧ w = wT r R) : Dq (x259 Q I a1 a2) T → Rn E 259 (0, loc0 259 [.ref 82, .int a1, .int a2], [], wT I R) o w := by
  unfold x259
  rcases hQ with rfl | rfl
  · refine D.run 1 rfl ?_
    refine D.st rfl (by decide) (gf_1 h82_3) ?_
    refine D.run 2 rfl ?_
    refine D.gd fun hg => ?_
    refine D.st rfl (by decide) (al_i (by decide) (by first | rfl | decide) hg.1 hg.2) ?_
    show _ → Rn E 259 (9, [.ref 82, .int a1, .int a2, us, us, us, us, us, us], [.int (I (85 + 27) a1.toNatClampNeg)], wT I R) o w
    refine D.run 2 rfl ?_
    refine D.st rfl (by decide) (gf_1 h82_3) ?_
    refine D.run 2 rfl ?_
    refine D.gd fun hg => ?_
    refine D.st rfl (by decide) (al_i (by decide) (by first | rfl | decide) hg.1 hg.2) ?_
    show _ → Rn E 259 (19, [.ref 82, .int a1, .int a2, .int (I (85 + 27) a1.toNatClampNeg), us, us, us, us, us], [.int (I (85 + 18) (I (85 + 27) a1.toNatClampNeg).toNatClampNeg)], wT I R) o w
    refine D.run 2 rfl ?_
    have Kj30 : ∀ (q1 : Int32), Dq (Lt (((16 * (I 82 55)) + (I 82 65)) - ((I (85 + 18) (I (85 + 27) a1.toNatClampNeg).toNatClampNeg) + q1)) fun v2 => if a2 = 50 then if inb v2 384 then (l259_71 85 a1 (I (85 + 27) a1.toNatClampNeg) ((I (85 + 18) (I (85 + 27) a1.toNatClampNeg).toNatClampNeg) + q1) v2 (I 198 v2.toNatClampNeg) 100000 0 0 I).bind fun q3 => if (I 198 v2.toNatClampNeg) = 0 then (if (I 198 v2.toNatClampNeg) = 0 then some 2 else some 6).bind fun (q6 : Int32) => (x243 85 I q6 q3).bind fun q7 => some q7 else if inb a1 2400 then (x254 85 I (I 198 v2.toNatClampNeg) (I (85 + 33) a1.toNatClampNeg)).bind fun q8 => if q8 = 0 then (if (I 198 v2.toNatClampNeg) = 0 then some 2 else some 6).bind fun (q9 : Int32) => (x243 85 I q9 q3).bind fun q10 => some q10 else if inb ((I 198 v2.toNatClampNeg) - 1) 3001 then if inb (I (85 + 27) a1.toNatClampNeg) 24 then (x219 85 I (I 181 ((I 198 v2.toNatClampNeg) - 1).toNatClampNeg) (I (85 + 16) (I (85 + 27) a1.toNatClampNeg).toNatClampNeg) 1).bind fun q11 => if (I 82 55) = 23 then some (up2 I 82 34 5) else Lt (up2 I 82 65 ((I 82 65) - ((I (85 + 18) (I (85 + 27) a1.toNatClampNeg).toNatClampNeg) + q1))) fun J12 => if inb (J12 82 55) 24 then if inb (J12 82 55) 24 then if inb (J12 82 55) 24 then Lt (up2 (up2 (up2 J12 193 (J12 82 55).toNatClampNeg (J12 82 63)) 194 (J12 82 55).toNatClampNeg a1) 195 (J12 82 55).toNatClampNeg (J12 82 65)) fun J13 => (l259_242 85 q11 ((I (85 + 18) (I (85 + 27) a1.toNatClampNeg).toNatClampNeg) + q1) v2 100000 0 (up2 J13 82 55 ((J13 82 55) + 1))).bind fun q17 => if inb q11 24 then Lt (up2 (up2 (up2 q17 82 63 q11) 82 64 ((up2 q17 82 63 q11) (85 + 21) q11.toNatClampNeg)) 82 65 0) fun J25 => some J25 else none else none else none else none else none else none else none else none else if (I 82 55) = 23 then some (up2 I 82 34 5) else Lt (up2 I 82 65 ((I 82 65) - ((I (85 + 18) (I (85 + 27) a1.toNatClampNeg).toNatClampNeg) + q1))) fun J26 => if inb (J26 82 55) 24 then if inb (J26 82 55) 24 then if inb (J26 82 55) 24 then Lt (up2 (up2 (up2 J26 193 (J26 82 55).toNatClampNeg (J26 82 63)) 194 (J26 82 55).toNatClampNeg a1) 195 (J26 82 55).toNatClampNeg (J26 82 65)) fun J27 => (l259_242 85 (I (85 + 27) a1.toNatClampNeg) ((I (85 + 18) (I (85 + 27) a1.toNatClampNeg).toNatClampNeg) + q1) v2 100000 0 (up2 J27 82 55 ((J27 82 55) + 1))).bind fun q28 => if inb (I (85 + 27) a1.toNatClampNeg) 24 then Lt (up2 (up2 q28 82 63 (I (85 + 27) a1.toNatClampNeg)) 82 64 ((up2 q28 82 63 (I (85 + 27) a1.toNatClampNeg)) (85 + 21) (I (85 + 27) a1.toNatClampNeg).toNatClampNeg)) fun J36 => some (up2 J36 82 65 0) else none else none else none else none) T → Rn E 259 (30, [.ref 82, .int a1, .int a2, .int (I (85 + 27) a1.toNatClampNeg), us, us, us, us, us], [.int q1, .int (I (85 + 18) (I (85 + 27) a1.toNatClampNeg).toNatClampNeg)], wT I R) o w := by
      intro q1
      refine D.run 12 rfl ?_
      refine D.letV (frame := fun v2 => (50, [.ref 82, .int a1, .int a2, .int (I (85 + 27) a1.toNatClampNeg), .int ((I (85 + 18) (I (85 + 27) a1.toNatClampNeg).toNatClampNeg) + q1), .int v2, us, us, us], [], wT I R)) (fun v2 => ?_)
      refine D.run 2 rfl ?_
      refine D.br rfl (by decide) rfl (fun hc => ?_) (fun hc => ?_)
      · refine D.run 3 rfl ?_
        refine D.gd fun hg => ?_
        refine D.st rfl (by decide) (al_i (by decide) (by first | rfl | decide) hg.1 hg.2) ?_
        refine D.run 5 rfl ?_
        refine D.bind (l259_71_ok (by decide) h82_3 (fun q3 e4 he4 e5 he5 => ?_) 100000 _ _ _  (by first | rfl | assumption))
        refine D.run 1 rfl ?_
        refine D.br rfl (by decide) rfl (fun hc => ?_) (fun hc => ?_)
        · refine D.run 2 rfl ?_
          have Kj134 : ∀ (q6 : Int32), Dq ((x243 85 I q6 q3).bind fun q7 => some q7) T → Rn E 259 (134, [.ref 82, .int a1, e4, .int (I (85 + 27) a1.toNatClampNeg), .int ((I (85 + 18) (I (85 + 27) a1.toNatClampNeg).toNatClampNeg) + q1), .int v2, .int (I 198 v2.toNatClampNeg), .int q3, e5], [.int q6, .ref 82], wT I R) o w := by
            intro q6
            refine D.run 1 rfl ?_
            refine D.call rfl rfl rfl rfl (fun q h => x243_ok (by decide) h82_3 h) (fun q7 => ?_)
            exact fun h => by obtain ⟨rfl, rfl⟩ := hT _ (D.some h); exact Rn.ret rfl rfl rfl
          refine D.jn (fun T134 c134 => ?_)
          refine D.br rfl (by decide) rfl (fun hc => ?_) (fun hc => ?_)
          · refine D.run 2 rfl ?_
            exact fun h => Kj134 _   (c134 _ (D.some h))
          · refine D.run 1 rfl ?_
            exact fun h => Kj134 _   (c134 _ (D.some h))
        · refine D.run 3 rfl ?_
          refine D.st rfl (by decide) (gf_1 h82_3) ?_
          refine D.run 2 rfl ?_
          refine D.gd fun hg => ?_
          refine D.st rfl (by decide) (al_i (by decide) (by first | rfl | decide) hg.1 hg.2) ?_
          show _ → Rn E 259 (116, [.ref 82, .int a1, e4, .int (I (85 + 27) a1.toNatClampNeg), .int ((I (85 + 18) (I (85 + 27) a1.toNatClampNeg).toNatClampNeg) + q1), .int v2, .int (I 198 v2.toNatClampNeg), .int q3, e5], [.int (I (85 + 33) a1.toNatClampNeg), .int (I 198 v2.toNatClampNeg), .ref 82], wT I R) o w
          refine D.call rfl rfl rfl rfl (fun q h => x254_ok (by decide) h82_3 h) (fun q8 => ?_)
          refine D.br rfl (by decide) rfl (fun hc => ?_) (fun hc => ?_)
          · refine D.run 2 rfl ?_
            have Kj134 : ∀ (q9 : Int32), Dq ((x243 85 I q9 q3).bind fun q10 => some q10) T → Rn E 259 (134, [.ref 82, .int a1, e4, .int (I (85 + 27) a1.toNatClampNeg), .int ((I (85 + 18) (I (85 + 27) a1.toNatClampNeg).toNatClampNeg) + q1), .int v2, .int (I 198 v2.toNatClampNeg), .int q3, e5], [.int q9, .ref 82], wT I R) o w := by
              intro q9
              refine D.run 1 rfl ?_
              refine D.call rfl rfl rfl rfl (fun q h => x243_ok (by decide) h82_3 h) (fun q10 => ?_)
              exact fun h => by obtain ⟨rfl, rfl⟩ := hT _ (D.some h); exact Rn.ret rfl rfl rfl
            refine D.jn (fun T134 c134 => ?_)
            refine D.br rfl (by decide) rfl (fun hc => ?_) (fun hc => ?_)
            · refine D.run 2 rfl ?_
              exact fun h => Kj134 _   (c134 _ (D.some h))
            · refine D.run 1 rfl ?_
              exact fun h => Kj134 _   (c134 _ (D.some h))
          · refine D.run 1 rfl ?_
            refine D.st rfl (by decide) (gf_1 h82_3) ?_
            refine D.run 5 rfl ?_
            refine D.gd fun hg => ?_
            refine D.st rfl (by decide) (al_i (by decide) (by first | rfl | decide) hg.1 hg.2) ?_
            show _ → Rn E 259 (153, [.ref 82, .int a1, e4, .int (I (85 + 27) a1.toNatClampNeg), .int ((I (85 + 18) (I (85 + 27) a1.toNatClampNeg).toNatClampNeg) + q1), .int v2, .int (I 198 v2.toNatClampNeg), .int q3, e5], [.int (I 181 ((I 198 v2.toNatClampNeg) - 1).toNatClampNeg), .ref 85], wT I R) o w
            refine D.run 1 rfl ?_
            refine D.st rfl (by decide) (gf_1 h82_3) ?_
            refine D.run 2 rfl ?_
            refine D.gd fun hg => ?_
            refine D.st rfl (by decide) (al_i (by decide) (by first | rfl | decide) hg.1 hg.2) ?_
            show _ → Rn E 259 (162, [.ref 82, .int a1, e4, .int (I (85 + 27) a1.toNatClampNeg), .int ((I (85 + 18) (I (85 + 27) a1.toNatClampNeg).toNatClampNeg) + q1), .int v2, .int (I 198 v2.toNatClampNeg), .int q3, e5], [.int (I (85 + 16) (I (85 + 27) a1.toNatClampNeg).toNatClampNeg), .int (I 181 ((I 198 v2.toNatClampNeg) - 1).toNatClampNeg), .ref 85], wT I R) o w
            refine D.run 1 rfl ?_
            refine D.call rfl rfl rfl rfl (fun q h => x219_ok (by decide) h) (fun q11 => ?_)
            refine D.st rfl (by decide) (istn_d rfl (by first | rfl | assumption) rfl) ?_
            refine D.run 3 rfl ?_
            refine D.br rfl (by decide) rfl (fun hc => ?_) (fun hc => ?_)
            · refine D.run 3 rfl ?_
              exact fun h => by obtain ⟨rfl, rfl⟩ := hT _ (D.some h); exact Rn.ret rfl rfl rfl
            · refine D.run 6 rfl ?_
              refine D.letS (fun J12 => ?_)
              refine D.run 6 rfl ?_
              refine D.gd fun hg => ?_
              refine D.st rfl (by decide) (as_i (by decide) (by first | rfl | decide) hg.1 hg.2) ?_
              show _ → Rn E 259 (206, [.ref 82, .int a1, e4, .int q11, .int ((I (85 + 18) (I (85 + 27) a1.toNatClampNeg).toNatClampNeg) + q1), .int v2, .int (I 198 v2.toNatClampNeg), .int q3, e5], [], wT (up2 J12 193 (J12 82 55).toNatClampNeg (J12 82 63)) R) o w
              refine D.run 5 rfl ?_
              refine D.gd fun hg => ?_
              refine D.st rfl (by decide) (as_i (by decide) (by first | rfl | decide) hg.1 hg.2) ?_
              refine D.run 6 rfl ?_
              refine D.gd fun hg => ?_
              refine D.st rfl (by decide) (as_i (by decide) (by first | rfl | decide) hg.1 hg.2) ?_
              refine D.letS (fun J13 => ?_)
              show _ → Rn E 259 (229, [.ref 82, .int a1, e4, .int q11, .int ((I (85 + 18) (I (85 + 27) a1.toNatClampNeg).toNatClampNeg) + q1), .int v2, .int (I 198 v2.toNatClampNeg), .int q3, e5], [], wT J13 R) o w
              refine D.run 8 rfl ?_
              refine D.bind (l259_242_ok (by decide) h82_3 (fun q17 e18 he18 e19 he19 e20 he20 e21 he21 e22 he22 e23 he23 e24 he24 => ?_) 100000 _ _ _ _ _ _ (by first | rfl | assumption) (by first | rfl | assumption) (by first | rfl | assumption) (by first | rfl | assumption))
              refine D.run 5 rfl ?_
              refine D.st rfl (by decide) (gf_1 h82_3) ?_
              refine D.run 3 rfl ?_
              refine D.gd fun hg => ?_
              refine D.st rfl (by decide) (al_i (by decide) (by first | rfl | decide) hg.1 hg.2) ?_
              show _ → Rn E 259 (345, [.ref 82, e18, e19, .int q11, e20, e21, e22, e23, e24], [.int ((up2 q17 82 63 q11) (85 + 21) q11.toNatClampNeg), .ref 82], wT (up2 q17 82 63 q11) R) o w
              refine D.run 4 rfl ?_
              refine D.letS (fun J25 => ?_)
              exact fun h => by obtain ⟨rfl, rfl⟩ := hT _ (D.some h); exact Rn.ret rfl rfl rfl
      · refine D.run 3 rfl ?_
        refine D.br rfl (by decide) rfl (fun hc => ?_) (fun hc => ?_)
        · refine D.run 3 rfl ?_
          exact fun h => by obtain ⟨rfl, rfl⟩ := hT _ (D.some h); exact Rn.ret rfl rfl rfl
        · refine D.run 6 rfl ?_
          refine D.letS (fun J26 => ?_)
          refine D.run 6 rfl ?_
          refine D.gd fun hg => ?_
          refine D.st rfl (by decide) (as_i (by decide) (by first | rfl | decide) hg.1 hg.2) ?_
          show _ → Rn E 259 (206, [.ref 82, .int a1, .int a2, .int (I (85 + 27) a1.toNatClampNeg), .int ((I (85 + 18) (I (85 + 27) a1.toNatClampNeg).toNatClampNeg) + q1), .int v2, us, us, us], [], wT (up2 J26 193 (J26 82 55).toNatClampNeg (J26 82 63)) R) o w
          refine D.run 5 rfl ?_
          refine D.gd fun hg => ?_
          refine D.st rfl (by decide) (as_i (by decide) (by first | rfl | decide) hg.1 hg.2) ?_
          refine D.run 6 rfl ?_
          refine D.gd fun hg => ?_
          refine D.st rfl (by decide) (as_i (by decide) (by first | rfl | decide) hg.1 hg.2) ?_
          refine D.letS (fun J27 => ?_)
          show _ → Rn E 259 (229, [.ref 82, .int a1, .int a2, .int (I (85 + 27) a1.toNatClampNeg), .int ((I (85 + 18) (I (85 + 27) a1.toNatClampNeg).toNatClampNeg) + q1), .int v2, us, us, us], [], wT J27 R) o w
          refine D.run 8 rfl ?_
          refine D.bind (l259_242_ok (by decide) h82_3 (fun q28 e29 he29 e30 he30 e31 he31 e32 he32 e33 he33 e34 he34 e35 he35 => ?_) 100000 _ _ _ _ _ _ (by first | rfl | assumption) (by first | rfl | assumption) (by first | rfl | assumption) (by first | rfl | assumption))
          refine D.run 5 rfl ?_
          refine D.st rfl (by decide) (gf_1 h82_3) ?_
          refine D.run 3 rfl ?_
          refine D.gd fun hg => ?_
          refine D.st rfl (by decide) (al_i (by decide) (by first | rfl | decide) hg.1 hg.2) ?_
          show _ → Rn E 259 (345, [.ref 82, e29, e30, .int (I (85 + 27) a1.toNatClampNeg), e31, e32, e33, e34, e35], [.int ((up2 q28 82 63 (I (85 + 27) a1.toNatClampNeg)) (85 + 21) (I (85 + 27) a1.toNatClampNeg).toNatClampNeg), .ref 82], wT (up2 q28 82 63 (I (85 + 27) a1.toNatClampNeg)) R) o w
          refine D.run 1 rfl ?_
          refine D.letS (fun J36 => ?_)
          refine D.run 3 rfl ?_
          exact fun h => by obtain ⟨rfl, rfl⟩ := hT _ (D.some h); exact Rn.ret rfl rfl rfl
    refine D.jn (fun T30 c30 => ?_)
    refine D.br rfl (by decide) rfl (fun hc => ?_) (fun hc => ?_)
    · refine D.run 2 rfl ?_
      exact fun h => Kj30 _   (c30 _ (D.some h))
    · refine D.run 1 rfl ?_
      exact fun h => Kj30 _   (c30 _ (D.some h))
  · refine D.run 1 rfl ?_
    refine D.st rfl (by decide) (gf_1 h82_3) ?_
    refine D.run 2 rfl ?_
    refine D.gd fun hg => ?_
    refine D.st rfl (by decide) (al_i (by decide) (by first | rfl | decide) hg.1 hg.2) ?_
    show _ → Rn E 259 (9, [.ref 82, .int a1, .int a2, us, us, us, us, us, us], [.int (I (126 + 27) a1.toNatClampNeg)], wT I R) o w
    refine D.run 2 rfl ?_
    refine D.st rfl (by decide) (gf_1 h82_3) ?_
    refine D.run 2 rfl ?_
    refine D.gd fun hg => ?_
    refine D.st rfl (by decide) (al_i (by decide) (by first | rfl | decide) hg.1 hg.2) ?_
    show _ → Rn E 259 (19, [.ref 82, .int a1, .int a2, .int (I (126 + 27) a1.toNatClampNeg), us, us, us, us, us], [.int (I (126 + 18) (I (126 + 27) a1.toNatClampNeg).toNatClampNeg)], wT I R) o w
    refine D.run 2 rfl ?_
    have Kj30 : ∀ (q1 : Int32), Dq (Lt (((16 * (I 82 55)) + (I 82 65)) - ((I (126 + 18) (I (126 + 27) a1.toNatClampNeg).toNatClampNeg) + q1)) fun v2 => if a2 = 50 then if inb v2 384 then (l259_71 126 a1 (I (126 + 27) a1.toNatClampNeg) ((I (126 + 18) (I (126 + 27) a1.toNatClampNeg).toNatClampNeg) + q1) v2 (I 198 v2.toNatClampNeg) 100000 0 0 I).bind fun q3 => if (I 198 v2.toNatClampNeg) = 0 then (if (I 198 v2.toNatClampNeg) = 0 then some 2 else some 6).bind fun (q6 : Int32) => (x243 126 I q6 q3).bind fun q7 => some q7 else if inb a1 2400 then (x254 126 I (I 198 v2.toNatClampNeg) (I (126 + 33) a1.toNatClampNeg)).bind fun q8 => if q8 = 0 then (if (I 198 v2.toNatClampNeg) = 0 then some 2 else some 6).bind fun (q9 : Int32) => (x243 126 I q9 q3).bind fun q10 => some q10 else if inb ((I 198 v2.toNatClampNeg) - 1) 3001 then if inb (I (126 + 27) a1.toNatClampNeg) 24 then (x219 126 I (I 181 ((I 198 v2.toNatClampNeg) - 1).toNatClampNeg) (I (126 + 16) (I (126 + 27) a1.toNatClampNeg).toNatClampNeg) 1).bind fun q11 => if (I 82 55) = 23 then some (up2 I 82 34 5) else Lt (up2 I 82 65 ((I 82 65) - ((I (126 + 18) (I (126 + 27) a1.toNatClampNeg).toNatClampNeg) + q1))) fun J12 => if inb (J12 82 55) 24 then if inb (J12 82 55) 24 then if inb (J12 82 55) 24 then Lt (up2 (up2 (up2 J12 193 (J12 82 55).toNatClampNeg (J12 82 63)) 194 (J12 82 55).toNatClampNeg a1) 195 (J12 82 55).toNatClampNeg (J12 82 65)) fun J13 => (l259_242 126 q11 ((I (126 + 18) (I (126 + 27) a1.toNatClampNeg).toNatClampNeg) + q1) v2 100000 0 (up2 J13 82 55 ((J13 82 55) + 1))).bind fun q17 => if inb q11 24 then Lt (up2 (up2 (up2 q17 82 63 q11) 82 64 ((up2 q17 82 63 q11) (126 + 21) q11.toNatClampNeg)) 82 65 0) fun J25 => some J25 else none else none else none else none else none else none else none else none else if (I 82 55) = 23 then some (up2 I 82 34 5) else Lt (up2 I 82 65 ((I 82 65) - ((I (126 + 18) (I (126 + 27) a1.toNatClampNeg).toNatClampNeg) + q1))) fun J26 => if inb (J26 82 55) 24 then if inb (J26 82 55) 24 then if inb (J26 82 55) 24 then Lt (up2 (up2 (up2 J26 193 (J26 82 55).toNatClampNeg (J26 82 63)) 194 (J26 82 55).toNatClampNeg a1) 195 (J26 82 55).toNatClampNeg (J26 82 65)) fun J27 => (l259_242 126 (I (126 + 27) a1.toNatClampNeg) ((I (126 + 18) (I (126 + 27) a1.toNatClampNeg).toNatClampNeg) + q1) v2 100000 0 (up2 J27 82 55 ((J27 82 55) + 1))).bind fun q28 => if inb (I (126 + 27) a1.toNatClampNeg) 24 then Lt (up2 (up2 q28 82 63 (I (126 + 27) a1.toNatClampNeg)) 82 64 ((up2 q28 82 63 (I (126 + 27) a1.toNatClampNeg)) (126 + 21) (I (126 + 27) a1.toNatClampNeg).toNatClampNeg)) fun J36 => some (up2 J36 82 65 0) else none else none else none else none) T → Rn E 259 (30, [.ref 82, .int a1, .int a2, .int (I (126 + 27) a1.toNatClampNeg), us, us, us, us, us], [.int q1, .int (I (126 + 18) (I (126 + 27) a1.toNatClampNeg).toNatClampNeg)], wT I R) o w := by
      intro q1
      refine D.run 12 rfl ?_
      refine D.letV (frame := fun v2 => (50, [.ref 82, .int a1, .int a2, .int (I (126 + 27) a1.toNatClampNeg), .int ((I (126 + 18) (I (126 + 27) a1.toNatClampNeg).toNatClampNeg) + q1), .int v2, us, us, us], [], wT I R)) (fun v2 => ?_)
      refine D.run 2 rfl ?_
      refine D.br rfl (by decide) rfl (fun hc => ?_) (fun hc => ?_)
      · refine D.run 3 rfl ?_
        refine D.gd fun hg => ?_
        refine D.st rfl (by decide) (al_i (by decide) (by first | rfl | decide) hg.1 hg.2) ?_
        refine D.run 5 rfl ?_
        refine D.bind (l259_71_ok (by decide) h82_3 (fun q3 e4 he4 e5 he5 => ?_) 100000 _ _ _  (by first | rfl | assumption))
        refine D.run 1 rfl ?_
        refine D.br rfl (by decide) rfl (fun hc => ?_) (fun hc => ?_)
        · refine D.run 2 rfl ?_
          have Kj134 : ∀ (q6 : Int32), Dq ((x243 126 I q6 q3).bind fun q7 => some q7) T → Rn E 259 (134, [.ref 82, .int a1, e4, .int (I (126 + 27) a1.toNatClampNeg), .int ((I (126 + 18) (I (126 + 27) a1.toNatClampNeg).toNatClampNeg) + q1), .int v2, .int (I 198 v2.toNatClampNeg), .int q3, e5], [.int q6, .ref 82], wT I R) o w := by
            intro q6
            refine D.run 1 rfl ?_
            refine D.call rfl rfl rfl rfl (fun q h => x243_ok (by decide) h82_3 h) (fun q7 => ?_)
            exact fun h => by obtain ⟨rfl, rfl⟩ := hT _ (D.some h); exact Rn.ret rfl rfl rfl
          refine D.jn (fun T134 c134 => ?_)
          refine D.br rfl (by decide) rfl (fun hc => ?_) (fun hc => ?_)
          · refine D.run 2 rfl ?_
            exact fun h => Kj134 _   (c134 _ (D.some h))
          · refine D.run 1 rfl ?_
            exact fun h => Kj134 _   (c134 _ (D.some h))
        · refine D.run 3 rfl ?_
          refine D.st rfl (by decide) (gf_1 h82_3) ?_
          refine D.run 2 rfl ?_
          refine D.gd fun hg => ?_
          refine D.st rfl (by decide) (al_i (by decide) (by first | rfl | decide) hg.1 hg.2) ?_
          show _ → Rn E 259 (116, [.ref 82, .int a1, e4, .int (I (126 + 27) a1.toNatClampNeg), .int ((I (126 + 18) (I (126 + 27) a1.toNatClampNeg).toNatClampNeg) + q1), .int v2, .int (I 198 v2.toNatClampNeg), .int q3, e5], [.int (I (126 + 33) a1.toNatClampNeg), .int (I 198 v2.toNatClampNeg), .ref 82], wT I R) o w
          refine D.call rfl rfl rfl rfl (fun q h => x254_ok (by decide) h82_3 h) (fun q8 => ?_)
          refine D.br rfl (by decide) rfl (fun hc => ?_) (fun hc => ?_)
          · refine D.run 2 rfl ?_
            have Kj134 : ∀ (q9 : Int32), Dq ((x243 126 I q9 q3).bind fun q10 => some q10) T → Rn E 259 (134, [.ref 82, .int a1, e4, .int (I (126 + 27) a1.toNatClampNeg), .int ((I (126 + 18) (I (126 + 27) a1.toNatClampNeg).toNatClampNeg) + q1), .int v2, .int (I 198 v2.toNatClampNeg), .int q3, e5], [.int q9, .ref 82], wT I R) o w := by
              intro q9
              refine D.run 1 rfl ?_
              refine D.call rfl rfl rfl rfl (fun q h => x243_ok (by decide) h82_3 h) (fun q10 => ?_)
              exact fun h => by obtain ⟨rfl, rfl⟩ := hT _ (D.some h); exact Rn.ret rfl rfl rfl
            refine D.jn (fun T134 c134 => ?_)
            refine D.br rfl (by decide) rfl (fun hc => ?_) (fun hc => ?_)
            · refine D.run 2 rfl ?_
              exact fun h => Kj134 _   (c134 _ (D.some h))
            · refine D.run 1 rfl ?_
              exact fun h => Kj134 _   (c134 _ (D.some h))
          · refine D.run 1 rfl ?_
            refine D.st rfl (by decide) (gf_1 h82_3) ?_
            refine D.run 5 rfl ?_
            refine D.gd fun hg => ?_
            refine D.st rfl (by decide) (al_i (by decide) (by first | rfl | decide) hg.1 hg.2) ?_
            show _ → Rn E 259 (153, [.ref 82, .int a1, e4, .int (I (126 + 27) a1.toNatClampNeg), .int ((I (126 + 18) (I (126 + 27) a1.toNatClampNeg).toNatClampNeg) + q1), .int v2, .int (I 198 v2.toNatClampNeg), .int q3, e5], [.int (I 181 ((I 198 v2.toNatClampNeg) - 1).toNatClampNeg), .ref 126], wT I R) o w
            refine D.run 1 rfl ?_
            refine D.st rfl (by decide) (gf_1 h82_3) ?_
            refine D.run 2 rfl ?_
            refine D.gd fun hg => ?_
            refine D.st rfl (by decide) (al_i (by decide) (by first | rfl | decide) hg.1 hg.2) ?_
            show _ → Rn E 259 (162, [.ref 82, .int a1, e4, .int (I (126 + 27) a1.toNatClampNeg), .int ((I (126 + 18) (I (126 + 27) a1.toNatClampNeg).toNatClampNeg) + q1), .int v2, .int (I 198 v2.toNatClampNeg), .int q3, e5], [.int (I (126 + 16) (I (126 + 27) a1.toNatClampNeg).toNatClampNeg), .int (I 181 ((I 198 v2.toNatClampNeg) - 1).toNatClampNeg), .ref 126], wT I R) o w
            refine D.run 1 rfl ?_
            refine D.call rfl rfl rfl rfl (fun q h => x219_ok (by decide) h) (fun q11 => ?_)
            refine D.st rfl (by decide) (istn_d rfl (by first | rfl | assumption) rfl) ?_
            refine D.run 3 rfl ?_
            refine D.br rfl (by decide) rfl (fun hc => ?_) (fun hc => ?_)
            · refine D.run 3 rfl ?_
              exact fun h => by obtain ⟨rfl, rfl⟩ := hT _ (D.some h); exact Rn.ret rfl rfl rfl
            · refine D.run 6 rfl ?_
              refine D.letS (fun J12 => ?_)
              refine D.run 6 rfl ?_
              refine D.gd fun hg => ?_
              refine D.st rfl (by decide) (as_i (by decide) (by first | rfl | decide) hg.1 hg.2) ?_
              show _ → Rn E 259 (206, [.ref 82, .int a1, e4, .int q11, .int ((I (126 + 18) (I (126 + 27) a1.toNatClampNeg).toNatClampNeg) + q1), .int v2, .int (I 198 v2.toNatClampNeg), .int q3, e5], [], wT (up2 J12 193 (J12 82 55).toNatClampNeg (J12 82 63)) R) o w
              refine D.run 5 rfl ?_
              refine D.gd fun hg => ?_
              refine D.st rfl (by decide) (as_i (by decide) (by first | rfl | decide) hg.1 hg.2) ?_
              refine D.run 6 rfl ?_
              refine D.gd fun hg => ?_
              refine D.st rfl (by decide) (as_i (by decide) (by first | rfl | decide) hg.1 hg.2) ?_
              refine D.letS (fun J13 => ?_)
              show _ → Rn E 259 (229, [.ref 82, .int a1, e4, .int q11, .int ((I (126 + 18) (I (126 + 27) a1.toNatClampNeg).toNatClampNeg) + q1), .int v2, .int (I 198 v2.toNatClampNeg), .int q3, e5], [], wT J13 R) o w
              refine D.run 8 rfl ?_
              refine D.bind (l259_242_ok (by decide) h82_3 (fun q17 e18 he18 e19 he19 e20 he20 e21 he21 e22 he22 e23 he23 e24 he24 => ?_) 100000 _ _ _ _ _ _ (by first | rfl | assumption) (by first | rfl | assumption) (by first | rfl | assumption) (by first | rfl | assumption))
              refine D.run 5 rfl ?_
              refine D.st rfl (by decide) (gf_1 h82_3) ?_
              refine D.run 3 rfl ?_
              refine D.gd fun hg => ?_
              refine D.st rfl (by decide) (al_i (by decide) (by first | rfl | decide) hg.1 hg.2) ?_
              show _ → Rn E 259 (345, [.ref 82, e18, e19, .int q11, e20, e21, e22, e23, e24], [.int ((up2 q17 82 63 q11) (126 + 21) q11.toNatClampNeg), .ref 82], wT (up2 q17 82 63 q11) R) o w
              refine D.run 4 rfl ?_
              refine D.letS (fun J25 => ?_)
              exact fun h => by obtain ⟨rfl, rfl⟩ := hT _ (D.some h); exact Rn.ret rfl rfl rfl
      · refine D.run 3 rfl ?_
        refine D.br rfl (by decide) rfl (fun hc => ?_) (fun hc => ?_)
        · refine D.run 3 rfl ?_
          exact fun h => by obtain ⟨rfl, rfl⟩ := hT _ (D.some h); exact Rn.ret rfl rfl rfl
        · refine D.run 6 rfl ?_
          refine D.letS (fun J26 => ?_)
          refine D.run 6 rfl ?_
          refine D.gd fun hg => ?_
          refine D.st rfl (by decide) (as_i (by decide) (by first | rfl | decide) hg.1 hg.2) ?_
          show _ → Rn E 259 (206, [.ref 82, .int a1, .int a2, .int (I (126 + 27) a1.toNatClampNeg), .int ((I (126 + 18) (I (126 + 27) a1.toNatClampNeg).toNatClampNeg) + q1), .int v2, us, us, us], [], wT (up2 J26 193 (J26 82 55).toNatClampNeg (J26 82 63)) R) o w
          refine D.run 5 rfl ?_
          refine D.gd fun hg => ?_
          refine D.st rfl (by decide) (as_i (by decide) (by first | rfl | decide) hg.1 hg.2) ?_
          refine D.run 6 rfl ?_
          refine D.gd fun hg => ?_
          refine D.st rfl (by decide) (as_i (by decide) (by first | rfl | decide) hg.1 hg.2) ?_
          refine D.letS (fun J27 => ?_)
          show _ → Rn E 259 (229, [.ref 82, .int a1, .int a2, .int (I (126 + 27) a1.toNatClampNeg), .int ((I (126 + 18) (I (126 + 27) a1.toNatClampNeg).toNatClampNeg) + q1), .int v2, us, us, us], [], wT J27 R) o w
          refine D.run 8 rfl ?_
          refine D.bind (l259_242_ok (by decide) h82_3 (fun q28 e29 he29 e30 he30 e31 he31 e32 he32 e33 he33 e34 he34 e35 he35 => ?_) 100000 _ _ _ _ _ _ (by first | rfl | assumption) (by first | rfl | assumption) (by first | rfl | assumption) (by first | rfl | assumption))
          refine D.run 5 rfl ?_
          refine D.st rfl (by decide) (gf_1 h82_3) ?_
          refine D.run 3 rfl ?_
          refine D.gd fun hg => ?_
          refine D.st rfl (by decide) (al_i (by decide) (by first | rfl | decide) hg.1 hg.2) ?_
          show _ → Rn E 259 (345, [.ref 82, e29, e30, .int (I (126 + 27) a1.toNatClampNeg), e31, e32, e33, e34, e35], [.int ((up2 q28 82 63 (I (126 + 27) a1.toNatClampNeg)) (126 + 21) (I (126 + 27) a1.toNatClampNeg).toNatClampNeg), .ref 82], wT (up2 q28 82 63 (I (126 + 27) a1.toNatClampNeg)) R) o w
          refine D.run 1 rfl ?_
          refine D.letS (fun J36 => ?_)
          refine D.run 3 rfl ?_
          exact fun h => by obtain ⟨rfl, rfl⟩ := hT _ (D.some h); exact Rn.ret rfl rfl rfl
    refine D.jn (fun T30 c30 => ?_)
    refine D.br rfl (by decide) rfl (fun hc => ?_) (fun hc => ?_)
    · refine D.run 2 rfl ?_
      exact fun h => Kj30 _   (c30 _ (D.some h))
    · refine D.run 1 rfl ?_
      exact fun h => Kj30 _   (c30 _ (D.some h))
set_option maxRecDepth 20000 in
set_option maxHeartbeats 30000000 in
theorem x259_ok {E : Xe} {R : Nat → Nat → Option Nat} {Q : Nat} {I : St} (hQ : Q = 85 ∨ Q = 126) (h82_3 : R 82 3 = some Q) {a1 a2 : Int32} {q : St} (h : x259 Q I a1 a2 = some q) : Rn E 259 (0, loc0 259 [.ref 82, .int a1, .int a2], [], wT I R) (.returned none) (wT q R) := x259_D hQ h82_3 _ _ (T := fun r => r = q) (by rintro r rfl; exact ⟨rfl, rfl⟩) ⟨_, h, rfl⟩
/-- TaintHouseModel.slot(III)I -/
def x269 (Q : Nat) (I : St) (a1 a2 a3 : Int32) : Option (Int32) := if (I 82 33) = 0 then some (-1) else if a1 < 0 then some (-1) else if (I 82 40) ≤ a1 then some (-1) else if a2 < 0 then some (-1) else if inb a1 3001 then if (I 183 a1.toNatClampNeg) ≤ a2 then some (-1) else if a3 < 0 then some (-1) else if a3 ≤ 1 then if inb a1 3001 then if a3 = 1 then if inb ((I 182 a1.toNatClampNeg) + a2) 3001 then some (I 186 ((I 182 a1.toNatClampNeg) + a2).toNatClampNeg) else none else if inb a1 3001 then (if (I 181 a1.toNatClampNeg) = (-3) then some 1 else if (I 181 a1.toNatClampNeg) < 0 then some 0 else (x270 Q I (I 181 a1.toNatClampNeg) a2).bind fun q1 => if inb q1 100 then if (I (Q + 11) q1.toNatClampNeg) = 2 then some 1 else some 0 else none).bind fun (q2 : Int32) => if q2 = 0 then if inb ((I 182 a1.toNatClampNeg) + a2) 3001 then some (I 185 ((I 182 a1.toNatClampNeg) + a2).toNatClampNeg) else none else if inb ((I 182 a1.toNatClampNeg) + a2) 3001 then some ((I 185 ((I 182 a1.toNatClampNeg) + a2).toNatClampNeg) - 1) else none else none else none else some (-1) else none
set_option maxRecDepth 20000 in
set_option maxHeartbeats 30000000 in
theorem x269_D {E : Xe} {R : Nat → Nat → Option Nat} {Q : Nat} {o : Outcome} {w : Wd} {T : (Int32) → Prop} {I : St} (hQ : Q = 85 ∨ Q = 126) (h82_3 : R 82 3 = some Q) (a1 a2 a3 : Int32) (hT : ∀ r, T r → o = .returned (some (.int r)) ∧ w = wT I R) : Dq (x269 Q I a1 a2 a3) T → Rn E 269 (0, loc0 269 [.ref 82, .int a1, .int a2, .int a3], [], wT I R) o w := by
  unfold x269
  rcases hQ with rfl | rfl
  · refine D.run 2 rfl ?_
    refine D.br rfl (by decide) rfl (fun hc => ?_) (fun hc => ?_)
    · refine D.run 1 rfl ?_
      exact fun h => by obtain ⟨rfl, rfl⟩ := hT _ (D.some h); exact Rn.ret rfl rfl rfl
    · refine D.run 1 rfl ?_
      refine D.br rfl (by decide) rfl (fun hc => ?_) (fun hc => ?_)
      · refine D.run 1 rfl ?_
        exact fun h => by obtain ⟨rfl, rfl⟩ := hT _ (D.some h); exact Rn.ret rfl rfl rfl
      · refine D.run 3 rfl ?_
        refine D.br rfl (by decide) rfl (fun hc => ?_) (fun hc => ?_)
        · refine D.run 1 rfl ?_
          exact fun h => by obtain ⟨rfl, rfl⟩ := hT _ (D.some h); exact Rn.ret rfl rfl rfl
        · refine D.run 1 rfl ?_
          refine D.br rfl (by decide) rfl (fun hc => ?_) (fun hc => ?_)
          · refine D.run 1 rfl ?_
            exact fun h => by obtain ⟨rfl, rfl⟩ := hT _ (D.some h); exact Rn.ret rfl rfl rfl
          · refine D.run 4 rfl ?_
            refine D.gd fun hg => ?_
            refine D.st rfl (by decide) (al_i (by decide) (by first | rfl | decide) hg.1 hg.2) ?_
            refine D.br rfl (by decide) rfl (fun hc => ?_) (fun hc => ?_)
            · refine D.run 1 rfl ?_
              exact fun h => by obtain ⟨rfl, rfl⟩ := hT _ (D.some h); exact Rn.ret rfl rfl rfl
            · refine D.run 1 rfl ?_
              refine D.br rfl (by decide) rfl (fun hc => ?_) (fun hc => ?_)
              · refine D.run 1 rfl ?_
                exact fun h => by obtain ⟨rfl, rfl⟩ := hT _ (D.some h); exact Rn.ret rfl rfl rfl
              · refine D.run 2 rfl ?_
                refine D.br rfl (by decide) rfl (fun hc => ?_) (fun hc => ?_)
                · refine D.run 3 rfl ?_
                  refine D.gd fun hg => ?_
                  refine D.st rfl (by decide) (al_i (by decide) (by first | rfl | decide) hg.1 hg.2) ?_
                  refine D.run 5 rfl ?_
                  refine D.br rfl (by decide) rfl (fun hc => ?_) (fun hc => ?_)
                  · refine D.run 3 rfl ?_
                    refine D.gd fun hg => ?_
                    refine D.st rfl (by decide) (al_i (by decide) (by first | rfl | decide) hg.1 hg.2) ?_
                    exact fun h => by obtain ⟨rfl, rfl⟩ := hT _ (D.some h); exact Rn.ret rfl rfl rfl
                  · refine D.run 3 rfl ?_
                    refine D.gd fun hg => ?_
                    refine D.st rfl (by decide) (al_i (by decide) (by first | rfl | decide) hg.1 hg.2) ?_
                    refine D.run 3 rfl ?_
                    have Kj111 : ∀ (q2 : Int32), Dq (if q2 = 0 then if inb ((I 182 a1.toNatClampNeg) + a2) 3001 then some (I 185 ((I 182 a1.toNatClampNeg) + a2).toNatClampNeg) else none else if inb ((I 182 a1.toNatClampNeg) + a2) 3001 then some ((I 185 ((I 182 a1.toNatClampNeg) + a2).toNatClampNeg) - 1) else none) T → Rn E 269 (111, [.ref 82, .int a1, .int a2, .int a3, .int ((I 182 a1.toNatClampNeg) + a2), .int (I 181 a1.toNatClampNeg), us], [.int q2], wT I R) o w := by
                      intro q2
                      refine D.run 2 rfl ?_
                      refine D.br rfl (by decide) rfl (fun hc => ?_) (fun hc => ?_)
                      · refine D.run 3 rfl ?_
                        refine D.gd fun hg => ?_
                        refine D.st rfl (by decide) (al_i (by decide) (by first | rfl | decide) hg.1 hg.2) ?_
                        exact fun h => by obtain ⟨rfl, rfl⟩ := hT _ (D.some h); exact Rn.ret rfl rfl rfl
                      · refine D.run 3 rfl ?_
                        refine D.gd fun hg => ?_
                        refine D.st rfl (by decide) (al_i (by decide) (by first | rfl | decide) hg.1 hg.2) ?_
                        refine D.run 3 rfl ?_
                        exact fun h => by obtain ⟨rfl, rfl⟩ := hT _ (D.some h); exact Rn.ret rfl rfl rfl
                    refine D.jn (fun T111 c111 => ?_)
                    refine D.br rfl (by decide) rfl (fun hc => ?_) (fun hc => ?_)
                    · refine D.run 2 rfl ?_
                      exact fun h => Kj111 _   (c111 _ (D.some h))
                    · refine D.run 1 rfl ?_
                      refine D.br rfl (by decide) rfl (fun hc => ?_) (fun hc => ?_)
                      · refine D.run 1 rfl ?_
                        exact fun h => Kj111 _   (c111 _ (D.some h))
                      · refine D.run 1 rfl ?_
                        refine D.st rfl (by decide) (gf_1 h82_3) ?_
                        refine D.run 4 rfl ?_
                        refine D.call rfl rfl rfl rfl (fun q h => x270_ok (by decide) h82_3 h) (fun q1 => ?_)
                        refine D.gd fun hg => ?_
                        refine D.st rfl (by decide) (al_i (by decide) (by first | rfl | decide) hg.1 hg.2) ?_
                        show _ → Rn E 269 (102, [.ref 82, .int a1, .int a2, .int a3, .int ((I 182 a1.toNatClampNeg) + a2), .int (I 181 a1.toNatClampNeg), us], [.int (I (85 + 11) q1.toNatClampNeg)], wT I R) o w
                        refine D.run 1 rfl ?_
                        refine D.br rfl (by decide) rfl (fun hc => ?_) (fun hc => ?_)
                        · refine D.run 2 rfl ?_
                          exact fun h => Kj111 _   (c111 _ (D.some h))
                        · refine D.run 1 rfl ?_
                          exact fun h => Kj111 _   (c111 _ (D.some h))
                · refine D.run 1 rfl ?_
                  exact fun h => by obtain ⟨rfl, rfl⟩ := hT _ (D.some h); exact Rn.ret rfl rfl rfl
  · refine D.run 2 rfl ?_
    refine D.br rfl (by decide) rfl (fun hc => ?_) (fun hc => ?_)
    · refine D.run 1 rfl ?_
      exact fun h => by obtain ⟨rfl, rfl⟩ := hT _ (D.some h); exact Rn.ret rfl rfl rfl
    · refine D.run 1 rfl ?_
      refine D.br rfl (by decide) rfl (fun hc => ?_) (fun hc => ?_)
      · refine D.run 1 rfl ?_
        exact fun h => by obtain ⟨rfl, rfl⟩ := hT _ (D.some h); exact Rn.ret rfl rfl rfl
      · refine D.run 3 rfl ?_
        refine D.br rfl (by decide) rfl (fun hc => ?_) (fun hc => ?_)
        · refine D.run 1 rfl ?_
          exact fun h => by obtain ⟨rfl, rfl⟩ := hT _ (D.some h); exact Rn.ret rfl rfl rfl
        · refine D.run 1 rfl ?_
          refine D.br rfl (by decide) rfl (fun hc => ?_) (fun hc => ?_)
          · refine D.run 1 rfl ?_
            exact fun h => by obtain ⟨rfl, rfl⟩ := hT _ (D.some h); exact Rn.ret rfl rfl rfl
          · refine D.run 4 rfl ?_
            refine D.gd fun hg => ?_
            refine D.st rfl (by decide) (al_i (by decide) (by first | rfl | decide) hg.1 hg.2) ?_
            refine D.br rfl (by decide) rfl (fun hc => ?_) (fun hc => ?_)
            · refine D.run 1 rfl ?_
              exact fun h => by obtain ⟨rfl, rfl⟩ := hT _ (D.some h); exact Rn.ret rfl rfl rfl
            · refine D.run 1 rfl ?_
              refine D.br rfl (by decide) rfl (fun hc => ?_) (fun hc => ?_)
              · refine D.run 1 rfl ?_
                exact fun h => by obtain ⟨rfl, rfl⟩ := hT _ (D.some h); exact Rn.ret rfl rfl rfl
              · refine D.run 2 rfl ?_
                refine D.br rfl (by decide) rfl (fun hc => ?_) (fun hc => ?_)
                · refine D.run 3 rfl ?_
                  refine D.gd fun hg => ?_
                  refine D.st rfl (by decide) (al_i (by decide) (by first | rfl | decide) hg.1 hg.2) ?_
                  refine D.run 5 rfl ?_
                  refine D.br rfl (by decide) rfl (fun hc => ?_) (fun hc => ?_)
                  · refine D.run 3 rfl ?_
                    refine D.gd fun hg => ?_
                    refine D.st rfl (by decide) (al_i (by decide) (by first | rfl | decide) hg.1 hg.2) ?_
                    exact fun h => by obtain ⟨rfl, rfl⟩ := hT _ (D.some h); exact Rn.ret rfl rfl rfl
                  · refine D.run 3 rfl ?_
                    refine D.gd fun hg => ?_
                    refine D.st rfl (by decide) (al_i (by decide) (by first | rfl | decide) hg.1 hg.2) ?_
                    refine D.run 3 rfl ?_
                    have Kj111 : ∀ (q2 : Int32), Dq (if q2 = 0 then if inb ((I 182 a1.toNatClampNeg) + a2) 3001 then some (I 185 ((I 182 a1.toNatClampNeg) + a2).toNatClampNeg) else none else if inb ((I 182 a1.toNatClampNeg) + a2) 3001 then some ((I 185 ((I 182 a1.toNatClampNeg) + a2).toNatClampNeg) - 1) else none) T → Rn E 269 (111, [.ref 82, .int a1, .int a2, .int a3, .int ((I 182 a1.toNatClampNeg) + a2), .int (I 181 a1.toNatClampNeg), us], [.int q2], wT I R) o w := by
                      intro q2
                      refine D.run 2 rfl ?_
                      refine D.br rfl (by decide) rfl (fun hc => ?_) (fun hc => ?_)
                      · refine D.run 3 rfl ?_
                        refine D.gd fun hg => ?_
                        refine D.st rfl (by decide) (al_i (by decide) (by first | rfl | decide) hg.1 hg.2) ?_
                        exact fun h => by obtain ⟨rfl, rfl⟩ := hT _ (D.some h); exact Rn.ret rfl rfl rfl
                      · refine D.run 3 rfl ?_
                        refine D.gd fun hg => ?_
                        refine D.st rfl (by decide) (al_i (by decide) (by first | rfl | decide) hg.1 hg.2) ?_
                        refine D.run 3 rfl ?_
                        exact fun h => by obtain ⟨rfl, rfl⟩ := hT _ (D.some h); exact Rn.ret rfl rfl rfl
                    refine D.jn (fun T111 c111 => ?_)
                    refine D.br rfl (by decide) rfl (fun hc => ?_) (fun hc => ?_)
                    · refine D.run 2 rfl ?_
                      exact fun h => Kj111 _   (c111 _ (D.some h))
                    · refine D.run 1 rfl ?_
                      refine D.br rfl (by decide) rfl (fun hc => ?_) (fun hc => ?_)
                      · refine D.run 1 rfl ?_
                        exact fun h => Kj111 _   (c111 _ (D.some h))
                      · refine D.run 1 rfl ?_
                        refine D.st rfl (by decide) (gf_1 h82_3) ?_
                        refine D.run 4 rfl ?_
                        refine D.call rfl rfl rfl rfl (fun q h => x270_ok (by decide) h82_3 h) (fun q1 => ?_)
                        refine D.gd fun hg => ?_
                        refine D.st rfl (by decide) (al_i (by decide) (by first | rfl | decide) hg.1 hg.2) ?_
                        show _ → Rn E 269 (102, [.ref 82, .int a1, .int a2, .int a3, .int ((I 182 a1.toNatClampNeg) + a2), .int (I 181 a1.toNatClampNeg), us], [.int (I (126 + 11) q1.toNatClampNeg)], wT I R) o w
                        refine D.run 1 rfl ?_
                        refine D.br rfl (by decide) rfl (fun hc => ?_) (fun hc => ?_)
                        · refine D.run 2 rfl ?_
                          exact fun h => Kj111 _   (c111 _ (D.some h))
                        · refine D.run 1 rfl ?_
                          exact fun h => Kj111 _   (c111 _ (D.some h))
                · refine D.run 1 rfl ?_
                  exact fun h => by obtain ⟨rfl, rfl⟩ := hT _ (D.some h); exact Rn.ret rfl rfl rfl
set_option maxRecDepth 20000 in
set_option maxHeartbeats 30000000 in
theorem x269_ok {E : Xe} {R : Nat → Nat → Option Nat} {Q : Nat} {I : St} (hQ : Q = 85 ∨ Q = 126) (h82_3 : R 82 3 = some Q) {a1 a2 a3 : Int32} {q : Int32} (h : x269 Q I a1 a2 a3 = some q) : Rn E 269 (0, loc0 269 [.ref 82, .int a1, .int a2, .int a3], [], wT I R) (.returned (some (.int q))) (wT I R) := x269_D hQ h82_3 _ _ _ (T := fun r => r = q) (by rintro r rfl; exact ⟨rfl, rfl⟩) ⟨_, h, rfl⟩
