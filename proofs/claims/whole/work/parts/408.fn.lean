/-! FUNCTIONS OF METHODS, by program (wip/gen/all.py): 227 234 245 -/
/-- TaintHouseModel.come(III)V -/
def l227_116 (Z : Nat) (b1 : Int32) (b2 : Int32) (b3 : Int32) : Nat → Int32 → Int32 → St → Option (Int32 × St)
  | 0, _, _, _ => none
  | n + 1, b4, b5, I => if 16 ≤ b5 then some (b4, I) else if inb b1 100 then (if (I 175 b1.toNatClampNeg) = 0 then some 0 else if inb ((16 * b1) + b5) 1600 then some (I 179 ((16 * b1) + b5).toNatClampNeg) else none).bind fun (q3 : Int32) => if inb b5 16 then if inb ((16 * b1) + b5) 1600 then if b4 = 0 then if inb b5 16 then if (q3 ||| ((up2 I 179 ((16 * b1) + b5).toNatClampNeg (q3 ||| (I 180 b5.toNatClampNeg))) 180 b5.toNatClampNeg)) = q3 then l227_116 Z b1 b2 b3 n 0 (b5 + 1) (up2 I 179 ((16 * b1) + b5).toNatClampNeg (q3 ||| (I 180 b5.toNatClampNeg))) else l227_116 Z b1 b2 b3 n 1 (b5 + 1) (up2 I 179 ((16 * b1) + b5).toNatClampNeg (q3 ||| (I 180 b5.toNatClampNeg))) else none else l227_116 Z b1 b2 b3 n 1 (b5 + 1) (up2 I 179 ((16 * b1) + b5).toNatClampNeg (q3 ||| (I 180 b5.toNatClampNeg))) else none else none else none
set_option maxRecDepth 20000 in
theorem l227_116_ok {E : Xe} {R : Nat → Nat → Option Nat} {Z : Nat} {o : Outcome} {w : Wd} {T : (Int32 × St) → Prop} {b1 : Int32} {b2 : Int32} {b3 : Int32} (hZ : Z = 85 ∨ Z = 126) (h82_4 : R 82 4 = some Z) (K : ∀ (q : Int32 × St) (e5 : Value) (_ : is1 e5 = true) (e6 : Value) (_ : is1 e6 = true), T q → Rn E 227 (205, [.ref 82, .int b1, .int b2, .int b3, .int q.1, e5, e6], [], wT q.2 R) o w) : ∀ (n : Nat) (b4 : Int32) (b5 : Int32) (d6 : Value) (I : St), is1 d6 = true → Dq (l227_116 Z b1 b2 b3 n b4 b5 I) T → Rn E 227 (116, [.ref 82, .int b1, .int b2, .int b3, .int b4, .int b5, d6], [], wT I R) o w := by
  rcases hZ with rfl | rfl
  · intro n
    induction n with
    | zero => intro b4 b5 d6 I hd6; exact D.none
    | succ n ih =>
      intro b4 b5 d6 I hd6
      rw [l227_116]
      refine D.run 2 rfl ?_
      refine D.br rfl (by decide) rfl (fun hc => ?_) (fun hc => ?_)
      · exact fun h => D.to h (K _ _ (by first | rfl | assumption) _ (by first | rfl | assumption))
      · refine D.run 3 rfl ?_
        refine D.gd fun hg => ?_
        refine D.st rfl (by decide) (al_b (by decide) (by first | rfl | decide) hg.1 hg.2) ?_
        have Kj148 : ∀ (q3 : Int32), Dq (if inb b5 16 then if inb ((16 * b1) + b5) 1600 then if b4 = 0 then if inb b5 16 then if (q3 ||| ((up2 I 179 ((16 * b1) + b5).toNatClampNeg (q3 ||| (I 180 b5.toNatClampNeg))) 180 b5.toNatClampNeg)) = q3 then l227_116 85 b1 b2 b3 n 0 (b5 + 1) (up2 I 179 ((16 * b1) + b5).toNatClampNeg (q3 ||| (I 180 b5.toNatClampNeg))) else l227_116 85 b1 b2 b3 n 1 (b5 + 1) (up2 I 179 ((16 * b1) + b5).toNatClampNeg (q3 ||| (I 180 b5.toNatClampNeg))) else none else l227_116 85 b1 b2 b3 n 1 (b5 + 1) (up2 I 179 ((16 * b1) + b5).toNatClampNeg (q3 ||| (I 180 b5.toNatClampNeg))) else none else none) T → Rn E 227 (148, [.ref 82, .int b1, .int b2, .int b3, .int b4, .int b5, d6], [.int q3], wT I R) o w := by
          intro q3
          refine D.run 12 rfl ?_
          refine D.gd fun hg => ?_
          refine D.st rfl (by decide) (al_i (by decide) (by first | rfl | decide) hg.1 hg.2) ?_
          refine D.run 1 rfl ?_
          refine D.gd fun hg => ?_
          refine D.st rfl (by decide) (as_i (by decide) (by first | rfl | decide) hg.1 hg.2) ?_
          show _ → Rn E 227 (172, [.ref 82, .int b1, .int b2, .int b3, .int b4, .int b5, .int q3], [], wT (up2 I 179 ((16 * b1) + b5).toNatClampNeg (q3 ||| (I 180 b5.toNatClampNeg))) R) o w
          refine D.run 1 rfl ?_
          refine D.br rfl (by decide) rfl (fun hc => ?_) (fun hc => ?_)
          · refine D.run 4 rfl ?_
            refine D.gd fun hg => ?_
            refine D.st rfl (by decide) (al_i (by decide) (by first | rfl | decide) hg.1 hg.2) ?_
            refine D.run 2 rfl ?_
            refine D.br rfl (by decide) rfl (fun hc => ?_) (fun hc => ?_)
            · refine D.run 4 rfl ?_
              exact ih _ _ _ _ (by first | rfl | assumption)
            · refine D.run 5 rfl ?_
              exact ih _ _ _ _ (by first | rfl | assumption)
          · refine D.run 5 rfl ?_
            exact ih _ _ _ _ (by first | rfl | assumption)
        refine D.jn (fun T148 c148 => ?_)
        refine D.br rfl (by decide) rfl (fun hc => ?_) (fun hc => ?_)
        · refine D.run 1 rfl ?_
          exact fun h => Kj148 _   (c148 _ (D.some h))
        · refine D.run 7 rfl ?_
          refine D.gd fun hg => ?_
          refine D.st rfl (by decide) (al_i (by decide) (by first | rfl | decide) hg.1 hg.2) ?_
          refine D.run 1 rfl ?_
          exact fun h => Kj148 _   (c148 _ (D.some h))
  · intro n
    induction n with
    | zero => intro b4 b5 d6 I hd6; exact D.none
    | succ n ih =>
      intro b4 b5 d6 I hd6
      rw [l227_116]
      refine D.run 2 rfl ?_
      refine D.br rfl (by decide) rfl (fun hc => ?_) (fun hc => ?_)
      · exact fun h => D.to h (K _ _ (by first | rfl | assumption) _ (by first | rfl | assumption))
      · refine D.run 3 rfl ?_
        refine D.gd fun hg => ?_
        refine D.st rfl (by decide) (al_b (by decide) (by first | rfl | decide) hg.1 hg.2) ?_
        have Kj148 : ∀ (q3 : Int32), Dq (if inb b5 16 then if inb ((16 * b1) + b5) 1600 then if b4 = 0 then if inb b5 16 then if (q3 ||| ((up2 I 179 ((16 * b1) + b5).toNatClampNeg (q3 ||| (I 180 b5.toNatClampNeg))) 180 b5.toNatClampNeg)) = q3 then l227_116 126 b1 b2 b3 n 0 (b5 + 1) (up2 I 179 ((16 * b1) + b5).toNatClampNeg (q3 ||| (I 180 b5.toNatClampNeg))) else l227_116 126 b1 b2 b3 n 1 (b5 + 1) (up2 I 179 ((16 * b1) + b5).toNatClampNeg (q3 ||| (I 180 b5.toNatClampNeg))) else none else l227_116 126 b1 b2 b3 n 1 (b5 + 1) (up2 I 179 ((16 * b1) + b5).toNatClampNeg (q3 ||| (I 180 b5.toNatClampNeg))) else none else none) T → Rn E 227 (148, [.ref 82, .int b1, .int b2, .int b3, .int b4, .int b5, d6], [.int q3], wT I R) o w := by
          intro q3
          refine D.run 12 rfl ?_
          refine D.gd fun hg => ?_
          refine D.st rfl (by decide) (al_i (by decide) (by first | rfl | decide) hg.1 hg.2) ?_
          refine D.run 1 rfl ?_
          refine D.gd fun hg => ?_
          refine D.st rfl (by decide) (as_i (by decide) (by first | rfl | decide) hg.1 hg.2) ?_
          show _ → Rn E 227 (172, [.ref 82, .int b1, .int b2, .int b3, .int b4, .int b5, .int q3], [], wT (up2 I 179 ((16 * b1) + b5).toNatClampNeg (q3 ||| (I 180 b5.toNatClampNeg))) R) o w
          refine D.run 1 rfl ?_
          refine D.br rfl (by decide) rfl (fun hc => ?_) (fun hc => ?_)
          · refine D.run 4 rfl ?_
            refine D.gd fun hg => ?_
            refine D.st rfl (by decide) (al_i (by decide) (by first | rfl | decide) hg.1 hg.2) ?_
            refine D.run 2 rfl ?_
            refine D.br rfl (by decide) rfl (fun hc => ?_) (fun hc => ?_)
            · refine D.run 4 rfl ?_
              exact ih _ _ _ _ (by first | rfl | assumption)
            · refine D.run 5 rfl ?_
              exact ih _ _ _ _ (by first | rfl | assumption)
          · refine D.run 5 rfl ?_
            exact ih _ _ _ _ (by first | rfl | assumption)
        refine D.jn (fun T148 c148 => ?_)
        refine D.br rfl (by decide) rfl (fun hc => ?_) (fun hc => ?_)
        · refine D.run 1 rfl ?_
          exact fun h => Kj148 _   (c148 _ (D.some h))
        · refine D.run 7 rfl ?_
          refine D.gd fun hg => ?_
          refine D.st rfl (by decide) (al_i (by decide) (by first | rfl | decide) hg.1 hg.2) ?_
          refine D.run 1 rfl ?_
          exact fun h => Kj148 _   (c148 _ (D.some h))
def x227 (Z : Nat) (I : St) (a1 a2 a3 : Int32) : Option (St) := if (I 82 22) = 0 then if inb (I 82 32) 24 then if a1 = (I (Z + 22) (I 82 32).toNatClampNeg) then if inb (I 82 32) 24 then (x228 I (I (Z + 23) (I 82 32).toNatClampNeg)).bind fun q1 => some q1 else none else if inb a1 100 then if (I 175 a1.toNatClampNeg) = 0 then if inb a1 100 then (if (I 175 a1.toNatClampNeg) = 0 then some 1 else some 0).bind fun (q2 : Int32) => (l227_116 Z a1 a2 a3 100000 q2 0 I).bind fun q4 => if inb a1 100 then if inb a1 100 then if inb a1 100 then Lt (up2 (up2 (up2 q4.2 175 a1.toNatClampNeg (vp_nar .boolean 1)) 177 a1.toNatClampNeg a2) 178 a1.toNatClampNeg a3) fun J7 => if inb a1 100 then (if (J7 176 a1.toNatClampNeg) = 0 then if q4.1 = 0 then some 0 else some 1 else some 1).bind fun (q8 : Int32) => if inb a1 100 then if inb (J7 82 32) 24 then if a2 ≤ ((up2 J7 176 a1.toNatClampNeg (vp_nar .boolean q8)) (Z + 24) (J7 82 32).toNatClampNeg) then some (up2 J7 176 a1.toNatClampNeg (vp_nar .boolean q8)) else if inb (J7 82 32) 24 then Lt (up2 (up2 J7 176 a1.toNatClampNeg (vp_nar .boolean q8)) (Z + 24) (J7 82 32).toNatClampNeg a2) fun J9 => some J9 else none else none else none else none else none else none else none else none else if inb a1 100 then if (I 177 a1.toNatClampNeg) = a2 then if inb a1 100 then if (I 178 a1.toNatClampNeg) = a3 then if inb a1 100 then (if (I 175 a1.toNatClampNeg) = 0 then some 1 else some 0).bind fun (q10 : Int32) => (l227_116 Z a1 a2 a3 100000 q10 0 I).bind fun q11 => if inb a1 100 then if inb a1 100 then if inb a1 100 then Lt (up2 (up2 (up2 q11.2 175 a1.toNatClampNeg (vp_nar .boolean 1)) 177 a1.toNatClampNeg a2) 178 a1.toNatClampNeg a3) fun J14 => if inb a1 100 then (if (J14 176 a1.toNatClampNeg) = 0 then if q11.1 = 0 then some 0 else some 1 else some 1).bind fun (q15 : Int32) => if inb a1 100 then if inb (J14 82 32) 24 then if a2 ≤ ((up2 J14 176 a1.toNatClampNeg (vp_nar .boolean q15)) (Z + 24) (J14 82 32).toNatClampNeg) then some (up2 J14 176 a1.toNatClampNeg (vp_nar .boolean q15)) else if inb (J14 82 32) 24 then Lt (up2 (up2 J14 176 a1.toNatClampNeg (vp_nar .boolean q15)) (Z + 24) (J14 82 32).toNatClampNeg a2) fun J16 => some J16 else none else none else none else none else none else none else none else none else if inb (I 82 32) 24 then if inb ((I (Z + 21) (I 82 32).toNatClampNeg) + a1) 2400 then (x228 I (I (Z + 28) ((I (Z + 21) (I 82 32).toNatClampNeg) + a1).toNatClampNeg)).bind fun q17 => some q17 else none else none else none else if inb (I 82 32) 24 then if inb ((I (Z + 21) (I 82 32).toNatClampNeg) + a1) 2400 then (x228 I (I (Z + 28) ((I (Z + 21) (I 82 32).toNatClampNeg) + a1).toNatClampNeg)).bind fun q18 => some q18 else none else none else none else none else none else some I
set_option maxRecDepth 20000 in
theorem x227_D {E : Xe} {R : Nat → Nat → Option Nat} {Z : Nat} {o : Outcome} {w : Wd} {T : (St) → Prop} {I : St} (hZ : Z = 85 ∨ Z = 126) (h82_4 : R 82 4 = some Z) (a1 a2 a3 : Int32) (hT : ∀ r, T r → o = .returned none ∧ w = wT r R) : Dq (x227 Z I a1 a2 a3) T → Rn E 227 (0, loc0 227 [.ref 82, .int a1, .int a2, .int a3], [], wT I R) o w := by
  unfold x227
  rcases hZ with rfl | rfl
  · refine D.run 2 rfl ?_
    refine D.br rfl (by decide) rfl (fun hc => ?_) (fun hc => ?_)
    · refine D.run 2 rfl ?_
      refine D.st rfl (by decide) (gf_1 h82_4) ?_
      refine D.run 3 rfl ?_
      refine D.gd fun hg => ?_
      refine D.st rfl (by decide) (al_i (by decide) (by first | rfl | decide) hg.1 hg.2) ?_
      show _ → Rn E 227 (21, [.ref 82, .int a1, .int a2, .int a3, us, us, us], [.int (I (85 + 22) (I 82 32).toNatClampNeg), .int a1], wT I R) o w
      refine D.br rfl (by decide) rfl (fun hc => ?_) (fun hc => ?_)
      · refine D.run 2 rfl ?_
        refine D.st rfl (by decide) (gf_1 h82_4) ?_
        refine D.run 3 rfl ?_
        refine D.gd fun hg => ?_
        refine D.st rfl (by decide) (al_i (by decide) (by first | rfl | decide) hg.1 hg.2) ?_
        show _ → Rn E 227 (37, [.ref 82, .int a1, .int a2, .int a3, us, us, us], [.int (I (85 + 23) (I 82 32).toNatClampNeg), .ref 82], wT I R) o w
        refine D.call rfl rfl rfl rfl (fun q h => x228_ok h) (fun q1 => ?_)
        exact fun h => by obtain ⟨rfl, rfl⟩ := hT _ (D.some h); exact Rn.ret rfl rfl rfl
      · refine D.run 3 rfl ?_
        refine D.gd fun hg => ?_
        refine D.st rfl (by decide) (al_b (by decide) (by first | rfl | decide) hg.1 hg.2) ?_
        refine D.br rfl (by decide) rfl (fun hc => ?_) (fun hc => ?_)
        · refine D.run 3 rfl ?_
          refine D.gd fun hg => ?_
          refine D.st rfl (by decide) (al_b (by decide) (by first | rfl | decide) hg.1 hg.2) ?_
          have Kj111 : ∀ (q2 : Int32), Dq ((l227_116 85 a1 a2 a3 100000 q2 0 I).bind fun q4 => if inb a1 100 then if inb a1 100 then if inb a1 100 then Lt (up2 (up2 (up2 q4.2 175 a1.toNatClampNeg (vp_nar .boolean 1)) 177 a1.toNatClampNeg a2) 178 a1.toNatClampNeg a3) fun J7 => if inb a1 100 then (if (J7 176 a1.toNatClampNeg) = 0 then if q4.1 = 0 then some 0 else some 1 else some 1).bind fun (q8 : Int32) => if inb a1 100 then if inb (J7 82 32) 24 then if a2 ≤ ((up2 J7 176 a1.toNatClampNeg (vp_nar .boolean q8)) (85 + 24) (J7 82 32).toNatClampNeg) then some (up2 J7 176 a1.toNatClampNeg (vp_nar .boolean q8)) else if inb (J7 82 32) 24 then Lt (up2 (up2 J7 176 a1.toNatClampNeg (vp_nar .boolean q8)) (85 + 24) (J7 82 32).toNatClampNeg a2) fun J9 => some J9 else none else none else none else none else none else none else none) T → Rn E 227 (111, [.ref 82, .int a1, .int a2, .int a3, us, us, us], [.int q2], wT I R) o w := by
            intro q2
            refine D.run 3 rfl ?_
            refine D.bind (l227_116_ok (by decide) h82_4 (fun q4 e5 he5 e6 he6 => ?_) 100000 _ _ _ _ (by first | rfl | assumption))
            refine D.run 4 rfl ?_
            refine D.gd fun hg => ?_
            refine D.st rfl (by decide) (as_z (by decide) (by first | rfl | decide) hg.1 hg.2) ?_
            refine D.run 4 rfl ?_
            refine D.gd fun hg => ?_
            refine D.st rfl (by decide) (as_i (by decide) (by first | rfl | decide) hg.1 hg.2) ?_
            show _ → Rn E 227 (219, [.ref 82, .int a1, .int a2, .int a3, .int q4.1, e5, e6], [], wT (up2 (up2 q4.2 175 a1.toNatClampNeg (vp_nar .boolean 1)) 177 a1.toNatClampNeg a2) R) o w
            refine D.run 4 rfl ?_
            refine D.gd fun hg => ?_
            refine D.st rfl (by decide) (as_i (by decide) (by first | rfl | decide) hg.1 hg.2) ?_
            refine D.letS (fun J7 => ?_)
            refine D.run 6 rfl ?_
            refine D.gd fun hg => ?_
            refine D.st rfl (by decide) (al_b (by decide) (by first | rfl | decide) hg.1 hg.2) ?_
            show _ → Rn E 227 (237, [.ref 82, .int a1, .int a2, .int a3, .int q4.1, e5, e6], [.int (J7 176 a1.toNatClampNeg), .int a1, .ref 176], wT J7 R) o w
            have Kj250 : ∀ (q8 : Int32), Dq (if inb a1 100 then if inb (J7 82 32) 24 then if a2 ≤ ((up2 J7 176 a1.toNatClampNeg (vp_nar .boolean q8)) (85 + 24) (J7 82 32).toNatClampNeg) then some (up2 J7 176 a1.toNatClampNeg (vp_nar .boolean q8)) else if inb (J7 82 32) 24 then Lt (up2 (up2 J7 176 a1.toNatClampNeg (vp_nar .boolean q8)) (85 + 24) (J7 82 32).toNatClampNeg a2) fun J9 => some J9 else none else none else none) T → Rn E 227 (250, [.ref 82, .int a1, .int a2, .int a3, .int q4.1, e5, e6], [.int q8, .int a1, .ref 176], wT J7 R) o w := by
              intro q8
              refine D.gd fun hg => ?_
              refine D.st rfl (by decide) (as_z (by decide) (by first | rfl | decide) hg.1 hg.2) ?_
              refine D.run 2 rfl ?_
              refine D.st rfl (by decide) (gf_1 h82_4) ?_
              refine D.run 3 rfl ?_
              refine D.gd fun hg => ?_
              refine D.st rfl (by decide) (al_i (by decide) (by first | rfl | decide) hg.1 hg.2) ?_
              show _ → Rn E 227 (264, [.ref 82, .int a1, .int a2, .int a3, .int q4.1, e5, e6], [.int ((up2 J7 176 a1.toNatClampNeg (vp_nar .boolean q8)) (85 + 24) (J7 82 32).toNatClampNeg), .int a2], wT (up2 J7 176 a1.toNatClampNeg (vp_nar .boolean q8)) R) o w
              refine D.br rfl (by decide) rfl (fun hc => ?_) (fun hc => ?_)
              · exact fun h => by obtain ⟨rfl, rfl⟩ := hT _ (D.some h); exact Rn.ret rfl rfl rfl
              · refine D.run 1 rfl ?_
                refine D.st rfl (by decide) (gf_1 h82_4) ?_
                refine D.run 4 rfl ?_
                refine D.gd fun hg => ?_
                refine D.st rfl (by decide) (as_i (by decide) (by first | rfl | decide) hg.1 hg.2) ?_
                refine D.letS (fun J9 => ?_)
                show _ → Rn E 227 (280, [.ref 82, .int a1, .int a2, .int a3, .int q4.1, e5, e6], [], wT J9 R) o w
                exact fun h => by obtain ⟨rfl, rfl⟩ := hT _ (D.some h); exact Rn.ret rfl rfl rfl
            refine D.jn (fun T250 c250 => ?_)
            refine D.br rfl (by decide) rfl (fun hc => ?_) (fun hc => ?_)
            · refine D.run 1 rfl ?_
              refine D.br rfl (by decide) rfl (fun hc => ?_) (fun hc => ?_)
              · refine D.run 1 rfl ?_
                exact fun h => Kj250 _   (c250 _ (D.some h))
              · refine D.run 2 rfl ?_
                exact fun h => Kj250 _   (c250 _ (D.some h))
            · refine D.run 2 rfl ?_
              exact fun h => Kj250 _   (c250 _ (D.some h))
          refine D.jn (fun T111 c111 => ?_)
          refine D.br rfl (by decide) rfl (fun hc => ?_) (fun hc => ?_)
          · refine D.run 2 rfl ?_
            exact fun h => Kj111 _   (c111 _ (D.some h))
          · refine D.run 1 rfl ?_
            exact fun h => Kj111 _   (c111 _ (D.some h))
        · refine D.run 3 rfl ?_
          refine D.gd fun hg => ?_
          refine D.st rfl (by decide) (al_i (by decide) (by first | rfl | decide) hg.1 hg.2) ?_
          refine D.run 1 rfl ?_
          refine D.br rfl (by decide) rfl (fun hc => ?_) (fun hc => ?_)
          · refine D.run 3 rfl ?_
            refine D.gd fun hg => ?_
            refine D.st rfl (by decide) (al_i (by decide) (by first | rfl | decide) hg.1 hg.2) ?_
            refine D.run 1 rfl ?_
            refine D.br rfl (by decide) rfl (fun hc => ?_) (fun hc => ?_)
            · refine D.run 3 rfl ?_
              refine D.gd fun hg => ?_
              refine D.st rfl (by decide) (al_b (by decide) (by first | rfl | decide) hg.1 hg.2) ?_
              have Kj111 : ∀ (q10 : Int32), Dq ((l227_116 85 a1 a2 a3 100000 q10 0 I).bind fun q11 => if inb a1 100 then if inb a1 100 then if inb a1 100 then Lt (up2 (up2 (up2 q11.2 175 a1.toNatClampNeg (vp_nar .boolean 1)) 177 a1.toNatClampNeg a2) 178 a1.toNatClampNeg a3) fun J14 => if inb a1 100 then (if (J14 176 a1.toNatClampNeg) = 0 then if q11.1 = 0 then some 0 else some 1 else some 1).bind fun (q15 : Int32) => if inb a1 100 then if inb (J14 82 32) 24 then if a2 ≤ ((up2 J14 176 a1.toNatClampNeg (vp_nar .boolean q15)) (85 + 24) (J14 82 32).toNatClampNeg) then some (up2 J14 176 a1.toNatClampNeg (vp_nar .boolean q15)) else if inb (J14 82 32) 24 then Lt (up2 (up2 J14 176 a1.toNatClampNeg (vp_nar .boolean q15)) (85 + 24) (J14 82 32).toNatClampNeg a2) fun J16 => some J16 else none else none else none else none else none else none else none) T → Rn E 227 (111, [.ref 82, .int a1, .int a2, .int a3, us, us, us], [.int q10], wT I R) o w := by
                intro q10
                refine D.run 3 rfl ?_
                refine D.bind (l227_116_ok (by decide) h82_4 (fun q11 e12 he12 e13 he13 => ?_) 100000 _ _ _ _ (by first | rfl | assumption))
                refine D.run 4 rfl ?_
                refine D.gd fun hg => ?_
                refine D.st rfl (by decide) (as_z (by decide) (by first | rfl | decide) hg.1 hg.2) ?_
                refine D.run 4 rfl ?_
                refine D.gd fun hg => ?_
                refine D.st rfl (by decide) (as_i (by decide) (by first | rfl | decide) hg.1 hg.2) ?_
                show _ → Rn E 227 (219, [.ref 82, .int a1, .int a2, .int a3, .int q11.1, e12, e13], [], wT (up2 (up2 q11.2 175 a1.toNatClampNeg (vp_nar .boolean 1)) 177 a1.toNatClampNeg a2) R) o w
                refine D.run 4 rfl ?_
                refine D.gd fun hg => ?_
                refine D.st rfl (by decide) (as_i (by decide) (by first | rfl | decide) hg.1 hg.2) ?_
                refine D.letS (fun J14 => ?_)
                refine D.run 6 rfl ?_
                refine D.gd fun hg => ?_
                refine D.st rfl (by decide) (al_b (by decide) (by first | rfl | decide) hg.1 hg.2) ?_
                show _ → Rn E 227 (237, [.ref 82, .int a1, .int a2, .int a3, .int q11.1, e12, e13], [.int (J14 176 a1.toNatClampNeg), .int a1, .ref 176], wT J14 R) o w
                have Kj250 : ∀ (q15 : Int32), Dq (if inb a1 100 then if inb (J14 82 32) 24 then if a2 ≤ ((up2 J14 176 a1.toNatClampNeg (vp_nar .boolean q15)) (85 + 24) (J14 82 32).toNatClampNeg) then some (up2 J14 176 a1.toNatClampNeg (vp_nar .boolean q15)) else if inb (J14 82 32) 24 then Lt (up2 (up2 J14 176 a1.toNatClampNeg (vp_nar .boolean q15)) (85 + 24) (J14 82 32).toNatClampNeg a2) fun J16 => some J16 else none else none else none) T → Rn E 227 (250, [.ref 82, .int a1, .int a2, .int a3, .int q11.1, e12, e13], [.int q15, .int a1, .ref 176], wT J14 R) o w := by
                  intro q15
                  refine D.gd fun hg => ?_
                  refine D.st rfl (by decide) (as_z (by decide) (by first | rfl | decide) hg.1 hg.2) ?_
                  refine D.run 2 rfl ?_
                  refine D.st rfl (by decide) (gf_1 h82_4) ?_
                  refine D.run 3 rfl ?_
                  refine D.gd fun hg => ?_
                  refine D.st rfl (by decide) (al_i (by decide) (by first | rfl | decide) hg.1 hg.2) ?_
                  show _ → Rn E 227 (264, [.ref 82, .int a1, .int a2, .int a3, .int q11.1, e12, e13], [.int ((up2 J14 176 a1.toNatClampNeg (vp_nar .boolean q15)) (85 + 24) (J14 82 32).toNatClampNeg), .int a2], wT (up2 J14 176 a1.toNatClampNeg (vp_nar .boolean q15)) R) o w
                  refine D.br rfl (by decide) rfl (fun hc => ?_) (fun hc => ?_)
                  · exact fun h => by obtain ⟨rfl, rfl⟩ := hT _ (D.some h); exact Rn.ret rfl rfl rfl
                  · refine D.run 1 rfl ?_
                    refine D.st rfl (by decide) (gf_1 h82_4) ?_
                    refine D.run 4 rfl ?_
                    refine D.gd fun hg => ?_
                    refine D.st rfl (by decide) (as_i (by decide) (by first | rfl | decide) hg.1 hg.2) ?_
                    refine D.letS (fun J16 => ?_)
                    show _ → Rn E 227 (280, [.ref 82, .int a1, .int a2, .int a3, .int q11.1, e12, e13], [], wT J16 R) o w
                    exact fun h => by obtain ⟨rfl, rfl⟩ := hT _ (D.some h); exact Rn.ret rfl rfl rfl
                refine D.jn (fun T250 c250 => ?_)
                refine D.br rfl (by decide) rfl (fun hc => ?_) (fun hc => ?_)
                · refine D.run 1 rfl ?_
                  refine D.br rfl (by decide) rfl (fun hc => ?_) (fun hc => ?_)
                  · refine D.run 1 rfl ?_
                    exact fun h => Kj250 _   (c250 _ (D.some h))
                  · refine D.run 2 rfl ?_
                    exact fun h => Kj250 _   (c250 _ (D.some h))
                · refine D.run 2 rfl ?_
                  exact fun h => Kj250 _   (c250 _ (D.some h))
              refine D.jn (fun T111 c111 => ?_)
              refine D.br rfl (by decide) rfl (fun hc => ?_) (fun hc => ?_)
              · refine D.run 2 rfl ?_
                exact fun h => Kj111 _   (c111 _ (D.some h))
              · refine D.run 1 rfl ?_
                exact fun h => Kj111 _   (c111 _ (D.some h))
            · refine D.run 2 rfl ?_
              refine D.st rfl (by decide) (gf_1 h82_4) ?_
              refine D.run 2 rfl ?_
              refine D.st rfl (by decide) (gf_1 h82_4) ?_
              refine D.run 3 rfl ?_
              refine D.gd fun hg => ?_
              refine D.st rfl (by decide) (al_i (by decide) (by first | rfl | decide) hg.1 hg.2) ?_
              show _ → Rn E 227 (90, [.ref 82, .int a1, .int a2, .int a3, us, us, us], [.int (I (85 + 21) (I 82 32).toNatClampNeg), .ref (85 + 28), .ref 82], wT I R) o w
              refine D.run 2 rfl ?_
              refine D.gd fun hg => ?_
              refine D.st rfl (by decide) (al_i (by decide) (by first | rfl | decide) hg.1 hg.2) ?_
              refine D.call rfl rfl rfl rfl (fun q h => x228_ok h) (fun q17 => ?_)
              exact fun h => by obtain ⟨rfl, rfl⟩ := hT _ (D.some h); exact Rn.ret rfl rfl rfl
          · refine D.run 2 rfl ?_
            refine D.st rfl (by decide) (gf_1 h82_4) ?_
            refine D.run 2 rfl ?_
            refine D.st rfl (by decide) (gf_1 h82_4) ?_
            refine D.run 3 rfl ?_
            refine D.gd fun hg => ?_
            refine D.st rfl (by decide) (al_i (by decide) (by first | rfl | decide) hg.1 hg.2) ?_
            show _ → Rn E 227 (90, [.ref 82, .int a1, .int a2, .int a3, us, us, us], [.int (I (85 + 21) (I 82 32).toNatClampNeg), .ref (85 + 28), .ref 82], wT I R) o w
            refine D.run 2 rfl ?_
            refine D.gd fun hg => ?_
            refine D.st rfl (by decide) (al_i (by decide) (by first | rfl | decide) hg.1 hg.2) ?_
            refine D.call rfl rfl rfl rfl (fun q h => x228_ok h) (fun q18 => ?_)
            exact fun h => by obtain ⟨rfl, rfl⟩ := hT _ (D.some h); exact Rn.ret rfl rfl rfl
    · exact fun h => by obtain ⟨rfl, rfl⟩ := hT _ (D.some h); exact Rn.ret rfl rfl rfl
  · refine D.run 2 rfl ?_
    refine D.br rfl (by decide) rfl (fun hc => ?_) (fun hc => ?_)
    · refine D.run 2 rfl ?_
      refine D.st rfl (by decide) (gf_1 h82_4) ?_
      refine D.run 3 rfl ?_
      refine D.gd fun hg => ?_
      refine D.st rfl (by decide) (al_i (by decide) (by first | rfl | decide) hg.1 hg.2) ?_
      show _ → Rn E 227 (21, [.ref 82, .int a1, .int a2, .int a3, us, us, us], [.int (I (126 + 22) (I 82 32).toNatClampNeg), .int a1], wT I R) o w
      refine D.br rfl (by decide) rfl (fun hc => ?_) (fun hc => ?_)
      · refine D.run 2 rfl ?_
        refine D.st rfl (by decide) (gf_1 h82_4) ?_
        refine D.run 3 rfl ?_
        refine D.gd fun hg => ?_
        refine D.st rfl (by decide) (al_i (by decide) (by first | rfl | decide) hg.1 hg.2) ?_
        show _ → Rn E 227 (37, [.ref 82, .int a1, .int a2, .int a3, us, us, us], [.int (I (126 + 23) (I 82 32).toNatClampNeg), .ref 82], wT I R) o w
        refine D.call rfl rfl rfl rfl (fun q h => x228_ok h) (fun q1 => ?_)
        exact fun h => by obtain ⟨rfl, rfl⟩ := hT _ (D.some h); exact Rn.ret rfl rfl rfl
      · refine D.run 3 rfl ?_
        refine D.gd fun hg => ?_
        refine D.st rfl (by decide) (al_b (by decide) (by first | rfl | decide) hg.1 hg.2) ?_
        refine D.br rfl (by decide) rfl (fun hc => ?_) (fun hc => ?_)
        · refine D.run 3 rfl ?_
          refine D.gd fun hg => ?_
          refine D.st rfl (by decide) (al_b (by decide) (by first | rfl | decide) hg.1 hg.2) ?_
          have Kj111 : ∀ (q2 : Int32), Dq ((l227_116 126 a1 a2 a3 100000 q2 0 I).bind fun q4 => if inb a1 100 then if inb a1 100 then if inb a1 100 then Lt (up2 (up2 (up2 q4.2 175 a1.toNatClampNeg (vp_nar .boolean 1)) 177 a1.toNatClampNeg a2) 178 a1.toNatClampNeg a3) fun J7 => if inb a1 100 then (if (J7 176 a1.toNatClampNeg) = 0 then if q4.1 = 0 then some 0 else some 1 else some 1).bind fun (q8 : Int32) => if inb a1 100 then if inb (J7 82 32) 24 then if a2 ≤ ((up2 J7 176 a1.toNatClampNeg (vp_nar .boolean q8)) (126 + 24) (J7 82 32).toNatClampNeg) then some (up2 J7 176 a1.toNatClampNeg (vp_nar .boolean q8)) else if inb (J7 82 32) 24 then Lt (up2 (up2 J7 176 a1.toNatClampNeg (vp_nar .boolean q8)) (126 + 24) (J7 82 32).toNatClampNeg a2) fun J9 => some J9 else none else none else none else none else none else none else none) T → Rn E 227 (111, [.ref 82, .int a1, .int a2, .int a3, us, us, us], [.int q2], wT I R) o w := by
            intro q2
            refine D.run 3 rfl ?_
            refine D.bind (l227_116_ok (by decide) h82_4 (fun q4 e5 he5 e6 he6 => ?_) 100000 _ _ _ _ (by first | rfl | assumption))
            refine D.run 4 rfl ?_
            refine D.gd fun hg => ?_
            refine D.st rfl (by decide) (as_z (by decide) (by first | rfl | decide) hg.1 hg.2) ?_
            refine D.run 4 rfl ?_
            refine D.gd fun hg => ?_
            refine D.st rfl (by decide) (as_i (by decide) (by first | rfl | decide) hg.1 hg.2) ?_
            show _ → Rn E 227 (219, [.ref 82, .int a1, .int a2, .int a3, .int q4.1, e5, e6], [], wT (up2 (up2 q4.2 175 a1.toNatClampNeg (vp_nar .boolean 1)) 177 a1.toNatClampNeg a2) R) o w
            refine D.run 4 rfl ?_
            refine D.gd fun hg => ?_
            refine D.st rfl (by decide) (as_i (by decide) (by first | rfl | decide) hg.1 hg.2) ?_
            refine D.letS (fun J7 => ?_)
            refine D.run 6 rfl ?_
            refine D.gd fun hg => ?_
            refine D.st rfl (by decide) (al_b (by decide) (by first | rfl | decide) hg.1 hg.2) ?_
            show _ → Rn E 227 (237, [.ref 82, .int a1, .int a2, .int a3, .int q4.1, e5, e6], [.int (J7 176 a1.toNatClampNeg), .int a1, .ref 176], wT J7 R) o w
            have Kj250 : ∀ (q8 : Int32), Dq (if inb a1 100 then if inb (J7 82 32) 24 then if a2 ≤ ((up2 J7 176 a1.toNatClampNeg (vp_nar .boolean q8)) (126 + 24) (J7 82 32).toNatClampNeg) then some (up2 J7 176 a1.toNatClampNeg (vp_nar .boolean q8)) else if inb (J7 82 32) 24 then Lt (up2 (up2 J7 176 a1.toNatClampNeg (vp_nar .boolean q8)) (126 + 24) (J7 82 32).toNatClampNeg a2) fun J9 => some J9 else none else none else none) T → Rn E 227 (250, [.ref 82, .int a1, .int a2, .int a3, .int q4.1, e5, e6], [.int q8, .int a1, .ref 176], wT J7 R) o w := by
              intro q8
              refine D.gd fun hg => ?_
              refine D.st rfl (by decide) (as_z (by decide) (by first | rfl | decide) hg.1 hg.2) ?_
              refine D.run 2 rfl ?_
              refine D.st rfl (by decide) (gf_1 h82_4) ?_
              refine D.run 3 rfl ?_
              refine D.gd fun hg => ?_
              refine D.st rfl (by decide) (al_i (by decide) (by first | rfl | decide) hg.1 hg.2) ?_
              show _ → Rn E 227 (264, [.ref 82, .int a1, .int a2, .int a3, .int q4.1, e5, e6], [.int ((up2 J7 176 a1.toNatClampNeg (vp_nar .boolean q8)) (126 + 24) (J7 82 32).toNatClampNeg), .int a2], wT (up2 J7 176 a1.toNatClampNeg (vp_nar .boolean q8)) R) o w
              refine D.br rfl (by decide) rfl (fun hc => ?_) (fun hc => ?_)
              · exact fun h => by obtain ⟨rfl, rfl⟩ := hT _ (D.some h); exact Rn.ret rfl rfl rfl
              · refine D.run 1 rfl ?_
                refine D.st rfl (by decide) (gf_1 h82_4) ?_
                refine D.run 4 rfl ?_
                refine D.gd fun hg => ?_
                refine D.st rfl (by decide) (as_i (by decide) (by first | rfl | decide) hg.1 hg.2) ?_
                refine D.letS (fun J9 => ?_)
                show _ → Rn E 227 (280, [.ref 82, .int a1, .int a2, .int a3, .int q4.1, e5, e6], [], wT J9 R) o w
                exact fun h => by obtain ⟨rfl, rfl⟩ := hT _ (D.some h); exact Rn.ret rfl rfl rfl
            refine D.jn (fun T250 c250 => ?_)
            refine D.br rfl (by decide) rfl (fun hc => ?_) (fun hc => ?_)
            · refine D.run 1 rfl ?_
              refine D.br rfl (by decide) rfl (fun hc => ?_) (fun hc => ?_)
              · refine D.run 1 rfl ?_
                exact fun h => Kj250 _   (c250 _ (D.some h))
              · refine D.run 2 rfl ?_
                exact fun h => Kj250 _   (c250 _ (D.some h))
            · refine D.run 2 rfl ?_
              exact fun h => Kj250 _   (c250 _ (D.some h))
          refine D.jn (fun T111 c111 => ?_)
          refine D.br rfl (by decide) rfl (fun hc => ?_) (fun hc => ?_)
          · refine D.run 2 rfl ?_
            exact fun h => Kj111 _   (c111 _ (D.some h))
          · refine D.run 1 rfl ?_
            exact fun h => Kj111 _   (c111 _ (D.some h))
        · refine D.run 3 rfl ?_
          refine D.gd fun hg => ?_
          refine D.st rfl (by decide) (al_i (by decide) (by first | rfl | decide) hg.1 hg.2) ?_
          refine D.run 1 rfl ?_
          refine D.br rfl (by decide) rfl (fun hc => ?_) (fun hc => ?_)
          · refine D.run 3 rfl ?_
            refine D.gd fun hg => ?_
            refine D.st rfl (by decide) (al_i (by decide) (by first | rfl | decide) hg.1 hg.2) ?_
            refine D.run 1 rfl ?_
            refine D.br rfl (by decide) rfl (fun hc => ?_) (fun hc => ?_)
            · refine D.run 3 rfl ?_
              refine D.gd fun hg => ?_
              refine D.st rfl (by decide) (al_b (by decide) (by first | rfl | decide) hg.1 hg.2) ?_
              have Kj111 : ∀ (q10 : Int32), Dq ((l227_116 126 a1 a2 a3 100000 q10 0 I).bind fun q11 => if inb a1 100 then if inb a1 100 then if inb a1 100 then Lt (up2 (up2 (up2 q11.2 175 a1.toNatClampNeg (vp_nar .boolean 1)) 177 a1.toNatClampNeg a2) 178 a1.toNatClampNeg a3) fun J14 => if inb a1 100 then (if (J14 176 a1.toNatClampNeg) = 0 then if q11.1 = 0 then some 0 else some 1 else some 1).bind fun (q15 : Int32) => if inb a1 100 then if inb (J14 82 32) 24 then if a2 ≤ ((up2 J14 176 a1.toNatClampNeg (vp_nar .boolean q15)) (126 + 24) (J14 82 32).toNatClampNeg) then some (up2 J14 176 a1.toNatClampNeg (vp_nar .boolean q15)) else if inb (J14 82 32) 24 then Lt (up2 (up2 J14 176 a1.toNatClampNeg (vp_nar .boolean q15)) (126 + 24) (J14 82 32).toNatClampNeg a2) fun J16 => some J16 else none else none else none else none else none else none else none) T → Rn E 227 (111, [.ref 82, .int a1, .int a2, .int a3, us, us, us], [.int q10], wT I R) o w := by
                intro q10
                refine D.run 3 rfl ?_
                refine D.bind (l227_116_ok (by decide) h82_4 (fun q11 e12 he12 e13 he13 => ?_) 100000 _ _ _ _ (by first | rfl | assumption))
                refine D.run 4 rfl ?_
                refine D.gd fun hg => ?_
                refine D.st rfl (by decide) (as_z (by decide) (by first | rfl | decide) hg.1 hg.2) ?_
                refine D.run 4 rfl ?_
                refine D.gd fun hg => ?_
                refine D.st rfl (by decide) (as_i (by decide) (by first | rfl | decide) hg.1 hg.2) ?_
                show _ → Rn E 227 (219, [.ref 82, .int a1, .int a2, .int a3, .int q11.1, e12, e13], [], wT (up2 (up2 q11.2 175 a1.toNatClampNeg (vp_nar .boolean 1)) 177 a1.toNatClampNeg a2) R) o w
                refine D.run 4 rfl ?_
                refine D.gd fun hg => ?_
                refine D.st rfl (by decide) (as_i (by decide) (by first | rfl | decide) hg.1 hg.2) ?_
                refine D.letS (fun J14 => ?_)
                refine D.run 6 rfl ?_
                refine D.gd fun hg => ?_
                refine D.st rfl (by decide) (al_b (by decide) (by first | rfl | decide) hg.1 hg.2) ?_
                show _ → Rn E 227 (237, [.ref 82, .int a1, .int a2, .int a3, .int q11.1, e12, e13], [.int (J14 176 a1.toNatClampNeg), .int a1, .ref 176], wT J14 R) o w
                have Kj250 : ∀ (q15 : Int32), Dq (if inb a1 100 then if inb (J14 82 32) 24 then if a2 ≤ ((up2 J14 176 a1.toNatClampNeg (vp_nar .boolean q15)) (126 + 24) (J14 82 32).toNatClampNeg) then some (up2 J14 176 a1.toNatClampNeg (vp_nar .boolean q15)) else if inb (J14 82 32) 24 then Lt (up2 (up2 J14 176 a1.toNatClampNeg (vp_nar .boolean q15)) (126 + 24) (J14 82 32).toNatClampNeg a2) fun J16 => some J16 else none else none else none) T → Rn E 227 (250, [.ref 82, .int a1, .int a2, .int a3, .int q11.1, e12, e13], [.int q15, .int a1, .ref 176], wT J14 R) o w := by
                  intro q15
                  refine D.gd fun hg => ?_
                  refine D.st rfl (by decide) (as_z (by decide) (by first | rfl | decide) hg.1 hg.2) ?_
                  refine D.run 2 rfl ?_
                  refine D.st rfl (by decide) (gf_1 h82_4) ?_
                  refine D.run 3 rfl ?_
                  refine D.gd fun hg => ?_
                  refine D.st rfl (by decide) (al_i (by decide) (by first | rfl | decide) hg.1 hg.2) ?_
                  show _ → Rn E 227 (264, [.ref 82, .int a1, .int a2, .int a3, .int q11.1, e12, e13], [.int ((up2 J14 176 a1.toNatClampNeg (vp_nar .boolean q15)) (126 + 24) (J14 82 32).toNatClampNeg), .int a2], wT (up2 J14 176 a1.toNatClampNeg (vp_nar .boolean q15)) R) o w
                  refine D.br rfl (by decide) rfl (fun hc => ?_) (fun hc => ?_)
                  · exact fun h => by obtain ⟨rfl, rfl⟩ := hT _ (D.some h); exact Rn.ret rfl rfl rfl
                  · refine D.run 1 rfl ?_
                    refine D.st rfl (by decide) (gf_1 h82_4) ?_
                    refine D.run 4 rfl ?_
                    refine D.gd fun hg => ?_
                    refine D.st rfl (by decide) (as_i (by decide) (by first | rfl | decide) hg.1 hg.2) ?_
                    refine D.letS (fun J16 => ?_)
                    show _ → Rn E 227 (280, [.ref 82, .int a1, .int a2, .int a3, .int q11.1, e12, e13], [], wT J16 R) o w
                    exact fun h => by obtain ⟨rfl, rfl⟩ := hT _ (D.some h); exact Rn.ret rfl rfl rfl
                refine D.jn (fun T250 c250 => ?_)
                refine D.br rfl (by decide) rfl (fun hc => ?_) (fun hc => ?_)
                · refine D.run 1 rfl ?_
                  refine D.br rfl (by decide) rfl (fun hc => ?_) (fun hc => ?_)
                  · refine D.run 1 rfl ?_
                    exact fun h => Kj250 _   (c250 _ (D.some h))
                  · refine D.run 2 rfl ?_
                    exact fun h => Kj250 _   (c250 _ (D.some h))
                · refine D.run 2 rfl ?_
                  exact fun h => Kj250 _   (c250 _ (D.some h))
              refine D.jn (fun T111 c111 => ?_)
              refine D.br rfl (by decide) rfl (fun hc => ?_) (fun hc => ?_)
              · refine D.run 2 rfl ?_
                exact fun h => Kj111 _   (c111 _ (D.some h))
              · refine D.run 1 rfl ?_
                exact fun h => Kj111 _   (c111 _ (D.some h))
            · refine D.run 2 rfl ?_
              refine D.st rfl (by decide) (gf_1 h82_4) ?_
              refine D.run 2 rfl ?_
              refine D.st rfl (by decide) (gf_1 h82_4) ?_
              refine D.run 3 rfl ?_
              refine D.gd fun hg => ?_
              refine D.st rfl (by decide) (al_i (by decide) (by first | rfl | decide) hg.1 hg.2) ?_
              show _ → Rn E 227 (90, [.ref 82, .int a1, .int a2, .int a3, us, us, us], [.int (I (126 + 21) (I 82 32).toNatClampNeg), .ref (126 + 28), .ref 82], wT I R) o w
              refine D.run 2 rfl ?_
              refine D.gd fun hg => ?_
              refine D.st rfl (by decide) (al_i (by decide) (by first | rfl | decide) hg.1 hg.2) ?_
              refine D.call rfl rfl rfl rfl (fun q h => x228_ok h) (fun q17 => ?_)
              exact fun h => by obtain ⟨rfl, rfl⟩ := hT _ (D.some h); exact Rn.ret rfl rfl rfl
          · refine D.run 2 rfl ?_
            refine D.st rfl (by decide) (gf_1 h82_4) ?_
            refine D.run 2 rfl ?_
            refine D.st rfl (by decide) (gf_1 h82_4) ?_
            refine D.run 3 rfl ?_
            refine D.gd fun hg => ?_
            refine D.st rfl (by decide) (al_i (by decide) (by first | rfl | decide) hg.1 hg.2) ?_
            show _ → Rn E 227 (90, [.ref 82, .int a1, .int a2, .int a3, us, us, us], [.int (I (126 + 21) (I 82 32).toNatClampNeg), .ref (126 + 28), .ref 82], wT I R) o w
            refine D.run 2 rfl ?_
            refine D.gd fun hg => ?_
            refine D.st rfl (by decide) (al_i (by decide) (by first | rfl | decide) hg.1 hg.2) ?_
            refine D.call rfl rfl rfl rfl (fun q h => x228_ok h) (fun q18 => ?_)
            exact fun h => by obtain ⟨rfl, rfl⟩ := hT _ (D.some h); exact Rn.ret rfl rfl rfl
    · exact fun h => by obtain ⟨rfl, rfl⟩ := hT _ (D.some h); exact Rn.ret rfl rfl rfl
set_option maxRecDepth 20000 in
theorem x227_ok {E : Xe} {R : Nat → Nat → Option Nat} {Z : Nat} {I : St} (hZ : Z = 85 ∨ Z = 126) (h82_4 : R 82 4 = some Z) {a1 a2 a3 : Int32} {q : St} (h : x227 Z I a1 a2 a3 = some q) : Rn E 227 (0, loc0 227 [.ref 82, .int a1, .int a2, .int a3], [], wT I R) (.returned none) (wT q R) := x227_D hZ h82_4 _ _ _ (T := fun r => r = q) (by rintro r rfl; exact ⟨rfl, rfl⟩) ⟨_, h, rfl⟩
/-- TaintHouseModel.effectOfParts(II)V -/
def l234_248 (Z : Nat) (b2 : Int32) (b3 : Int32) : Nat → Int32 → St → Option (St)
  | 0, _, _ => none
  | n + 1, b4, I => if b4 < 0 then some I else if inb b3 24 then (if (((I (Z + 19) b3.toNatClampNeg) >>> (b4 &&& 31)) &&& 1) = 1 then some 2 else some 1).bind fun (q16 : Int32) => (x231 I q16).bind fun q17 => l234_248 Z b2 b3 n (b4 + (-1)) q17.2 else none
set_option maxRecDepth 20000 in
theorem l234_248_ok {E : Xe} {R : Nat → Nat → Option Nat} {Z : Nat} {o : Outcome} {w : Wd} {T : (St) → Prop} {b2 : Int32} {b3 : Int32} (hZ : Z = 85 ∨ Z = 126) (h82_4 : R 82 4 = some Z) (K : ∀ (q : St) (e1 : Value) (_ : is1 e1 = true) (e4 : Value) (_ : is1 e4 = true) (e5 : Value) (_ : is1 e5 = true), T q → Rn E 234 (288, [.ref 82, e1, .int b2, .int b3, e4, e5], [], wT q R) o w) : ∀ (n : Nat) (b4 : Int32) (d1 : Value) (d5 : Value) (I : St), is1 d1 = true → is1 d5 = true → Dq (l234_248 Z b2 b3 n b4 I) T → Rn E 234 (248, [.ref 82, d1, .int b2, .int b3, .int b4, d5], [], wT I R) o w := by
  rcases hZ with rfl | rfl
  · intro n
    induction n with
    | zero => intro b4 d1 d5 I hd1 hd5; exact D.none
    | succ n ih =>
      intro b4 d1 d5 I hd1 hd5
      rw [l234_248]
      refine D.run 1 rfl ?_
      refine D.br rfl (by decide) rfl (fun hc => ?_) (fun hc => ?_)
      · exact fun h => D.to h (K _ _ (by first | rfl | assumption) _ (by first | rfl | assumption) _ (by first | rfl | assumption))
      · refine D.run 2 rfl ?_
        refine D.st rfl (by decide) (gf_1 h82_4) ?_
        refine D.run 2 rfl ?_
        refine D.gd fun hg => ?_
        refine D.st rfl (by decide) (al_i (by decide) (by first | rfl | decide) hg.1 hg.2) ?_
        show _ → Rn E 234 (263, [.ref 82, d1, .int b2, .int b3, .int b4, d5], [.int (I (85 + 19) b3.toNatClampNeg), .ref 82], wT I R) o w
        refine D.run 5 rfl ?_
        have Kj277 : ∀ (q16 : Int32), Dq ((x231 I q16).bind fun q17 => l234_248 85 b2 b3 n (b4 + (-1)) q17.2) T → Rn E 234 (277, [.ref 82, d1, .int b2, .int b3, .int b4, d5], [.int q16, .ref 82], wT I R) o w := by
          intro q16
          refine D.call rfl rfl rfl rfl (fun q h => x231_ok h) (fun q17 => ?_)
          refine D.run 3 rfl ?_
          exact ih _ _ _ _ (by first | rfl | assumption) (by first | rfl | assumption)
        refine D.jn (fun T277 c277 => ?_)
        refine D.br rfl (by decide) rfl (fun hc => ?_) (fun hc => ?_)
        · refine D.run 2 rfl ?_
          exact fun h => Kj277 _   (c277 _ (D.some h))
        · refine D.run 1 rfl ?_
          exact fun h => Kj277 _   (c277 _ (D.some h))
  · intro n
    induction n with
    | zero => intro b4 d1 d5 I hd1 hd5; exact D.none
    | succ n ih =>
      intro b4 d1 d5 I hd1 hd5
      rw [l234_248]
      refine D.run 1 rfl ?_
      refine D.br rfl (by decide) rfl (fun hc => ?_) (fun hc => ?_)
      · exact fun h => D.to h (K _ _ (by first | rfl | assumption) _ (by first | rfl | assumption) _ (by first | rfl | assumption))
      · refine D.run 2 rfl ?_
        refine D.st rfl (by decide) (gf_1 h82_4) ?_
        refine D.run 2 rfl ?_
        refine D.gd fun hg => ?_
        refine D.st rfl (by decide) (al_i (by decide) (by first | rfl | decide) hg.1 hg.2) ?_
        show _ → Rn E 234 (263, [.ref 82, d1, .int b2, .int b3, .int b4, d5], [.int (I (126 + 19) b3.toNatClampNeg), .ref 82], wT I R) o w
        refine D.run 5 rfl ?_
        have Kj277 : ∀ (q16 : Int32), Dq ((x231 I q16).bind fun q17 => l234_248 126 b2 b3 n (b4 + (-1)) q17.2) T → Rn E 234 (277, [.ref 82, d1, .int b2, .int b3, .int b4, d5], [.int q16, .ref 82], wT I R) o w := by
          intro q16
          refine D.call rfl rfl rfl rfl (fun q h => x231_ok h) (fun q17 => ?_)
          refine D.run 3 rfl ?_
          exact ih _ _ _ _ (by first | rfl | assumption) (by first | rfl | assumption)
        refine D.jn (fun T277 c277 => ?_)
        refine D.br rfl (by decide) rfl (fun hc => ?_) (fun hc => ?_)
        · refine D.run 2 rfl ?_
          exact fun h => Kj277 _   (c277 _ (D.some h))
        · refine D.run 1 rfl ?_
          exact fun h => Kj277 _   (c277 _ (D.some h))
def x234 (Z : Nat) (I : St) (a1 a2 : Int32) : Option (St) := if inb a1 2400 then if a2 = 38 then if inb (I (Z + 27) a1.toNatClampNeg) 100 then (x235 I 2 (I (Z + 11) (I (Z + 27) a1.toNatClampNeg).toNatClampNeg)).bind fun q1 => some q1 else none else if a2 = 39 then if inb (I (Z + 27) a1.toNatClampNeg) 100 then (x236 I 2 (I (Z + 11) (I (Z + 27) a1.toNatClampNeg).toNatClampNeg) 0).bind fun q2 => some q2 else none else if a2 = 40 then if inb (I (Z + 27) a1.toNatClampNeg) 16 then (x232 I (I (Z + 14) (I (Z + 27) a1.toNatClampNeg).toNatClampNeg)).bind fun q3 => some q3 else none else if a2 = 41 then if inb (I (Z + 27) a1.toNatClampNeg) 16 then (x231 I (I (Z + 14) (I (Z + 27) a1.toNatClampNeg).toNatClampNeg)).bind fun q4 => some q4.2 else none else if a2 = 42 then (x235 I 1 2).bind fun q5 => some q5 else if a2 = 43 then (x235 I 1 2).bind fun q6 => some q6 else if a2 = 44 then (x236 I 2 1 1).bind fun q7 => some q7 else if a2 = 45 then (if a2 = 45 then some 1 else some 2).bind fun (q8 : Int32) => (x231 I q8).bind fun q9 => (x236 q9.2 2 1 0).bind fun q10 => some q10 else if a2 = 46 then (x236 I 2 1 2).bind fun q11 => some q11 else if a2 = 47 then (if a2 = 45 then some 1 else some 2).bind fun (q12 : Int32) => (x231 I q12).bind fun q13 => (x236 q13.2 2 1 0).bind fun q14 => some q14 else if a2 = 48 then (x235 I 2 1).bind fun q15 => some q15 else if a2 = 49 then if inb (I (Z + 27) a1.toNatClampNeg) 24 then (l234_248 Z a2 (I (Z + 27) a1.toNatClampNeg) 100000 ((I (Z + 18) (I (Z + 27) a1.toNatClampNeg).toNatClampNeg) - 1) I).bind fun q18 => (if a2 = 50 then (x231 q18 2).bind fun q22 => some (q22.1, q22.2) else some (0, q18)).bind fun (q23 : Int32 × St) => if inb (I (Z + 27) a1.toNatClampNeg) 24 then if (q23.2 (Z + 20) (I (Z + 27) a1.toNatClampNeg).toNatClampNeg) = 0 then some q23.2 else if inb (I (Z + 27) a1.toNatClampNeg) 24 then (x232 q23.2 (q23.2 (Z + 20) (I (Z + 27) a1.toNatClampNeg).toNatClampNeg)).bind fun q24 => some q24 else none else none else none else if a2 = 50 then if inb (I (Z + 27) a1.toNatClampNeg) 24 then (l234_248 Z a2 (I (Z + 27) a1.toNatClampNeg) 100000 ((I (Z + 18) (I (Z + 27) a1.toNatClampNeg).toNatClampNeg) - 1) I).bind fun q25 => (if a2 = 50 then (x231 q25 2).bind fun q29 => some (q29.1, q29.2) else some (0, q25)).bind fun (q30 : Int32 × St) => if inb (I (Z + 27) a1.toNatClampNeg) 24 then if (q30.2 (Z + 20) (I (Z + 27) a1.toNatClampNeg).toNatClampNeg) = 0 then some q30.2 else if inb (I (Z + 27) a1.toNatClampNeg) 24 then (x232 q30.2 (q30.2 (Z + 20) (I (Z + 27) a1.toNatClampNeg).toNatClampNeg)).bind fun q31 => some q31 else none else none else none else if a2 = 51 then if inb (I 82 32) 24 then if (I (Z + 20) (I 82 32).toNatClampNeg) = 0 then some I else if inb (I 82 32) 24 then (x231 I (I (Z + 20) (I 82 32).toNatClampNeg)).bind fun q32 => some q32.2 else none else none else if a2 = 52 then some I else if a2 = 53 then (x235 I 2 1).bind fun q33 => some q33 else if a2 = 54 then (x235 I 2 2).bind fun q34 => some q34 else some I else none
set_option maxRecDepth 20000 in
theorem x234_D {E : Xe} {R : Nat → Nat → Option Nat} {Z : Nat} {o : Outcome} {w : Wd} {T : (St) → Prop} {I : St} (hZ : Z = 85 ∨ Z = 126) (h82_4 : R 82 4 = some Z) (a1 a2 : Int32) (hT : ∀ r, T r → o = .returned none ∧ w = wT r R) : Dq (x234 Z I a1 a2) T → Rn E 234 (0, loc0 234 [.ref 82, .int a1, .int a2], [], wT I R) o w := by
  unfold x234
  rcases hZ with rfl | rfl
  · refine D.run 1 rfl ?_
    refine D.st rfl (by decide) (gf_1 h82_4) ?_
    refine D.run 2 rfl ?_
    refine D.gd fun hg => ?_
    refine D.st rfl (by decide) (al_i (by decide) (by first | rfl | decide) hg.1 hg.2) ?_
    show _ → Rn E 234 (9, [.ref 82, .int a1, .int a2, us, us, us], [.int (I (85 + 27) a1.toNatClampNeg)], wT I R) o w
    refine D.run 2 rfl ?_
    refine D.sw rfl (by decide) rfl ?_
    show _ → Rn E 234 (swT [(38, 92), (39, 109), (40, 127), (41, 143), (42, 161), (43, 161), (44, 170), (45, 190), (46, 180), (47, 190), (48, 217), (49, 235), (50, 235), (51, 333), (52, 373), (53, 217), (54, 226)] 373 _, _, _, _) _ _
    refine D.swc (fun hc => ?_) (fun hc => ?_)
    · refine D.run 3 rfl ?_
      refine D.st rfl (by decide) (gf_1 h82_4) ?_
      refine D.run 2 rfl ?_
      refine D.gd fun hg => ?_
      refine D.st rfl (by decide) (al_i (by decide) (by first | rfl | decide) hg.1 hg.2) ?_
      show _ → Rn E 234 (103, [.ref 82, .int a1, .int a2, .int (I (85 + 27) a1.toNatClampNeg), us, us], [.int (I (85 + 11) (I (85 + 27) a1.toNatClampNeg).toNatClampNeg), .int 2, .ref 82], wT I R) o w
      refine D.call rfl rfl rfl rfl (fun q h => x235_ok h) (fun q1 => ?_)
      refine D.run 1 rfl ?_
      exact fun h => by obtain ⟨rfl, rfl⟩ := hT _ (D.some h); exact Rn.ret rfl rfl rfl
    · refine D.swc (fun hc => ?_) (fun hc => ?_)
      · refine D.run 3 rfl ?_
        refine D.st rfl (by decide) (gf_1 h82_4) ?_
        refine D.run 2 rfl ?_
        refine D.gd fun hg => ?_
        refine D.st rfl (by decide) (al_i (by decide) (by first | rfl | decide) hg.1 hg.2) ?_
        show _ → Rn E 234 (120, [.ref 82, .int a1, .int a2, .int (I (85 + 27) a1.toNatClampNeg), us, us], [.int (I (85 + 11) (I (85 + 27) a1.toNatClampNeg).toNatClampNeg), .int 2, .ref 82], wT I R) o w
        refine D.run 1 rfl ?_
        refine D.call rfl rfl rfl rfl (fun q h => x236_ok h) (fun q2 => ?_)
        refine D.run 1 rfl ?_
        exact fun h => by obtain ⟨rfl, rfl⟩ := hT _ (D.some h); exact Rn.ret rfl rfl rfl
      · refine D.swc (fun hc => ?_) (fun hc => ?_)
        · refine D.run 2 rfl ?_
          refine D.st rfl (by decide) (gf_1 h82_4) ?_
          refine D.run 2 rfl ?_
          refine D.gd fun hg => ?_
          refine D.st rfl (by decide) (al_i (by decide) (by first | rfl | decide) hg.1 hg.2) ?_
          show _ → Rn E 234 (137, [.ref 82, .int a1, .int a2, .int (I (85 + 27) a1.toNatClampNeg), us, us], [.int (I (85 + 14) (I (85 + 27) a1.toNatClampNeg).toNatClampNeg), .ref 82], wT I R) o w
          refine D.call rfl rfl rfl rfl (fun q h => x232_ok h) (fun q3 => ?_)
          refine D.run 1 rfl ?_
          exact fun h => by obtain ⟨rfl, rfl⟩ := hT _ (D.some h); exact Rn.ret rfl rfl rfl
        · refine D.swc (fun hc => ?_) (fun hc => ?_)
          · refine D.run 2 rfl ?_
            refine D.st rfl (by decide) (gf_1 h82_4) ?_
            refine D.run 2 rfl ?_
            refine D.gd fun hg => ?_
            refine D.st rfl (by decide) (al_i (by decide) (by first | rfl | decide) hg.1 hg.2) ?_
            show _ → Rn E 234 (153, [.ref 82, .int a1, .int a2, .int (I (85 + 27) a1.toNatClampNeg), us, us], [.int (I (85 + 14) (I (85 + 27) a1.toNatClampNeg).toNatClampNeg), .ref 82], wT I R) o w
            refine D.call rfl rfl rfl rfl (fun q h => x231_ok h) (fun q4 => ?_)
            refine D.run 2 rfl ?_
            exact fun h => by obtain ⟨rfl, rfl⟩ := hT _ (D.some h); exact Rn.ret rfl rfl rfl
          · refine D.swc (fun hc => ?_) (fun hc => ?_)
            · refine D.run 3 rfl ?_
              refine D.call rfl rfl rfl rfl (fun q h => x235_ok h) (fun q5 => ?_)
              refine D.run 1 rfl ?_
              exact fun h => by obtain ⟨rfl, rfl⟩ := hT _ (D.some h); exact Rn.ret rfl rfl rfl
            · refine D.swc (fun hc => ?_) (fun hc => ?_)
              · refine D.run 3 rfl ?_
                refine D.call rfl rfl rfl rfl (fun q h => x235_ok h) (fun q6 => ?_)
                refine D.run 1 rfl ?_
                exact fun h => by obtain ⟨rfl, rfl⟩ := hT _ (D.some h); exact Rn.ret rfl rfl rfl
              · refine D.swc (fun hc => ?_) (fun hc => ?_)
                · refine D.run 4 rfl ?_
                  refine D.call rfl rfl rfl rfl (fun q h => x236_ok h) (fun q7 => ?_)
                  refine D.run 1 rfl ?_
                  exact fun h => by obtain ⟨rfl, rfl⟩ := hT _ (D.some h); exact Rn.ret rfl rfl rfl
                · refine D.swc (fun hc => ?_) (fun hc => ?_)
                  · refine D.run 3 rfl ?_
                    have Kj202 : ∀ (q8 : Int32), Dq ((x231 I q8).bind fun q9 => (x236 q9.2 2 1 0).bind fun q10 => some q10) T → Rn E 234 (202, [.ref 82, .int a1, .int a2, .int (I (85 + 27) a1.toNatClampNeg), us, us], [.int q8, .ref 82], wT I R) o w := by
                      intro q8
                      refine D.call rfl rfl rfl rfl (fun q h => x231_ok h) (fun q9 => ?_)
                      refine D.run 5 rfl ?_
                      refine D.call rfl rfl rfl rfl (fun q h => x236_ok h) (fun q10 => ?_)
                      refine D.run 1 rfl ?_
                      exact fun h => by obtain ⟨rfl, rfl⟩ := hT _ (D.some h); exact Rn.ret rfl rfl rfl
                    refine D.jn (fun T202 c202 => ?_)
                    refine D.br rfl (by decide) rfl (fun hc => ?_) (fun hc => ?_)
                    · refine D.run 2 rfl ?_
                      exact fun h => Kj202 _   (c202 _ (D.some h))
                    · refine D.run 1 rfl ?_
                      exact fun h => Kj202 _   (c202 _ (D.some h))
                  · refine D.swc (fun hc => ?_) (fun hc => ?_)
                    · refine D.run 4 rfl ?_
                      refine D.call rfl rfl rfl rfl (fun q h => x236_ok h) (fun q11 => ?_)
                      refine D.run 1 rfl ?_
                      exact fun h => by obtain ⟨rfl, rfl⟩ := hT _ (D.some h); exact Rn.ret rfl rfl rfl
                    · refine D.swc (fun hc => ?_) (fun hc => ?_)
                      · refine D.run 3 rfl ?_
                        have Kj202 : ∀ (q12 : Int32), Dq ((x231 I q12).bind fun q13 => (x236 q13.2 2 1 0).bind fun q14 => some q14) T → Rn E 234 (202, [.ref 82, .int a1, .int a2, .int (I (85 + 27) a1.toNatClampNeg), us, us], [.int q12, .ref 82], wT I R) o w := by
                          intro q12
                          refine D.call rfl rfl rfl rfl (fun q h => x231_ok h) (fun q13 => ?_)
                          refine D.run 5 rfl ?_
                          refine D.call rfl rfl rfl rfl (fun q h => x236_ok h) (fun q14 => ?_)
                          refine D.run 1 rfl ?_
                          exact fun h => by obtain ⟨rfl, rfl⟩ := hT _ (D.some h); exact Rn.ret rfl rfl rfl
                        refine D.jn (fun T202 c202 => ?_)
                        refine D.br rfl (by decide) rfl (fun hc => ?_) (fun hc => ?_)
                        · refine D.run 2 rfl ?_
                          exact fun h => Kj202 _   (c202 _ (D.some h))
                        · refine D.run 1 rfl ?_
                          exact fun h => Kj202 _   (c202 _ (D.some h))
                      · refine D.swc (fun hc => ?_) (fun hc => ?_)
                        · refine D.run 3 rfl ?_
                          refine D.call rfl rfl rfl rfl (fun q h => x235_ok h) (fun q15 => ?_)
                          refine D.run 1 rfl ?_
                          exact fun h => by obtain ⟨rfl, rfl⟩ := hT _ (D.some h); exact Rn.ret rfl rfl rfl
                        · refine D.swc (fun hc => ?_) (fun hc => ?_)
                          · refine D.run 1 rfl ?_
                            refine D.st rfl (by decide) (gf_1 h82_4) ?_
                            refine D.run 2 rfl ?_
                            refine D.gd fun hg => ?_
                            refine D.st rfl (by decide) (al_i (by decide) (by first | rfl | decide) hg.1 hg.2) ?_
                            show _ → Rn E 234 (244, [.ref 82, .int a1, .int a2, .int (I (85 + 27) a1.toNatClampNeg), us, us], [.int (I (85 + 18) (I (85 + 27) a1.toNatClampNeg).toNatClampNeg)], wT I R) o w
                            refine D.run 3 rfl ?_
                            refine D.bind (l234_248_ok (by decide) h82_4 (fun q18 e19 he19 e20 he20 e21 he21 => ?_) 100000 _ _ _ _ (by first | rfl | assumption) (by first | rfl | assumption))
                            refine D.run 2 rfl ?_
                            have Kj303 : ∀ (q23 : Int32 × St), Dq (if inb (I (85 + 27) a1.toNatClampNeg) 24 then if (q23.2 (85 + 20) (I (85 + 27) a1.toNatClampNeg).toNatClampNeg) = 0 then some q23.2 else if inb (I (85 + 27) a1.toNatClampNeg) 24 then (x232 q23.2 (q23.2 (85 + 20) (I (85 + 27) a1.toNatClampNeg).toNatClampNeg)).bind fun q24 => some q24 else none else none) T → Rn E 234 (303, [.ref 82, e19, .int a2, .int (I (85 + 27) a1.toNatClampNeg), e20, e21], [.int q23.1], wT q23.2 R) o w := by
                              intro q23
                              refine D.run 2 rfl ?_
                              refine D.st rfl (by decide) (gf_1 h82_4) ?_
                              refine D.run 2 rfl ?_
                              refine D.gd fun hg => ?_
                              refine D.st rfl (by decide) (al_i (by decide) (by first | rfl | decide) hg.1 hg.2) ?_
                              show _ → Rn E 234 (314, [.ref 82, e19, .int a2, .int (I (85 + 27) a1.toNatClampNeg), .int q23.1, e21], [.int (q23.2 (85 + 20) (I (85 + 27) a1.toNatClampNeg).toNatClampNeg)], wT q23.2 R) o w
                              refine D.br rfl (by decide) rfl (fun hc => ?_) (fun hc => ?_)
                              · exact fun h => by obtain ⟨rfl, rfl⟩ := hT _ (D.some h); exact Rn.ret rfl rfl rfl
                              · refine D.run 2 rfl ?_
                                refine D.st rfl (by decide) (gf_1 h82_4) ?_
                                refine D.run 2 rfl ?_
                                refine D.gd fun hg => ?_
                                refine D.st rfl (by decide) (al_i (by decide) (by first | rfl | decide) hg.1 hg.2) ?_
                                show _ → Rn E 234 (327, [.ref 82, e19, .int a2, .int (I (85 + 27) a1.toNatClampNeg), .int q23.1, e21], [.int (q23.2 (85 + 20) (I (85 + 27) a1.toNatClampNeg).toNatClampNeg), .ref 82], wT q23.2 R) o w
                                refine D.call rfl rfl rfl rfl (fun q h => x232_ok h) (fun q24 => ?_)
                                refine D.run 1 rfl ?_
                                exact fun h => by obtain ⟨rfl, rfl⟩ := hT _ (D.some h); exact Rn.ret rfl rfl rfl
                            refine D.jn (fun T303 c303 => ?_)
                            refine D.br rfl (by decide) rfl (fun hc => ?_) (fun hc => ?_)
                            · refine D.run 2 rfl ?_
                              refine D.call rfl rfl rfl rfl (fun q h => x231_ok h) (fun q22 => ?_)
                              refine D.run 1 rfl ?_
                              exact fun h => Kj303 _   (c303 _ (D.some h))
                            · refine D.run 1 rfl ?_
                              exact fun h => Kj303 _   (c303 _ (D.some h))
                          · refine D.swc (fun hc => ?_) (fun hc => ?_)
                            · refine D.run 1 rfl ?_
                              refine D.st rfl (by decide) (gf_1 h82_4) ?_
                              refine D.run 2 rfl ?_
                              refine D.gd fun hg => ?_
                              refine D.st rfl (by decide) (al_i (by decide) (by first | rfl | decide) hg.1 hg.2) ?_
                              show _ → Rn E 234 (244, [.ref 82, .int a1, .int a2, .int (I (85 + 27) a1.toNatClampNeg), us, us], [.int (I (85 + 18) (I (85 + 27) a1.toNatClampNeg).toNatClampNeg)], wT I R) o w
                              refine D.run 3 rfl ?_
                              refine D.bind (l234_248_ok (by decide) h82_4 (fun q25 e26 he26 e27 he27 e28 he28 => ?_) 100000 _ _ _ _ (by first | rfl | assumption) (by first | rfl | assumption))
                              refine D.run 2 rfl ?_
                              have Kj303 : ∀ (q30 : Int32 × St), Dq (if inb (I (85 + 27) a1.toNatClampNeg) 24 then if (q30.2 (85 + 20) (I (85 + 27) a1.toNatClampNeg).toNatClampNeg) = 0 then some q30.2 else if inb (I (85 + 27) a1.toNatClampNeg) 24 then (x232 q30.2 (q30.2 (85 + 20) (I (85 + 27) a1.toNatClampNeg).toNatClampNeg)).bind fun q31 => some q31 else none else none) T → Rn E 234 (303, [.ref 82, e26, .int a2, .int (I (85 + 27) a1.toNatClampNeg), e27, e28], [.int q30.1], wT q30.2 R) o w := by
                                intro q30
                                refine D.run 2 rfl ?_
                                refine D.st rfl (by decide) (gf_1 h82_4) ?_
                                refine D.run 2 rfl ?_
                                refine D.gd fun hg => ?_
                                refine D.st rfl (by decide) (al_i (by decide) (by first | rfl | decide) hg.1 hg.2) ?_
                                show _ → Rn E 234 (314, [.ref 82, e26, .int a2, .int (I (85 + 27) a1.toNatClampNeg), .int q30.1, e28], [.int (q30.2 (85 + 20) (I (85 + 27) a1.toNatClampNeg).toNatClampNeg)], wT q30.2 R) o w
                                refine D.br rfl (by decide) rfl (fun hc => ?_) (fun hc => ?_)
                                · exact fun h => by obtain ⟨rfl, rfl⟩ := hT _ (D.some h); exact Rn.ret rfl rfl rfl
                                · refine D.run 2 rfl ?_
                                  refine D.st rfl (by decide) (gf_1 h82_4) ?_
                                  refine D.run 2 rfl ?_
                                  refine D.gd fun hg => ?_
                                  refine D.st rfl (by decide) (al_i (by decide) (by first | rfl | decide) hg.1 hg.2) ?_
                                  show _ → Rn E 234 (327, [.ref 82, e26, .int a2, .int (I (85 + 27) a1.toNatClampNeg), .int q30.1, e28], [.int (q30.2 (85 + 20) (I (85 + 27) a1.toNatClampNeg).toNatClampNeg), .ref 82], wT q30.2 R) o w
                                  refine D.call rfl rfl rfl rfl (fun q h => x232_ok h) (fun q31 => ?_)
                                  refine D.run 1 rfl ?_
                                  exact fun h => by obtain ⟨rfl, rfl⟩ := hT _ (D.some h); exact Rn.ret rfl rfl rfl
                              refine D.jn (fun T303 c303 => ?_)
                              refine D.br rfl (by decide) rfl (fun hc => ?_) (fun hc => ?_)
                              · refine D.run 2 rfl ?_
                                refine D.call rfl rfl rfl rfl (fun q h => x231_ok h) (fun q29 => ?_)
                                refine D.run 1 rfl ?_
                                exact fun h => Kj303 _   (c303 _ (D.some h))
                              · refine D.run 1 rfl ?_
                                exact fun h => Kj303 _   (c303 _ (D.some h))
                            · refine D.swc (fun hc => ?_) (fun hc => ?_)
                              · refine D.run 1 rfl ?_
                                refine D.st rfl (by decide) (gf_1 h82_4) ?_
                                refine D.run 3 rfl ?_
                                refine D.gd fun hg => ?_
                                refine D.st rfl (by decide) (al_i (by decide) (by first | rfl | decide) hg.1 hg.2) ?_
                                show _ → Rn E 234 (345, [.ref 82, .int a1, .int a2, .int (I (85 + 27) a1.toNatClampNeg), us, us], [.int (I (85 + 20) (I 82 32).toNatClampNeg)], wT I R) o w
                                refine D.br rfl (by decide) rfl (fun hc => ?_) (fun hc => ?_)
                                · refine D.run 3 rfl ?_
                                  exact fun h => by obtain ⟨rfl, rfl⟩ := hT _ (D.some h); exact Rn.ret rfl rfl rfl
                                · refine D.run 2 rfl ?_
                                  refine D.st rfl (by decide) (gf_1 h82_4) ?_
                                  refine D.run 3 rfl ?_
                                  refine D.gd fun hg => ?_
                                  refine D.st rfl (by decide) (al_i (by decide) (by first | rfl | decide) hg.1 hg.2) ?_
                                  show _ → Rn E 234 (361, [.ref 82, .int a1, .int a2, .int (I (85 + 27) a1.toNatClampNeg), us, us], [.int (I (85 + 20) (I 82 32).toNatClampNeg), .ref 82], wT I R) o w
                                  refine D.call rfl rfl rfl rfl (fun q h => x231_ok h) (fun q32 => ?_)
                                  refine D.run 3 rfl ?_
                                  exact fun h => by obtain ⟨rfl, rfl⟩ := hT _ (D.some h); exact Rn.ret rfl rfl rfl
                              · refine D.swc (fun hc => ?_) (fun hc => ?_)
                                · exact fun h => by obtain ⟨rfl, rfl⟩ := hT _ (D.some h); exact Rn.ret rfl rfl rfl
                                · refine D.swc (fun hc => ?_) (fun hc => ?_)
                                  · refine D.run 3 rfl ?_
                                    refine D.call rfl rfl rfl rfl (fun q h => x235_ok h) (fun q33 => ?_)
                                    refine D.run 1 rfl ?_
                                    exact fun h => by obtain ⟨rfl, rfl⟩ := hT _ (D.some h); exact Rn.ret rfl rfl rfl
                                  · refine D.swc (fun hc => ?_) (fun hc => ?_)
                                    · refine D.run 3 rfl ?_
                                      refine D.call rfl rfl rfl rfl (fun q h => x235_ok h) (fun q34 => ?_)
                                      refine D.run 1 rfl ?_
                                      exact fun h => by obtain ⟨rfl, rfl⟩ := hT _ (D.some h); exact Rn.ret rfl rfl rfl
                                    · exact fun h => by obtain ⟨rfl, rfl⟩ := hT _ (D.some h); exact Rn.ret rfl rfl rfl
  · refine D.run 1 rfl ?_
    refine D.st rfl (by decide) (gf_1 h82_4) ?_
    refine D.run 2 rfl ?_
    refine D.gd fun hg => ?_
    refine D.st rfl (by decide) (al_i (by decide) (by first | rfl | decide) hg.1 hg.2) ?_
    show _ → Rn E 234 (9, [.ref 82, .int a1, .int a2, us, us, us], [.int (I (126 + 27) a1.toNatClampNeg)], wT I R) o w
    refine D.run 2 rfl ?_
    refine D.sw rfl (by decide) rfl ?_
    show _ → Rn E 234 (swT [(38, 92), (39, 109), (40, 127), (41, 143), (42, 161), (43, 161), (44, 170), (45, 190), (46, 180), (47, 190), (48, 217), (49, 235), (50, 235), (51, 333), (52, 373), (53, 217), (54, 226)] 373 _, _, _, _) _ _
    refine D.swc (fun hc => ?_) (fun hc => ?_)
    · refine D.run 3 rfl ?_
      refine D.st rfl (by decide) (gf_1 h82_4) ?_
      refine D.run 2 rfl ?_
      refine D.gd fun hg => ?_
      refine D.st rfl (by decide) (al_i (by decide) (by first | rfl | decide) hg.1 hg.2) ?_
      show _ → Rn E 234 (103, [.ref 82, .int a1, .int a2, .int (I (126 + 27) a1.toNatClampNeg), us, us], [.int (I (126 + 11) (I (126 + 27) a1.toNatClampNeg).toNatClampNeg), .int 2, .ref 82], wT I R) o w
      refine D.call rfl rfl rfl rfl (fun q h => x235_ok h) (fun q1 => ?_)
      refine D.run 1 rfl ?_
      exact fun h => by obtain ⟨rfl, rfl⟩ := hT _ (D.some h); exact Rn.ret rfl rfl rfl
    · refine D.swc (fun hc => ?_) (fun hc => ?_)
      · refine D.run 3 rfl ?_
        refine D.st rfl (by decide) (gf_1 h82_4) ?_
        refine D.run 2 rfl ?_
        refine D.gd fun hg => ?_
        refine D.st rfl (by decide) (al_i (by decide) (by first | rfl | decide) hg.1 hg.2) ?_
        show _ → Rn E 234 (120, [.ref 82, .int a1, .int a2, .int (I (126 + 27) a1.toNatClampNeg), us, us], [.int (I (126 + 11) (I (126 + 27) a1.toNatClampNeg).toNatClampNeg), .int 2, .ref 82], wT I R) o w
        refine D.run 1 rfl ?_
        refine D.call rfl rfl rfl rfl (fun q h => x236_ok h) (fun q2 => ?_)
        refine D.run 1 rfl ?_
        exact fun h => by obtain ⟨rfl, rfl⟩ := hT _ (D.some h); exact Rn.ret rfl rfl rfl
      · refine D.swc (fun hc => ?_) (fun hc => ?_)
        · refine D.run 2 rfl ?_
          refine D.st rfl (by decide) (gf_1 h82_4) ?_
          refine D.run 2 rfl ?_
          refine D.gd fun hg => ?_
          refine D.st rfl (by decide) (al_i (by decide) (by first | rfl | decide) hg.1 hg.2) ?_
          show _ → Rn E 234 (137, [.ref 82, .int a1, .int a2, .int (I (126 + 27) a1.toNatClampNeg), us, us], [.int (I (126 + 14) (I (126 + 27) a1.toNatClampNeg).toNatClampNeg), .ref 82], wT I R) o w
          refine D.call rfl rfl rfl rfl (fun q h => x232_ok h) (fun q3 => ?_)
          refine D.run 1 rfl ?_
          exact fun h => by obtain ⟨rfl, rfl⟩ := hT _ (D.some h); exact Rn.ret rfl rfl rfl
        · refine D.swc (fun hc => ?_) (fun hc => ?_)
          · refine D.run 2 rfl ?_
            refine D.st rfl (by decide) (gf_1 h82_4) ?_
            refine D.run 2 rfl ?_
            refine D.gd fun hg => ?_
            refine D.st rfl (by decide) (al_i (by decide) (by first | rfl | decide) hg.1 hg.2) ?_
            show _ → Rn E 234 (153, [.ref 82, .int a1, .int a2, .int (I (126 + 27) a1.toNatClampNeg), us, us], [.int (I (126 + 14) (I (126 + 27) a1.toNatClampNeg).toNatClampNeg), .ref 82], wT I R) o w
            refine D.call rfl rfl rfl rfl (fun q h => x231_ok h) (fun q4 => ?_)
            refine D.run 2 rfl ?_
            exact fun h => by obtain ⟨rfl, rfl⟩ := hT _ (D.some h); exact Rn.ret rfl rfl rfl
          · refine D.swc (fun hc => ?_) (fun hc => ?_)
            · refine D.run 3 rfl ?_
              refine D.call rfl rfl rfl rfl (fun q h => x235_ok h) (fun q5 => ?_)
              refine D.run 1 rfl ?_
              exact fun h => by obtain ⟨rfl, rfl⟩ := hT _ (D.some h); exact Rn.ret rfl rfl rfl
            · refine D.swc (fun hc => ?_) (fun hc => ?_)
              · refine D.run 3 rfl ?_
                refine D.call rfl rfl rfl rfl (fun q h => x235_ok h) (fun q6 => ?_)
                refine D.run 1 rfl ?_
                exact fun h => by obtain ⟨rfl, rfl⟩ := hT _ (D.some h); exact Rn.ret rfl rfl rfl
              · refine D.swc (fun hc => ?_) (fun hc => ?_)
                · refine D.run 4 rfl ?_
                  refine D.call rfl rfl rfl rfl (fun q h => x236_ok h) (fun q7 => ?_)
                  refine D.run 1 rfl ?_
                  exact fun h => by obtain ⟨rfl, rfl⟩ := hT _ (D.some h); exact Rn.ret rfl rfl rfl
                · refine D.swc (fun hc => ?_) (fun hc => ?_)
                  · refine D.run 3 rfl ?_
                    have Kj202 : ∀ (q8 : Int32), Dq ((x231 I q8).bind fun q9 => (x236 q9.2 2 1 0).bind fun q10 => some q10) T → Rn E 234 (202, [.ref 82, .int a1, .int a2, .int (I (126 + 27) a1.toNatClampNeg), us, us], [.int q8, .ref 82], wT I R) o w := by
                      intro q8
                      refine D.call rfl rfl rfl rfl (fun q h => x231_ok h) (fun q9 => ?_)
                      refine D.run 5 rfl ?_
                      refine D.call rfl rfl rfl rfl (fun q h => x236_ok h) (fun q10 => ?_)
                      refine D.run 1 rfl ?_
                      exact fun h => by obtain ⟨rfl, rfl⟩ := hT _ (D.some h); exact Rn.ret rfl rfl rfl
                    refine D.jn (fun T202 c202 => ?_)
                    refine D.br rfl (by decide) rfl (fun hc => ?_) (fun hc => ?_)
                    · refine D.run 2 rfl ?_
                      exact fun h => Kj202 _   (c202 _ (D.some h))
                    · refine D.run 1 rfl ?_
                      exact fun h => Kj202 _   (c202 _ (D.some h))
                  · refine D.swc (fun hc => ?_) (fun hc => ?_)
                    · refine D.run 4 rfl ?_
                      refine D.call rfl rfl rfl rfl (fun q h => x236_ok h) (fun q11 => ?_)
                      refine D.run 1 rfl ?_
                      exact fun h => by obtain ⟨rfl, rfl⟩ := hT _ (D.some h); exact Rn.ret rfl rfl rfl
                    · refine D.swc (fun hc => ?_) (fun hc => ?_)
                      · refine D.run 3 rfl ?_
                        have Kj202 : ∀ (q12 : Int32), Dq ((x231 I q12).bind fun q13 => (x236 q13.2 2 1 0).bind fun q14 => some q14) T → Rn E 234 (202, [.ref 82, .int a1, .int a2, .int (I (126 + 27) a1.toNatClampNeg), us, us], [.int q12, .ref 82], wT I R) o w := by
                          intro q12
                          refine D.call rfl rfl rfl rfl (fun q h => x231_ok h) (fun q13 => ?_)
                          refine D.run 5 rfl ?_
                          refine D.call rfl rfl rfl rfl (fun q h => x236_ok h) (fun q14 => ?_)
                          refine D.run 1 rfl ?_
                          exact fun h => by obtain ⟨rfl, rfl⟩ := hT _ (D.some h); exact Rn.ret rfl rfl rfl
                        refine D.jn (fun T202 c202 => ?_)
                        refine D.br rfl (by decide) rfl (fun hc => ?_) (fun hc => ?_)
                        · refine D.run 2 rfl ?_
                          exact fun h => Kj202 _   (c202 _ (D.some h))
                        · refine D.run 1 rfl ?_
                          exact fun h => Kj202 _   (c202 _ (D.some h))
                      · refine D.swc (fun hc => ?_) (fun hc => ?_)
                        · refine D.run 3 rfl ?_
                          refine D.call rfl rfl rfl rfl (fun q h => x235_ok h) (fun q15 => ?_)
                          refine D.run 1 rfl ?_
                          exact fun h => by obtain ⟨rfl, rfl⟩ := hT _ (D.some h); exact Rn.ret rfl rfl rfl
                        · refine D.swc (fun hc => ?_) (fun hc => ?_)
                          · refine D.run 1 rfl ?_
                            refine D.st rfl (by decide) (gf_1 h82_4) ?_
                            refine D.run 2 rfl ?_
                            refine D.gd fun hg => ?_
                            refine D.st rfl (by decide) (al_i (by decide) (by first | rfl | decide) hg.1 hg.2) ?_
                            show _ → Rn E 234 (244, [.ref 82, .int a1, .int a2, .int (I (126 + 27) a1.toNatClampNeg), us, us], [.int (I (126 + 18) (I (126 + 27) a1.toNatClampNeg).toNatClampNeg)], wT I R) o w
                            refine D.run 3 rfl ?_
                            refine D.bind (l234_248_ok (by decide) h82_4 (fun q18 e19 he19 e20 he20 e21 he21 => ?_) 100000 _ _ _ _ (by first | rfl | assumption) (by first | rfl | assumption))
                            refine D.run 2 rfl ?_
                            have Kj303 : ∀ (q23 : Int32 × St), Dq (if inb (I (126 + 27) a1.toNatClampNeg) 24 then if (q23.2 (126 + 20) (I (126 + 27) a1.toNatClampNeg).toNatClampNeg) = 0 then some q23.2 else if inb (I (126 + 27) a1.toNatClampNeg) 24 then (x232 q23.2 (q23.2 (126 + 20) (I (126 + 27) a1.toNatClampNeg).toNatClampNeg)).bind fun q24 => some q24 else none else none) T → Rn E 234 (303, [.ref 82, e19, .int a2, .int (I (126 + 27) a1.toNatClampNeg), e20, e21], [.int q23.1], wT q23.2 R) o w := by
                              intro q23
                              refine D.run 2 rfl ?_
                              refine D.st rfl (by decide) (gf_1 h82_4) ?_
                              refine D.run 2 rfl ?_
                              refine D.gd fun hg => ?_
                              refine D.st rfl (by decide) (al_i (by decide) (by first | rfl | decide) hg.1 hg.2) ?_
                              show _ → Rn E 234 (314, [.ref 82, e19, .int a2, .int (I (126 + 27) a1.toNatClampNeg), .int q23.1, e21], [.int (q23.2 (126 + 20) (I (126 + 27) a1.toNatClampNeg).toNatClampNeg)], wT q23.2 R) o w
                              refine D.br rfl (by decide) rfl (fun hc => ?_) (fun hc => ?_)
                              · exact fun h => by obtain ⟨rfl, rfl⟩ := hT _ (D.some h); exact Rn.ret rfl rfl rfl
                              · refine D.run 2 rfl ?_
                                refine D.st rfl (by decide) (gf_1 h82_4) ?_
                                refine D.run 2 rfl ?_
                                refine D.gd fun hg => ?_
                                refine D.st rfl (by decide) (al_i (by decide) (by first | rfl | decide) hg.1 hg.2) ?_
                                show _ → Rn E 234 (327, [.ref 82, e19, .int a2, .int (I (126 + 27) a1.toNatClampNeg), .int q23.1, e21], [.int (q23.2 (126 + 20) (I (126 + 27) a1.toNatClampNeg).toNatClampNeg), .ref 82], wT q23.2 R) o w
                                refine D.call rfl rfl rfl rfl (fun q h => x232_ok h) (fun q24 => ?_)
                                refine D.run 1 rfl ?_
                                exact fun h => by obtain ⟨rfl, rfl⟩ := hT _ (D.some h); exact Rn.ret rfl rfl rfl
                            refine D.jn (fun T303 c303 => ?_)
                            refine D.br rfl (by decide) rfl (fun hc => ?_) (fun hc => ?_)
                            · refine D.run 2 rfl ?_
                              refine D.call rfl rfl rfl rfl (fun q h => x231_ok h) (fun q22 => ?_)
                              refine D.run 1 rfl ?_
                              exact fun h => Kj303 _   (c303 _ (D.some h))
                            · refine D.run 1 rfl ?_
                              exact fun h => Kj303 _   (c303 _ (D.some h))
                          · refine D.swc (fun hc => ?_) (fun hc => ?_)
                            · refine D.run 1 rfl ?_
                              refine D.st rfl (by decide) (gf_1 h82_4) ?_
                              refine D.run 2 rfl ?_
                              refine D.gd fun hg => ?_
                              refine D.st rfl (by decide) (al_i (by decide) (by first | rfl | decide) hg.1 hg.2) ?_
                              show _ → Rn E 234 (244, [.ref 82, .int a1, .int a2, .int (I (126 + 27) a1.toNatClampNeg), us, us], [.int (I (126 + 18) (I (126 + 27) a1.toNatClampNeg).toNatClampNeg)], wT I R) o w
                              refine D.run 3 rfl ?_
                              refine D.bind (l234_248_ok (by decide) h82_4 (fun q25 e26 he26 e27 he27 e28 he28 => ?_) 100000 _ _ _ _ (by first | rfl | assumption) (by first | rfl | assumption))
                              refine D.run 2 rfl ?_
                              have Kj303 : ∀ (q30 : Int32 × St), Dq (if inb (I (126 + 27) a1.toNatClampNeg) 24 then if (q30.2 (126 + 20) (I (126 + 27) a1.toNatClampNeg).toNatClampNeg) = 0 then some q30.2 else if inb (I (126 + 27) a1.toNatClampNeg) 24 then (x232 q30.2 (q30.2 (126 + 20) (I (126 + 27) a1.toNatClampNeg).toNatClampNeg)).bind fun q31 => some q31 else none else none) T → Rn E 234 (303, [.ref 82, e26, .int a2, .int (I (126 + 27) a1.toNatClampNeg), e27, e28], [.int q30.1], wT q30.2 R) o w := by
                                intro q30
                                refine D.run 2 rfl ?_
                                refine D.st rfl (by decide) (gf_1 h82_4) ?_
                                refine D.run 2 rfl ?_
                                refine D.gd fun hg => ?_
                                refine D.st rfl (by decide) (al_i (by decide) (by first | rfl | decide) hg.1 hg.2) ?_
                                show _ → Rn E 234 (314, [.ref 82, e26, .int a2, .int (I (126 + 27) a1.toNatClampNeg), .int q30.1, e28], [.int (q30.2 (126 + 20) (I (126 + 27) a1.toNatClampNeg).toNatClampNeg)], wT q30.2 R) o w
                                refine D.br rfl (by decide) rfl (fun hc => ?_) (fun hc => ?_)
                                · exact fun h => by obtain ⟨rfl, rfl⟩ := hT _ (D.some h); exact Rn.ret rfl rfl rfl
                                · refine D.run 2 rfl ?_
                                  refine D.st rfl (by decide) (gf_1 h82_4) ?_
                                  refine D.run 2 rfl ?_
                                  refine D.gd fun hg => ?_
                                  refine D.st rfl (by decide) (al_i (by decide) (by first | rfl | decide) hg.1 hg.2) ?_
                                  show _ → Rn E 234 (327, [.ref 82, e26, .int a2, .int (I (126 + 27) a1.toNatClampNeg), .int q30.1, e28], [.int (q30.2 (126 + 20) (I (126 + 27) a1.toNatClampNeg).toNatClampNeg), .ref 82], wT q30.2 R) o w
                                  refine D.call rfl rfl rfl rfl (fun q h => x232_ok h) (fun q31 => ?_)
                                  refine D.run 1 rfl ?_
                                  exact fun h => by obtain ⟨rfl, rfl⟩ := hT _ (D.some h); exact Rn.ret rfl rfl rfl
                              refine D.jn (fun T303 c303 => ?_)
                              refine D.br rfl (by decide) rfl (fun hc => ?_) (fun hc => ?_)
                              · refine D.run 2 rfl ?_
                                refine D.call rfl rfl rfl rfl (fun q h => x231_ok h) (fun q29 => ?_)
                                refine D.run 1 rfl ?_
                                exact fun h => Kj303 _   (c303 _ (D.some h))
                              · refine D.run 1 rfl ?_
                                exact fun h => Kj303 _   (c303 _ (D.some h))
                            · refine D.swc (fun hc => ?_) (fun hc => ?_)
                              · refine D.run 1 rfl ?_
                                refine D.st rfl (by decide) (gf_1 h82_4) ?_
                                refine D.run 3 rfl ?_
                                refine D.gd fun hg => ?_
                                refine D.st rfl (by decide) (al_i (by decide) (by first | rfl | decide) hg.1 hg.2) ?_
                                show _ → Rn E 234 (345, [.ref 82, .int a1, .int a2, .int (I (126 + 27) a1.toNatClampNeg), us, us], [.int (I (126 + 20) (I 82 32).toNatClampNeg)], wT I R) o w
                                refine D.br rfl (by decide) rfl (fun hc => ?_) (fun hc => ?_)
                                · refine D.run 3 rfl ?_
                                  exact fun h => by obtain ⟨rfl, rfl⟩ := hT _ (D.some h); exact Rn.ret rfl rfl rfl
                                · refine D.run 2 rfl ?_
                                  refine D.st rfl (by decide) (gf_1 h82_4) ?_
                                  refine D.run 3 rfl ?_
                                  refine D.gd fun hg => ?_
                                  refine D.st rfl (by decide) (al_i (by decide) (by first | rfl | decide) hg.1 hg.2) ?_
                                  show _ → Rn E 234 (361, [.ref 82, .int a1, .int a2, .int (I (126 + 27) a1.toNatClampNeg), us, us], [.int (I (126 + 20) (I 82 32).toNatClampNeg), .ref 82], wT I R) o w
                                  refine D.call rfl rfl rfl rfl (fun q h => x231_ok h) (fun q32 => ?_)
                                  refine D.run 3 rfl ?_
                                  exact fun h => by obtain ⟨rfl, rfl⟩ := hT _ (D.some h); exact Rn.ret rfl rfl rfl
                              · refine D.swc (fun hc => ?_) (fun hc => ?_)
                                · exact fun h => by obtain ⟨rfl, rfl⟩ := hT _ (D.some h); exact Rn.ret rfl rfl rfl
                                · refine D.swc (fun hc => ?_) (fun hc => ?_)
                                  · refine D.run 3 rfl ?_
                                    refine D.call rfl rfl rfl rfl (fun q h => x235_ok h) (fun q33 => ?_)
                                    refine D.run 1 rfl ?_
                                    exact fun h => by obtain ⟨rfl, rfl⟩ := hT _ (D.some h); exact Rn.ret rfl rfl rfl
                                  · refine D.swc (fun hc => ?_) (fun hc => ?_)
                                    · refine D.run 3 rfl ?_
                                      refine D.call rfl rfl rfl rfl (fun q h => x235_ok h) (fun q34 => ?_)
                                      refine D.run 1 rfl ?_
                                      exact fun h => by obtain ⟨rfl, rfl⟩ := hT _ (D.some h); exact Rn.ret rfl rfl rfl
                                    · exact fun h => by obtain ⟨rfl, rfl⟩ := hT _ (D.some h); exact Rn.ret rfl rfl rfl
set_option maxRecDepth 20000 in
theorem x234_ok {E : Xe} {R : Nat → Nat → Option Nat} {Z : Nat} {I : St} (hZ : Z = 85 ∨ Z = 126) (h82_4 : R 82 4 = some Z) {a1 a2 : Int32} {q : St} (h : x234 Z I a1 a2 = some q) : Rn E 234 (0, loc0 234 [.ref 82, .int a1, .int a2], [], wT I R) (.returned none) (wT q R) := x234_D hZ h82_4 _ _ (T := fun r => r = q) (by rintro r rfl; exact ⟨rfl, rfl⟩) ⟨_, h, rfl⟩
/-- TaintHouseModel.thrown(II)V -/
def l245_9 (Q : Nat) (b1 : Int32) (b2 : Int32) : Nat → Int32 → St → Option ((Unit) ⊕ (St))
  | 0, _, _ => none
  | n + 1, b4, I => if (I Q 11) ≤ b4 then some (.inl ()) else if inb b4 200 then if (I (Q + 37) b4.toNatClampNeg) = (I 82 63) then if inb (4 * b4) 800 then if (I 82 64) < (I (Q + 40) (4 * b4).toNatClampNeg) then l245_9 Q b1 b2 n (b4 + 1) I else if inb ((4 * b4) + 1) 800 then if (I (Q + 40) ((4 * b4) + 1).toNatClampNeg) ≤ (I 82 64) then l245_9 Q b1 b2 n (b4 + 1) I else if inb ((4 * b4) + 3) 800 then (x246 Q I b1 (I (Q + 40) ((4 * b4) + 3).toNatClampNeg)).bind fun q1 => if q1 = 0 then l245_9 Q b1 b2 n (b4 + 1) I else if inb ((4 * b4) + 2) 800 then (x239 (up2 (up2 I 82 64 (I (Q + 40) ((4 * b4) + 2).toNatClampNeg)) 82 65 0) b1 b2).bind fun q2 => some (.inr q2) else none else none else none else none else l245_9 Q b1 b2 n (b4 + 1) I else none
set_option maxRecDepth 20000 in
theorem l245_9_ok {E : Xe} {R : Nat → Nat → Option Nat} {Q : Nat} {I0 : St} {o : Outcome} {w : Wd} {T : ((Unit) ⊕ (St)) → Prop} {b1 : Int32} {b2 : Int32} (hQ : Q = 85 ∨ Q = 126) (h82_3 : R 82 3 = some Q) (hT : ∀ r, T (.inr r) → o = .returned none ∧ w = wT r R) (K : ∀ (q : Unit) (e3 : Value) (_ : is1 e3 = true) (e4 : Value) (_ : is1 e4 = true), T (.inl q) → Rn E 245 (139, [.ref 82, .int b1, .int b2, e3, e4], [], wT I0 R) o w) : ∀ (n : Nat) (b4 : Int32) (d3 : Value), is1 d3 = true → Dq (l245_9 Q b1 b2 n b4 I0) T → Rn E 245 (9, [.ref 82, .int b1, .int b2, d3, .int b4], [], wT I0 R) o w := by
  rcases hQ with rfl | rfl
  · intro n
    induction n with
    | zero => intro b4 d3 hd3; exact D.none
    | succ n ih =>
      intro b4 d3 hd3
      rw [l245_9]
      refine D.run 2 rfl ?_
      refine D.st rfl (by decide) (gf_1 h82_3) ?_
      refine D.run 1 rfl ?_
      refine D.br rfl (by decide) rfl (fun hc => ?_) (fun hc => ?_)
      · exact fun h => D.to h (K _ _ (by first | rfl | assumption) _ (by first | rfl | assumption))
      · refine D.run 1 rfl ?_
        refine D.st rfl (by decide) (gf_1 h82_3) ?_
        refine D.run 2 rfl ?_
        refine D.gd fun hg => ?_
        refine D.st rfl (by decide) (al_i (by decide) (by first | rfl | decide) hg.1 hg.2) ?_
        show _ → Rn E 245 (31, [.ref 82, .int b1, .int b2, d3, .int b4], [.int (I0 (85 + 37) b4.toNatClampNeg)], wT I0 R) o w
        refine D.run 2 rfl ?_
        refine D.br rfl (by decide) rfl (fun hc => ?_) (fun hc => ?_)
        · refine D.run 3 rfl ?_
          refine D.st rfl (by decide) (gf_1 h82_3) ?_
          refine D.run 4 rfl ?_
          refine D.gd fun hg => ?_
          refine D.st rfl (by decide) (al_i (by decide) (by first | rfl | decide) hg.1 hg.2) ?_
          show _ → Rn E 245 (54, [.ref 82, .int b1, .int b2, d3, .int b4], [.int (I0 (85 + 40) (4 * b4).toNatClampNeg), .int (I0 82 64)], wT I0 R) o w
          refine D.br rfl (by decide) rfl (fun hc => ?_) (fun hc => ?_)
          · refine D.st rfl (by decide) (iinc_d rfl rfl (by first | rfl | assumption) rfl) ?_
            refine D.run 1 rfl ?_
            exact ih _ _  (by first | rfl | assumption)
          · refine D.run 3 rfl ?_
            refine D.st rfl (by decide) (gf_1 h82_3) ?_
            refine D.run 6 rfl ?_
            refine D.gd fun hg => ?_
            refine D.st rfl (by decide) (al_i (by decide) (by first | rfl | decide) hg.1 hg.2) ?_
            show _ → Rn E 245 (75, [.ref 82, .int b1, .int b2, d3, .int b4], [.int (I0 (85 + 40) ((4 * b4) + 1).toNatClampNeg), .int (I0 82 64)], wT I0 R) o w
            refine D.br rfl (by decide) rfl (fun hc => ?_) (fun hc => ?_)
            · refine D.st rfl (by decide) (iinc_d rfl rfl (by first | rfl | assumption) rfl) ?_
              refine D.run 1 rfl ?_
              exact ih _ _  (by first | rfl | assumption)
            · refine D.run 3 rfl ?_
              refine D.st rfl (by decide) (gf_1 h82_3) ?_
              refine D.run 6 rfl ?_
              refine D.gd fun hg => ?_
              refine D.st rfl (by decide) (al_i (by decide) (by first | rfl | decide) hg.1 hg.2) ?_
              show _ → Rn E 245 (94, [.ref 82, .int b1, .int b2, d3, .int b4], [.int (I0 (85 + 40) ((4 * b4) + 3).toNatClampNeg), .int b1, .ref 82], wT I0 R) o w
              refine D.call rfl rfl rfl rfl (fun q h => x246_ok (by decide) h82_3 h) (fun q1 => ?_)
              refine D.br rfl (by decide) rfl (fun hc => ?_) (fun hc => ?_)
              · refine D.run 1 rfl ?_
                refine D.st rfl (by decide) (iinc_d rfl rfl (by first | rfl | assumption) rfl) ?_
                refine D.run 1 rfl ?_
                exact ih _ _  (by first | rfl | assumption)
              · refine D.run 2 rfl ?_
                refine D.st rfl (by decide) (gf_1 h82_3) ?_
                refine D.run 6 rfl ?_
                refine D.gd fun hg => ?_
                refine D.st rfl (by decide) (al_i (by decide) (by first | rfl | decide) hg.1 hg.2) ?_
                show _ → Rn E 245 (118, [.ref 82, .int b1, .int b2, d3, .int b4], [.int (I0 (85 + 40) ((4 * b4) + 2).toNatClampNeg), .ref 82], wT I0 R) o w
                refine D.run 7 rfl ?_
                refine D.call rfl rfl rfl rfl (fun q h => x239_ok h) (fun q2 => ?_)
                exact fun h => by obtain ⟨rfl, rfl⟩ := hT _ (D.some h); exact Rn.ret rfl rfl rfl
        · refine D.st rfl (by decide) (iinc_d rfl rfl (by first | rfl | assumption) rfl) ?_
          refine D.run 1 rfl ?_
          exact ih _ _  (by first | rfl | assumption)
  · intro n
    induction n with
    | zero => intro b4 d3 hd3; exact D.none
    | succ n ih =>
      intro b4 d3 hd3
      rw [l245_9]
      refine D.run 2 rfl ?_
      refine D.st rfl (by decide) (gf_1 h82_3) ?_
      refine D.run 1 rfl ?_
      refine D.br rfl (by decide) rfl (fun hc => ?_) (fun hc => ?_)
      · exact fun h => D.to h (K _ _ (by first | rfl | assumption) _ (by first | rfl | assumption))
      · refine D.run 1 rfl ?_
        refine D.st rfl (by decide) (gf_1 h82_3) ?_
        refine D.run 2 rfl ?_
        refine D.gd fun hg => ?_
        refine D.st rfl (by decide) (al_i (by decide) (by first | rfl | decide) hg.1 hg.2) ?_
        show _ → Rn E 245 (31, [.ref 82, .int b1, .int b2, d3, .int b4], [.int (I0 (126 + 37) b4.toNatClampNeg)], wT I0 R) o w
        refine D.run 2 rfl ?_
        refine D.br rfl (by decide) rfl (fun hc => ?_) (fun hc => ?_)
        · refine D.run 3 rfl ?_
          refine D.st rfl (by decide) (gf_1 h82_3) ?_
          refine D.run 4 rfl ?_
          refine D.gd fun hg => ?_
          refine D.st rfl (by decide) (al_i (by decide) (by first | rfl | decide) hg.1 hg.2) ?_
          show _ → Rn E 245 (54, [.ref 82, .int b1, .int b2, d3, .int b4], [.int (I0 (126 + 40) (4 * b4).toNatClampNeg), .int (I0 82 64)], wT I0 R) o w
          refine D.br rfl (by decide) rfl (fun hc => ?_) (fun hc => ?_)
          · refine D.st rfl (by decide) (iinc_d rfl rfl (by first | rfl | assumption) rfl) ?_
            refine D.run 1 rfl ?_
            exact ih _ _  (by first | rfl | assumption)
          · refine D.run 3 rfl ?_
            refine D.st rfl (by decide) (gf_1 h82_3) ?_
            refine D.run 6 rfl ?_
            refine D.gd fun hg => ?_
            refine D.st rfl (by decide) (al_i (by decide) (by first | rfl | decide) hg.1 hg.2) ?_
            show _ → Rn E 245 (75, [.ref 82, .int b1, .int b2, d3, .int b4], [.int (I0 (126 + 40) ((4 * b4) + 1).toNatClampNeg), .int (I0 82 64)], wT I0 R) o w
            refine D.br rfl (by decide) rfl (fun hc => ?_) (fun hc => ?_)
            · refine D.st rfl (by decide) (iinc_d rfl rfl (by first | rfl | assumption) rfl) ?_
              refine D.run 1 rfl ?_
              exact ih _ _  (by first | rfl | assumption)
            · refine D.run 3 rfl ?_
              refine D.st rfl (by decide) (gf_1 h82_3) ?_
              refine D.run 6 rfl ?_
              refine D.gd fun hg => ?_
              refine D.st rfl (by decide) (al_i (by decide) (by first | rfl | decide) hg.1 hg.2) ?_
              show _ → Rn E 245 (94, [.ref 82, .int b1, .int b2, d3, .int b4], [.int (I0 (126 + 40) ((4 * b4) + 3).toNatClampNeg), .int b1, .ref 82], wT I0 R) o w
              refine D.call rfl rfl rfl rfl (fun q h => x246_ok (by decide) h82_3 h) (fun q1 => ?_)
              refine D.br rfl (by decide) rfl (fun hc => ?_) (fun hc => ?_)
              · refine D.run 1 rfl ?_
                refine D.st rfl (by decide) (iinc_d rfl rfl (by first | rfl | assumption) rfl) ?_
                refine D.run 1 rfl ?_
                exact ih _ _  (by first | rfl | assumption)
              · refine D.run 2 rfl ?_
                refine D.st rfl (by decide) (gf_1 h82_3) ?_
                refine D.run 6 rfl ?_
                refine D.gd fun hg => ?_
                refine D.st rfl (by decide) (al_i (by decide) (by first | rfl | decide) hg.1 hg.2) ?_
                show _ → Rn E 245 (118, [.ref 82, .int b1, .int b2, d3, .int b4], [.int (I0 (126 + 40) ((4 * b4) + 2).toNatClampNeg), .ref 82], wT I0 R) o w
                refine D.run 7 rfl ?_
                refine D.call rfl rfl rfl rfl (fun q h => x239_ok h) (fun q2 => ?_)
                exact fun h => by obtain ⟨rfl, rfl⟩ := hT _ (D.some h); exact Rn.ret rfl rfl rfl
        · refine D.st rfl (by decide) (iinc_d rfl rfl (by first | rfl | assumption) rfl) ?_
          refine D.run 1 rfl ?_
          exact ih _ _  (by first | rfl | assumption)
def l245_2 (Q : Nat) (b1 : Int32) (b2 : Int32) : Nat → Int32 → St → Option ((St) ⊕ (St))
  | 0, _, _ => none
  | n + 1, b3, I => if b3 = 0 then some (.inl I) else (l245_9 Q b1 b2 100000 0 I).bind (Sum.elim (fun q3 => (if (I 82 55) ≤ 0 then some 0 else some 1).bind fun (q6 : Int32) => if q6 = 0 then l245_2 Q b1 b2 n q6 I else (x247 I).bind fun q7 => l245_2 Q b1 b2 n q6 q7) (fun r => some (.inr r)))
set_option maxRecDepth 20000 in
theorem l245_2_ok {E : Xe} {R : Nat → Nat → Option Nat} {Q : Nat} {o : Outcome} {w : Wd} {T : ((St) ⊕ (St)) → Prop} {b1 : Int32} {b2 : Int32} (hQ : Q = 85 ∨ Q = 126) (h82_3 : R 82 3 = some Q) (hT : ∀ r, T (.inr r) → o = .returned none ∧ w = wT r R) (K : ∀ (q : St) (e3 : Value) (_ : is1 e3 = true) (e4 : Value) (_ : is1 e4 = true), T (.inl q) → Rn E 245 (163, [.ref 82, .int b1, .int b2, e3, e4], [], wT q R) o w) : ∀ (n : Nat) (b3 : Int32) (d4 : Value) (I : St), is1 d4 = true → Dq (l245_2 Q b1 b2 n b3 I) T → Rn E 245 (2, [.ref 82, .int b1, .int b2, .int b3, d4], [], wT I R) o w := by
  rcases hQ with rfl | rfl
  · intro n
    induction n with
    | zero => intro b3 d4 I hd4; exact D.none
    | succ n ih =>
      intro b3 d4 I hd4
      rw [l245_2]
      refine D.run 1 rfl ?_
      refine D.br rfl (by decide) rfl (fun hc => ?_) (fun hc => ?_)
      · exact fun h => D.to h (K _ _ (by first | rfl | assumption) _ (by first | rfl | assumption))
      · refine D.run 2 rfl ?_
        refine D.bind (l245_9_ok (by decide) h82_3 (fun r h => hT _ (D.some h)) (fun q3 e4 he4 e5 he5 => ?_) 100000 _ _  (by first | rfl | assumption))
        refine D.inl ?_
        refine D.run 2 rfl ?_
        have Kj151 : ∀ (q6 : Int32), Dq (if q6 = 0 then l245_2 85 b1 b2 n q6 I else (x247 I).bind fun q7 => l245_2 85 b1 b2 n q6 q7) T → Rn E 245 (151, [.ref 82, .int b1, .int b2, e4, e5], [.int q6], wT I R) o w := by
          intro q6
          refine D.run 2 rfl ?_
          refine D.br rfl (by decide) rfl (fun hc => ?_) (fun hc => ?_)
          · exact ih _ _ _ (by first | rfl | assumption)
          · refine D.run 1 rfl ?_
            refine D.call rfl rfl rfl rfl (fun q h => x247_ok h) (fun q7 => ?_)
            refine D.run 1 rfl ?_
            exact ih _ _ _ (by first | rfl | assumption)
        refine D.jn (fun T151 c151 => ?_)
        refine D.br rfl (by decide) rfl (fun hc => ?_) (fun hc => ?_)
        · refine D.run 1 rfl ?_
          exact fun h => Kj151 _   (c151 _ (D.some h))
        · refine D.run 2 rfl ?_
          exact fun h => Kj151 _   (c151 _ (D.some h))
  · intro n
    induction n with
    | zero => intro b3 d4 I hd4; exact D.none
    | succ n ih =>
      intro b3 d4 I hd4
      rw [l245_2]
      refine D.run 1 rfl ?_
      refine D.br rfl (by decide) rfl (fun hc => ?_) (fun hc => ?_)
      · exact fun h => D.to h (K _ _ (by first | rfl | assumption) _ (by first | rfl | assumption))
      · refine D.run 2 rfl ?_
        refine D.bind (l245_9_ok (by decide) h82_3 (fun r h => hT _ (D.some h)) (fun q3 e4 he4 e5 he5 => ?_) 100000 _ _  (by first | rfl | assumption))
        refine D.inl ?_
        refine D.run 2 rfl ?_
        have Kj151 : ∀ (q6 : Int32), Dq (if q6 = 0 then l245_2 126 b1 b2 n q6 I else (x247 I).bind fun q7 => l245_2 126 b1 b2 n q6 q7) T → Rn E 245 (151, [.ref 82, .int b1, .int b2, e4, e5], [.int q6], wT I R) o w := by
          intro q6
          refine D.run 2 rfl ?_
          refine D.br rfl (by decide) rfl (fun hc => ?_) (fun hc => ?_)
          · exact ih _ _ _ (by first | rfl | assumption)
          · refine D.run 1 rfl ?_
            refine D.call rfl rfl rfl rfl (fun q h => x247_ok h) (fun q7 => ?_)
            refine D.run 1 rfl ?_
            exact ih _ _ _ (by first | rfl | assumption)
        refine D.jn (fun T151 c151 => ?_)
        refine D.br rfl (by decide) rfl (fun hc => ?_) (fun hc => ?_)
        · refine D.run 1 rfl ?_
          exact fun h => Kj151 _   (c151 _ (D.some h))
        · refine D.run 2 rfl ?_
          exact fun h => Kj151 _   (c151 _ (D.some h))
def x245 (Q : Nat) (I : St) (a1 a2 : Int32) : Option (St) := (l245_2 Q a1 a2 100000 1 I).bind (Sum.elim (fun q8 => some (up2 (up2 (up2 q8 82 34 3) 82 35 a1) 82 36 a2)) (fun r => some r))
set_option maxRecDepth 20000 in
theorem x245_D {E : Xe} {R : Nat → Nat → Option Nat} {Q : Nat} {o : Outcome} {w : Wd} {T : (St) → Prop} {I : St} (hQ : Q = 85 ∨ Q = 126) (h82_3 : R 82 3 = some Q) (a1 a2 : Int32) (hT : ∀ r, T r → o = .returned none ∧ w = wT r R) : Dq (x245 Q I a1 a2) T → Rn E 245 (0, loc0 245 [.ref 82, .int a1, .int a2], [], wT I R) o w := by
  unfold x245
  rcases hQ with rfl | rfl
  all_goals
    refine D.run 2 rfl ?_
    refine D.bind (l245_2_ok (by decide) h82_3 (fun r h => hT _ (D.some h)) (fun q8 e9 he9 e10 he10 => ?_) 100000 _ _ _ (by first | rfl | assumption))
    refine D.inl ?_
    refine D.run 9 rfl ?_
    exact fun h => by obtain ⟨rfl, rfl⟩ := hT _ (D.some h); exact Rn.ret rfl rfl rfl
set_option maxRecDepth 20000 in
theorem x245_ok {E : Xe} {R : Nat → Nat → Option Nat} {Q : Nat} {I : St} (hQ : Q = 85 ∨ Q = 126) (h82_3 : R 82 3 = some Q) {a1 a2 : Int32} {q : St} (h : x245 Q I a1 a2 = some q) : Rn E 245 (0, loc0 245 [.ref 82, .int a1, .int a2], [], wT I R) (.returned none) (wT q R) := x245_D hQ h82_3 _ _ (T := fun r => r = q) (by rintro r rfl; exact ⟨rfl, rfl⟩) ⟨_, h, rfl⟩
