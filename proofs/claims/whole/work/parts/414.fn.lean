/-! FUNCTIONS OF METHODS, by program (wip/gen/all.py): 212 -/
/-- TaintHouseModel.readInstruction(I)V -/
def x212 (Z : Nat) (I : St) (a1 : Int32) : Option (St ⊕ (St)) := (if (I 82 12) = 5 then (x200 3 I).bind fun q1 => some (q1.1, q1.2) else some ((-1), I)).bind fun (q2 : Int32 × St) => if q2.1 = (-1) then some (.inl (up2 q2.2 84 0 (q2.2 82 13))) else if inb a1 24 then if ((q2.2 Z 9) - (q2.2 (Z + 21) a1.toNatClampNeg)) = 100 then some (.inl (up2 q2.2 84 0 (q2.2 82 13))) else if inb (q2.2 Z 9) 2400 then if inb (q2.2 Z 9) 2400 then Lt (up2 (up2 q2.2 (Z + 26) (q2.2 Z 9).toNatClampNeg q2.1) (Z + 28) (q2.2 Z 9).toNatClampNeg ((up2 q2.2 (Z + 26) (q2.2 Z 9).toNatClampNeg q2.1) 82 13)) fun J3 => if inb (q2.2 Z 9) 2400 then if inb (q2.2 Z 9) 2400 then Lt (up2 (up2 J3 (Z + 29) (q2.2 Z 9).toNatClampNeg (-1)) (Z + 31) (q2.2 Z 9).toNatClampNeg (-1)) fun J4 => if inb (q2.2 Z 9) 2400 then (x192 (up2 J4 (Z + 27) (q2.2 Z 9).toNatClampNeg 0)).bind fun q5 => (if q2.1 = 0 then (x213 q5 (-1)).bind (Sum.elim (fun J => some (.inl J)) (fun q6 => if inb (q2.2 Z 9) 2400 then some (.inr (up2 q6.2 (Z + 27) (q2.2 Z 9).toNatClampNeg q6.1)) else none)) else some (.inr q5)).bind (Sum.elim (fun J => some (.inl J)) (fun (q7 : St) => (if q2.1 = 2 then (x214 q7 15).bind (Sum.elim (fun J => some (.inl J)) (fun q8 => if inb (q2.2 Z 9) 2400 then some (.inr (up2 q8.2 (Z + 27) (q2.2 Z 9).toNatClampNeg q8.1)) else none)) else if q2.1 = 3 then (x214 q7 15).bind (Sum.elim (fun J => some (.inl J)) (fun q9 => if inb (q2.2 Z 9) 2400 then some (.inr (up2 q9.2 (Z + 27) (q2.2 Z 9).toNatClampNeg q9.1)) else none)) else if q2.1 = 4 then (x214 q7 15).bind (Sum.elim (fun J => some (.inl J)) (fun q10 => if inb (q2.2 Z 9) 2400 then some (.inr (up2 q10.2 (Z + 27) (q2.2 Z 9).toNatClampNeg q10.1)) else none)) else if q2.1 = 55 then (x214 q7 15).bind (Sum.elim (fun J => some (.inl J)) (fun q11 => if inb (q2.2 Z 9) 2400 then some (.inr (up2 q11.2 (Z + 27) (q2.2 Z 9).toNatClampNeg q11.1)) else none)) else if q2.1 = 56 then (x214 q7 15).bind (Sum.elim (fun J => some (.inl J)) (fun q12 => if inb (q2.2 Z 9) 2400 then some (.inr (up2 q12.2 (Z + 27) (q2.2 Z 9).toNatClampNeg q12.1)) else none)) else some (.inr q7)).bind (Sum.elim (fun J => some (.inl J)) (fun (q13 : St) => (if q2.1 = 4 then (x213 q13 32767).bind (Sum.elim (fun J => some (.inl J)) (fun q14 => if inb (q2.2 Z 9) 2400 then some (.inr (up2 q14.2 (Z + 31) (q2.2 Z 9).toNatClampNeg q14.1)) else none)) else some (.inr q13)).bind (Sum.elim (fun J => some (.inl J)) (fun (q15 : St) => (if q2.1 = 57 then (x214 q15 65535).bind (Sum.elim (fun J => some (.inl J)) (fun q16 => if inb (q2.2 Z 9) 2400 then some (.inr (up2 q16.2 (Z + 27) (q2.2 Z 9).toNatClampNeg q16.1)) else none)) else if q2.1 = 58 then (x214 q15 65535).bind (Sum.elim (fun J => some (.inl J)) (fun q17 => if inb (q2.2 Z 9) 2400 then some (.inr (up2 q17.2 (Z + 27) (q2.2 Z 9).toNatClampNeg q17.1)) else none)) else some (.inr q15)).bind (Sum.elim (fun J => some (.inl J)) (fun (q18 : St) => (if q2.1 < 20 then some 0 else if 36 < q2.1 then some 0 else some 1).bind fun (q19 : Int32) => (if q2.1 < 38 then if q2.1 = 49 then some 1 else if q2.1 = 50 then some 1 else some 0 else if q2.1 ≤ 41 then some 1 else if q2.1 = 49 then some 1 else if q2.1 = 50 then some 1 else some 0).bind fun (q20 : Int32) => (if q19 = 0 then if q20 = 0 then if q2.1 = 37 then if inb (q2.2 Z 9) 2400 then (x201 Z (up2 q18 (Z + 30) (q2.2 Z 9).toNatClampNeg (q18 82 13))).bind (Sum.elim (fun J => some (.inl J)) (fun q21 => if inb (q2.2 Z 9) 2400 then some (.inr (up2 q21.2 (Z + 29) (q2.2 Z 9).toNatClampNeg q21.1)) else none)) else none else if q2.1 = 53 then if inb (q2.2 Z 9) 2400 then (x201 Z (up2 q18 (Z + 30) (q2.2 Z 9).toNatClampNeg (q18 82 13))).bind (Sum.elim (fun J => some (.inl J)) (fun q22 => if inb (q2.2 Z 9) 2400 then some (.inr (up2 q22.2 (Z + 29) (q2.2 Z 9).toNatClampNeg q22.1)) else none)) else none else if q2.1 = 54 then if inb (q2.2 Z 9) 2400 then (x201 Z (up2 q18 (Z + 30) (q2.2 Z 9).toNatClampNeg (q18 82 13))).bind (Sum.elim (fun J => some (.inl J)) (fun q23 => if inb (q2.2 Z 9) 2400 then some (.inr (up2 q23.2 (Z + 29) (q2.2 Z 9).toNatClampNeg q23.1)) else none)) else none else some (.inr q18) else if inb (q2.2 Z 9) 2400 then (x201 Z (up2 q18 (Z + 30) (q2.2 Z 9).toNatClampNeg (q18 82 13))).bind (Sum.elim (fun J => some (.inl J)) (fun q24 => if inb (q2.2 Z 9) 2400 then some (.inr (up2 q24.2 (Z + 29) (q2.2 Z 9).toNatClampNeg q24.1)) else none)) else none else if inb (q2.2 Z 9) 2400 then (x201 Z (up2 q18 (Z + 30) (q2.2 Z 9).toNatClampNeg (q18 82 13))).bind (Sum.elim (fun J => some (.inl J)) (fun q25 => if inb (q2.2 Z 9) 2400 then some (.inr (up2 q25.2 (Z + 29) (q2.2 Z 9).toNatClampNeg q25.1)) else none)) else none).bind (Sum.elim (fun J => some (.inl J)) (fun (q26 : St) => (if q20 = 0 then some (.inr q26) else if inb (q2.2 Z 9) 2400 then (x201 Z (up2 q26 (Z + 32) (q2.2 Z 9).toNatClampNeg (q26 82 13))).bind (Sum.elim (fun J => some (.inl J)) (fun q27 => if inb (q2.2 Z 9) 2400 then some (.inr (up2 q27.2 (Z + 31) (q2.2 Z 9).toNatClampNeg q27.1)) else none)) else none).bind (Sum.elim (fun J => some (.inl J)) (fun (q28 : St) => (x204 (up2 q28 Z 9 ((q28 Z 9) + 1)) 59).bind (Sum.elim (fun J => some (.inl J)) (fun q29 => some (.inr q29))))))))))))))) else none else none else none else none else none else none
set_option maxRecDepth 20000 in
set_option maxHeartbeats 30000000 in
theorem x212_D {E : Xe} {R : Nat → Nat → Option Nat} {Z : Nat} {o : Outcome} {w : Wd} {T : (St ⊕ (St)) → Prop} {I : St} (hZ : Z = 85 ∨ Z = 126) (h82_4 : R 82 4 = some Z) (a1 : Int32) (hT : ∀ r, T (.inr r) → o = .returned none ∧ w = wT r R) (hX : ∀ J, T (.inl J) → o = .threw 84 ∧ w = wT J R) : Dq (x212 Z I a1) T → Rn E 212 (0, loc0 212 [.ref 82, .int a1], [], wT I R) o w := by
  unfold x212
  rcases hZ with rfl | rfl
  · refine D.run 3 rfl ?_
    have Kj18 : ∀ (q2 : Int32 × St), Dq (if q2.1 = (-1) then some (.inl (up2 q2.2 84 0 (q2.2 82 13))) else if inb a1 24 then if ((q2.2 85 9) - (q2.2 (85 + 21) a1.toNatClampNeg)) = 100 then some (.inl (up2 q2.2 84 0 (q2.2 82 13))) else if inb (q2.2 85 9) 2400 then if inb (q2.2 85 9) 2400 then Lt (up2 (up2 q2.2 (85 + 26) (q2.2 85 9).toNatClampNeg q2.1) (85 + 28) (q2.2 85 9).toNatClampNeg ((up2 q2.2 (85 + 26) (q2.2 85 9).toNatClampNeg q2.1) 82 13)) fun J3 => if inb (q2.2 85 9) 2400 then if inb (q2.2 85 9) 2400 then Lt (up2 (up2 J3 (85 + 29) (q2.2 85 9).toNatClampNeg (-1)) (85 + 31) (q2.2 85 9).toNatClampNeg (-1)) fun J4 => if inb (q2.2 85 9) 2400 then (x192 (up2 J4 (85 + 27) (q2.2 85 9).toNatClampNeg 0)).bind fun q5 => (if q2.1 = 0 then (x213 q5 (-1)).bind (Sum.elim (fun J => some (.inl J)) (fun q6 => if inb (q2.2 85 9) 2400 then some (.inr (up2 q6.2 (85 + 27) (q2.2 85 9).toNatClampNeg q6.1)) else none)) else some (.inr q5)).bind (Sum.elim (fun J => some (.inl J)) (fun (q7 : St) => (if q2.1 = 2 then (x214 q7 15).bind (Sum.elim (fun J => some (.inl J)) (fun q8 => if inb (q2.2 85 9) 2400 then some (.inr (up2 q8.2 (85 + 27) (q2.2 85 9).toNatClampNeg q8.1)) else none)) else if q2.1 = 3 then (x214 q7 15).bind (Sum.elim (fun J => some (.inl J)) (fun q9 => if inb (q2.2 85 9) 2400 then some (.inr (up2 q9.2 (85 + 27) (q2.2 85 9).toNatClampNeg q9.1)) else none)) else if q2.1 = 4 then (x214 q7 15).bind (Sum.elim (fun J => some (.inl J)) (fun q10 => if inb (q2.2 85 9) 2400 then some (.inr (up2 q10.2 (85 + 27) (q2.2 85 9).toNatClampNeg q10.1)) else none)) else if q2.1 = 55 then (x214 q7 15).bind (Sum.elim (fun J => some (.inl J)) (fun q11 => if inb (q2.2 85 9) 2400 then some (.inr (up2 q11.2 (85 + 27) (q2.2 85 9).toNatClampNeg q11.1)) else none)) else if q2.1 = 56 then (x214 q7 15).bind (Sum.elim (fun J => some (.inl J)) (fun q12 => if inb (q2.2 85 9) 2400 then some (.inr (up2 q12.2 (85 + 27) (q2.2 85 9).toNatClampNeg q12.1)) else none)) else some (.inr q7)).bind (Sum.elim (fun J => some (.inl J)) (fun (q13 : St) => (if q2.1 = 4 then (x213 q13 32767).bind (Sum.elim (fun J => some (.inl J)) (fun q14 => if inb (q2.2 85 9) 2400 then some (.inr (up2 q14.2 (85 + 31) (q2.2 85 9).toNatClampNeg q14.1)) else none)) else some (.inr q13)).bind (Sum.elim (fun J => some (.inl J)) (fun (q15 : St) => (if q2.1 = 57 then (x214 q15 65535).bind (Sum.elim (fun J => some (.inl J)) (fun q16 => if inb (q2.2 85 9) 2400 then some (.inr (up2 q16.2 (85 + 27) (q2.2 85 9).toNatClampNeg q16.1)) else none)) else if q2.1 = 58 then (x214 q15 65535).bind (Sum.elim (fun J => some (.inl J)) (fun q17 => if inb (q2.2 85 9) 2400 then some (.inr (up2 q17.2 (85 + 27) (q2.2 85 9).toNatClampNeg q17.1)) else none)) else some (.inr q15)).bind (Sum.elim (fun J => some (.inl J)) (fun (q18 : St) => (if q2.1 < 20 then some 0 else if 36 < q2.1 then some 0 else some 1).bind fun (q19 : Int32) => (if q2.1 < 38 then if q2.1 = 49 then some 1 else if q2.1 = 50 then some 1 else some 0 else if q2.1 ≤ 41 then some 1 else if q2.1 = 49 then some 1 else if q2.1 = 50 then some 1 else some 0).bind fun (q20 : Int32) => (if q19 = 0 then if q20 = 0 then if q2.1 = 37 then if inb (q2.2 85 9) 2400 then (x201 85 (up2 q18 (85 + 30) (q2.2 85 9).toNatClampNeg (q18 82 13))).bind (Sum.elim (fun J => some (.inl J)) (fun q21 => if inb (q2.2 85 9) 2400 then some (.inr (up2 q21.2 (85 + 29) (q2.2 85 9).toNatClampNeg q21.1)) else none)) else none else if q2.1 = 53 then if inb (q2.2 85 9) 2400 then (x201 85 (up2 q18 (85 + 30) (q2.2 85 9).toNatClampNeg (q18 82 13))).bind (Sum.elim (fun J => some (.inl J)) (fun q22 => if inb (q2.2 85 9) 2400 then some (.inr (up2 q22.2 (85 + 29) (q2.2 85 9).toNatClampNeg q22.1)) else none)) else none else if q2.1 = 54 then if inb (q2.2 85 9) 2400 then (x201 85 (up2 q18 (85 + 30) (q2.2 85 9).toNatClampNeg (q18 82 13))).bind (Sum.elim (fun J => some (.inl J)) (fun q23 => if inb (q2.2 85 9) 2400 then some (.inr (up2 q23.2 (85 + 29) (q2.2 85 9).toNatClampNeg q23.1)) else none)) else none else some (.inr q18) else if inb (q2.2 85 9) 2400 then (x201 85 (up2 q18 (85 + 30) (q2.2 85 9).toNatClampNeg (q18 82 13))).bind (Sum.elim (fun J => some (.inl J)) (fun q24 => if inb (q2.2 85 9) 2400 then some (.inr (up2 q24.2 (85 + 29) (q2.2 85 9).toNatClampNeg q24.1)) else none)) else none else if inb (q2.2 85 9) 2400 then (x201 85 (up2 q18 (85 + 30) (q2.2 85 9).toNatClampNeg (q18 82 13))).bind (Sum.elim (fun J => some (.inl J)) (fun q25 => if inb (q2.2 85 9) 2400 then some (.inr (up2 q25.2 (85 + 29) (q2.2 85 9).toNatClampNeg q25.1)) else none)) else none).bind (Sum.elim (fun J => some (.inl J)) (fun (q26 : St) => (if q20 = 0 then some (.inr q26) else if inb (q2.2 85 9) 2400 then (x201 85 (up2 q26 (85 + 32) (q2.2 85 9).toNatClampNeg (q26 82 13))).bind (Sum.elim (fun J => some (.inl J)) (fun q27 => if inb (q2.2 85 9) 2400 then some (.inr (up2 q27.2 (85 + 31) (q2.2 85 9).toNatClampNeg q27.1)) else none)) else none).bind (Sum.elim (fun J => some (.inl J)) (fun (q28 : St) => (x204 (up2 q28 85 9 ((q28 85 9) + 1)) 59).bind (Sum.elim (fun J => some (.inl J)) (fun q29 => some (.inr q29))))))))))))))) else none else none else none else none else none else none) T → Rn E 212 (18, [.ref 82, .int a1, us, us, us, us], [.int q2.1], wT q2.2 R) o w := by
      intro q2
      refine D.run 3 rfl ?_
      refine D.br rfl (by decide) rfl (fun hc => ?_) (fun hc => ?_)
      · refine D.run 3 rfl ?_
        refine D.ce rfl rfl rfl rfl (fail_ok _) ?_
        exact fun h => by obtain ⟨rfl, rfl⟩ := hX _ (D.some h); exact Rn.thr rfl rfl rfl
      · refine D.run 1 rfl ?_
        refine D.st rfl (by decide) (gf_1 h82_4) ?_
        refine D.run 2 rfl ?_
        refine D.st rfl (by decide) (gf_1 h82_4) ?_
        refine D.run 2 rfl ?_
        refine D.gd fun hg => ?_
        refine D.st rfl (by decide) (al_i (by decide) (by first | rfl | decide) hg.1 hg.2) ?_
        show _ → Rn E 212 (40, [.ref 82, .int a1, .int q2.1, us, us, us], [.int (q2.2 (85 + 21) a1.toNatClampNeg), .int (q2.2 85 9)], wT q2.2 R) o w
        refine D.run 2 rfl ?_
        refine D.br rfl (by decide) rfl (fun hc => ?_) (fun hc => ?_)
        · refine D.run 3 rfl ?_
          refine D.ce rfl rfl rfl rfl (fail_ok _) ?_
          exact fun h => by obtain ⟨rfl, rfl⟩ := hX _ (D.some h); exact Rn.thr rfl rfl rfl
        · refine D.run 1 rfl ?_
          refine D.st rfl (by decide) (gf_1 h82_4) ?_
          refine D.run 3 rfl ?_
          refine D.st rfl (by decide) (gf_1 h82_4) ?_
          refine D.run 3 rfl ?_
          refine D.gd fun hg => ?_
          refine D.st rfl (by decide) (as_i (by decide) (by first | rfl | decide) hg.1 hg.2) ?_
          show _ → Rn E 212 (73, [.ref 82, .int a1, .int q2.1, .int (q2.2 85 9), us, us], [], wT (up2 q2.2 (85 + 26) (q2.2 85 9).toNatClampNeg q2.1) R) o w
          refine D.run 1 rfl ?_
          refine D.st rfl (by decide) (gf_1 h82_4) ?_
          refine D.run 4 rfl ?_
          refine D.gd fun hg => ?_
          refine D.st rfl (by decide) (as_i (by decide) (by first | rfl | decide) hg.1 hg.2) ?_
          refine D.letS (fun J3 => ?_)
          show _ → Rn E 212 (86, [.ref 82, .int a1, .int q2.1, .int (q2.2 85 9), us, us], [], wT J3 R) o w
          refine D.run 1 rfl ?_
          refine D.st rfl (by decide) (gf_1 h82_4) ?_
          refine D.run 3 rfl ?_
          refine D.gd fun hg => ?_
          refine D.st rfl (by decide) (as_i (by decide) (by first | rfl | decide) hg.1 hg.2) ?_
          show _ → Rn E 212 (96, [.ref 82, .int a1, .int q2.1, .int (q2.2 85 9), us, us], [], wT (up2 J3 (85 + 29) (q2.2 85 9).toNatClampNeg (-1)) R) o w
          refine D.run 1 rfl ?_
          refine D.st rfl (by decide) (gf_1 h82_4) ?_
          refine D.run 3 rfl ?_
          refine D.gd fun hg => ?_
          refine D.st rfl (by decide) (as_i (by decide) (by first | rfl | decide) hg.1 hg.2) ?_
          refine D.letS (fun J4 => ?_)
          show _ → Rn E 212 (106, [.ref 82, .int a1, .int q2.1, .int (q2.2 85 9), us, us], [], wT J4 R) o w
          refine D.run 1 rfl ?_
          refine D.st rfl (by decide) (gf_1 h82_4) ?_
          refine D.run 3 rfl ?_
          refine D.gd fun hg => ?_
          refine D.st rfl (by decide) (as_i (by decide) (by first | rfl | decide) hg.1 hg.2) ?_
          show _ → Rn E 212 (116, [.ref 82, .int a1, .int q2.1, .int (q2.2 85 9), us, us], [], wT (up2 J4 (85 + 27) (q2.2 85 9).toNatClampNeg 0) R) o w
          refine D.run 1 rfl ?_
          refine D.call rfl rfl rfl rfl (fun q h => x192_ok h) (fun q5 => ?_)
          refine D.run 1 rfl ?_
          have Kj138 : ∀ (q7 : St), Dq ((if q2.1 = 2 then (x214 q7 15).bind (Sum.elim (fun J => some (.inl J)) (fun q8 => if inb (q2.2 85 9) 2400 then some (.inr (up2 q8.2 (85 + 27) (q2.2 85 9).toNatClampNeg q8.1)) else none)) else if q2.1 = 3 then (x214 q7 15).bind (Sum.elim (fun J => some (.inl J)) (fun q9 => if inb (q2.2 85 9) 2400 then some (.inr (up2 q9.2 (85 + 27) (q2.2 85 9).toNatClampNeg q9.1)) else none)) else if q2.1 = 4 then (x214 q7 15).bind (Sum.elim (fun J => some (.inl J)) (fun q10 => if inb (q2.2 85 9) 2400 then some (.inr (up2 q10.2 (85 + 27) (q2.2 85 9).toNatClampNeg q10.1)) else none)) else if q2.1 = 55 then (x214 q7 15).bind (Sum.elim (fun J => some (.inl J)) (fun q11 => if inb (q2.2 85 9) 2400 then some (.inr (up2 q11.2 (85 + 27) (q2.2 85 9).toNatClampNeg q11.1)) else none)) else if q2.1 = 56 then (x214 q7 15).bind (Sum.elim (fun J => some (.inl J)) (fun q12 => if inb (q2.2 85 9) 2400 then some (.inr (up2 q12.2 (85 + 27) (q2.2 85 9).toNatClampNeg q12.1)) else none)) else some (.inr q7)).bind (Sum.elim (fun J => some (.inl J)) (fun (q13 : St) => (if q2.1 = 4 then (x213 q13 32767).bind (Sum.elim (fun J => some (.inl J)) (fun q14 => if inb (q2.2 85 9) 2400 then some (.inr (up2 q14.2 (85 + 31) (q2.2 85 9).toNatClampNeg q14.1)) else none)) else some (.inr q13)).bind (Sum.elim (fun J => some (.inl J)) (fun (q15 : St) => (if q2.1 = 57 then (x214 q15 65535).bind (Sum.elim (fun J => some (.inl J)) (fun q16 => if inb (q2.2 85 9) 2400 then some (.inr (up2 q16.2 (85 + 27) (q2.2 85 9).toNatClampNeg q16.1)) else none)) else if q2.1 = 58 then (x214 q15 65535).bind (Sum.elim (fun J => some (.inl J)) (fun q17 => if inb (q2.2 85 9) 2400 then some (.inr (up2 q17.2 (85 + 27) (q2.2 85 9).toNatClampNeg q17.1)) else none)) else some (.inr q15)).bind (Sum.elim (fun J => some (.inl J)) (fun (q18 : St) => (if q2.1 < 20 then some 0 else if 36 < q2.1 then some 0 else some 1).bind fun (q19 : Int32) => (if q2.1 < 38 then if q2.1 = 49 then some 1 else if q2.1 = 50 then some 1 else some 0 else if q2.1 ≤ 41 then some 1 else if q2.1 = 49 then some 1 else if q2.1 = 50 then some 1 else some 0).bind fun (q20 : Int32) => (if q19 = 0 then if q20 = 0 then if q2.1 = 37 then if inb (q2.2 85 9) 2400 then (x201 85 (up2 q18 (85 + 30) (q2.2 85 9).toNatClampNeg (q18 82 13))).bind (Sum.elim (fun J => some (.inl J)) (fun q21 => if inb (q2.2 85 9) 2400 then some (.inr (up2 q21.2 (85 + 29) (q2.2 85 9).toNatClampNeg q21.1)) else none)) else none else if q2.1 = 53 then if inb (q2.2 85 9) 2400 then (x201 85 (up2 q18 (85 + 30) (q2.2 85 9).toNatClampNeg (q18 82 13))).bind (Sum.elim (fun J => some (.inl J)) (fun q22 => if inb (q2.2 85 9) 2400 then some (.inr (up2 q22.2 (85 + 29) (q2.2 85 9).toNatClampNeg q22.1)) else none)) else none else if q2.1 = 54 then if inb (q2.2 85 9) 2400 then (x201 85 (up2 q18 (85 + 30) (q2.2 85 9).toNatClampNeg (q18 82 13))).bind (Sum.elim (fun J => some (.inl J)) (fun q23 => if inb (q2.2 85 9) 2400 then some (.inr (up2 q23.2 (85 + 29) (q2.2 85 9).toNatClampNeg q23.1)) else none)) else none else some (.inr q18) else if inb (q2.2 85 9) 2400 then (x201 85 (up2 q18 (85 + 30) (q2.2 85 9).toNatClampNeg (q18 82 13))).bind (Sum.elim (fun J => some (.inl J)) (fun q24 => if inb (q2.2 85 9) 2400 then some (.inr (up2 q24.2 (85 + 29) (q2.2 85 9).toNatClampNeg q24.1)) else none)) else none else if inb (q2.2 85 9) 2400 then (x201 85 (up2 q18 (85 + 30) (q2.2 85 9).toNatClampNeg (q18 82 13))).bind (Sum.elim (fun J => some (.inl J)) (fun q25 => if inb (q2.2 85 9) 2400 then some (.inr (up2 q25.2 (85 + 29) (q2.2 85 9).toNatClampNeg q25.1)) else none)) else none).bind (Sum.elim (fun J => some (.inl J)) (fun (q26 : St) => (if q20 = 0 then some (.inr q26) else if inb (q2.2 85 9) 2400 then (x201 85 (up2 q26 (85 + 32) (q2.2 85 9).toNatClampNeg (q26 82 13))).bind (Sum.elim (fun J => some (.inl J)) (fun q27 => if inb (q2.2 85 9) 2400 then some (.inr (up2 q27.2 (85 + 31) (q2.2 85 9).toNatClampNeg q27.1)) else none)) else none).bind (Sum.elim (fun J => some (.inl J)) (fun (q28 : St) => (x204 (up2 q28 85 9 ((q28 85 9) + 1)) 59).bind (Sum.elim (fun J => some (.inl J)) (fun q29 => some (.inr q29)))))))))))))) T → Rn E 212 (138, [.ref 82, .int a1, .int q2.1, .int (q2.2 85 9), us, us], [], wT q7 R) o w := by
            intro q7
            refine D.run 2 rfl ?_
            have Kj180 : ∀ (q13 : St), Dq ((if q2.1 = 4 then (x213 q13 32767).bind (Sum.elim (fun J => some (.inl J)) (fun q14 => if inb (q2.2 85 9) 2400 then some (.inr (up2 q14.2 (85 + 31) (q2.2 85 9).toNatClampNeg q14.1)) else none)) else some (.inr q13)).bind (Sum.elim (fun J => some (.inl J)) (fun (q15 : St) => (if q2.1 = 57 then (x214 q15 65535).bind (Sum.elim (fun J => some (.inl J)) (fun q16 => if inb (q2.2 85 9) 2400 then some (.inr (up2 q16.2 (85 + 27) (q2.2 85 9).toNatClampNeg q16.1)) else none)) else if q2.1 = 58 then (x214 q15 65535).bind (Sum.elim (fun J => some (.inl J)) (fun q17 => if inb (q2.2 85 9) 2400 then some (.inr (up2 q17.2 (85 + 27) (q2.2 85 9).toNatClampNeg q17.1)) else none)) else some (.inr q15)).bind (Sum.elim (fun J => some (.inl J)) (fun (q18 : St) => (if q2.1 < 20 then some 0 else if 36 < q2.1 then some 0 else some 1).bind fun (q19 : Int32) => (if q2.1 < 38 then if q2.1 = 49 then some 1 else if q2.1 = 50 then some 1 else some 0 else if q2.1 ≤ 41 then some 1 else if q2.1 = 49 then some 1 else if q2.1 = 50 then some 1 else some 0).bind fun (q20 : Int32) => (if q19 = 0 then if q20 = 0 then if q2.1 = 37 then if inb (q2.2 85 9) 2400 then (x201 85 (up2 q18 (85 + 30) (q2.2 85 9).toNatClampNeg (q18 82 13))).bind (Sum.elim (fun J => some (.inl J)) (fun q21 => if inb (q2.2 85 9) 2400 then some (.inr (up2 q21.2 (85 + 29) (q2.2 85 9).toNatClampNeg q21.1)) else none)) else none else if q2.1 = 53 then if inb (q2.2 85 9) 2400 then (x201 85 (up2 q18 (85 + 30) (q2.2 85 9).toNatClampNeg (q18 82 13))).bind (Sum.elim (fun J => some (.inl J)) (fun q22 => if inb (q2.2 85 9) 2400 then some (.inr (up2 q22.2 (85 + 29) (q2.2 85 9).toNatClampNeg q22.1)) else none)) else none else if q2.1 = 54 then if inb (q2.2 85 9) 2400 then (x201 85 (up2 q18 (85 + 30) (q2.2 85 9).toNatClampNeg (q18 82 13))).bind (Sum.elim (fun J => some (.inl J)) (fun q23 => if inb (q2.2 85 9) 2400 then some (.inr (up2 q23.2 (85 + 29) (q2.2 85 9).toNatClampNeg q23.1)) else none)) else none else some (.inr q18) else if inb (q2.2 85 9) 2400 then (x201 85 (up2 q18 (85 + 30) (q2.2 85 9).toNatClampNeg (q18 82 13))).bind (Sum.elim (fun J => some (.inl J)) (fun q24 => if inb (q2.2 85 9) 2400 then some (.inr (up2 q24.2 (85 + 29) (q2.2 85 9).toNatClampNeg q24.1)) else none)) else none else if inb (q2.2 85 9) 2400 then (x201 85 (up2 q18 (85 + 30) (q2.2 85 9).toNatClampNeg (q18 82 13))).bind (Sum.elim (fun J => some (.inl J)) (fun q25 => if inb (q2.2 85 9) 2400 then some (.inr (up2 q25.2 (85 + 29) (q2.2 85 9).toNatClampNeg q25.1)) else none)) else none).bind (Sum.elim (fun J => some (.inl J)) (fun (q26 : St) => (if q20 = 0 then some (.inr q26) else if inb (q2.2 85 9) 2400 then (x201 85 (up2 q26 (85 + 32) (q2.2 85 9).toNatClampNeg (q26 82 13))).bind (Sum.elim (fun J => some (.inl J)) (fun q27 => if inb (q2.2 85 9) 2400 then some (.inr (up2 q27.2 (85 + 31) (q2.2 85 9).toNatClampNeg q27.1)) else none)) else none).bind (Sum.elim (fun J => some (.inl J)) (fun (q28 : St) => (x204 (up2 q28 85 9 ((q28 85 9) + 1)) 59).bind (Sum.elim (fun J => some (.inl J)) (fun q29 => some (.inr q29)))))))))))) T → Rn E 212 (180, [.ref 82, .int a1, .int q2.1, .int (q2.2 85 9), us, us], [], wT q13 R) o w := by
              intro q13
              refine D.run 2 rfl ?_
              have Kj201 : ∀ (q15 : St), Dq ((if q2.1 = 57 then (x214 q15 65535).bind (Sum.elim (fun J => some (.inl J)) (fun q16 => if inb (q2.2 85 9) 2400 then some (.inr (up2 q16.2 (85 + 27) (q2.2 85 9).toNatClampNeg q16.1)) else none)) else if q2.1 = 58 then (x214 q15 65535).bind (Sum.elim (fun J => some (.inl J)) (fun q17 => if inb (q2.2 85 9) 2400 then some (.inr (up2 q17.2 (85 + 27) (q2.2 85 9).toNatClampNeg q17.1)) else none)) else some (.inr q15)).bind (Sum.elim (fun J => some (.inl J)) (fun (q18 : St) => (if q2.1 < 20 then some 0 else if 36 < q2.1 then some 0 else some 1).bind fun (q19 : Int32) => (if q2.1 < 38 then if q2.1 = 49 then some 1 else if q2.1 = 50 then some 1 else some 0 else if q2.1 ≤ 41 then some 1 else if q2.1 = 49 then some 1 else if q2.1 = 50 then some 1 else some 0).bind fun (q20 : Int32) => (if q19 = 0 then if q20 = 0 then if q2.1 = 37 then if inb (q2.2 85 9) 2400 then (x201 85 (up2 q18 (85 + 30) (q2.2 85 9).toNatClampNeg (q18 82 13))).bind (Sum.elim (fun J => some (.inl J)) (fun q21 => if inb (q2.2 85 9) 2400 then some (.inr (up2 q21.2 (85 + 29) (q2.2 85 9).toNatClampNeg q21.1)) else none)) else none else if q2.1 = 53 then if inb (q2.2 85 9) 2400 then (x201 85 (up2 q18 (85 + 30) (q2.2 85 9).toNatClampNeg (q18 82 13))).bind (Sum.elim (fun J => some (.inl J)) (fun q22 => if inb (q2.2 85 9) 2400 then some (.inr (up2 q22.2 (85 + 29) (q2.2 85 9).toNatClampNeg q22.1)) else none)) else none else if q2.1 = 54 then if inb (q2.2 85 9) 2400 then (x201 85 (up2 q18 (85 + 30) (q2.2 85 9).toNatClampNeg (q18 82 13))).bind (Sum.elim (fun J => some (.inl J)) (fun q23 => if inb (q2.2 85 9) 2400 then some (.inr (up2 q23.2 (85 + 29) (q2.2 85 9).toNatClampNeg q23.1)) else none)) else none else some (.inr q18) else if inb (q2.2 85 9) 2400 then (x201 85 (up2 q18 (85 + 30) (q2.2 85 9).toNatClampNeg (q18 82 13))).bind (Sum.elim (fun J => some (.inl J)) (fun q24 => if inb (q2.2 85 9) 2400 then some (.inr (up2 q24.2 (85 + 29) (q2.2 85 9).toNatClampNeg q24.1)) else none)) else none else if inb (q2.2 85 9) 2400 then (x201 85 (up2 q18 (85 + 30) (q2.2 85 9).toNatClampNeg (q18 82 13))).bind (Sum.elim (fun J => some (.inl J)) (fun q25 => if inb (q2.2 85 9) 2400 then some (.inr (up2 q25.2 (85 + 29) (q2.2 85 9).toNatClampNeg q25.1)) else none)) else none).bind (Sum.elim (fun J => some (.inl J)) (fun (q26 : St) => (if q20 = 0 then some (.inr q26) else if inb (q2.2 85 9) 2400 then (x201 85 (up2 q26 (85 + 32) (q2.2 85 9).toNatClampNeg (q26 82 13))).bind (Sum.elim (fun J => some (.inl J)) (fun q27 => if inb (q2.2 85 9) 2400 then some (.inr (up2 q27.2 (85 + 31) (q2.2 85 9).toNatClampNeg q27.1)) else none)) else none).bind (Sum.elim (fun J => some (.inl J)) (fun (q28 : St) => (x204 (up2 q28 85 9 ((q28 85 9) + 1)) 59).bind (Sum.elim (fun J => some (.inl J)) (fun q29 => some (.inr q29)))))))))) T → Rn E 212 (201, [.ref 82, .int a1, .int q2.1, .int (q2.2 85 9), us, us], [], wT q15 R) o w := by
                intro q15
                refine D.run 2 rfl ?_
                have Kj229 : ∀ (q18 : St), Dq ((if q2.1 < 20 then some 0 else if 36 < q2.1 then some 0 else some 1).bind fun (q19 : Int32) => (if q2.1 < 38 then if q2.1 = 49 then some 1 else if q2.1 = 50 then some 1 else some 0 else if q2.1 ≤ 41 then some 1 else if q2.1 = 49 then some 1 else if q2.1 = 50 then some 1 else some 0).bind fun (q20 : Int32) => (if q19 = 0 then if q20 = 0 then if q2.1 = 37 then if inb (q2.2 85 9) 2400 then (x201 85 (up2 q18 (85 + 30) (q2.2 85 9).toNatClampNeg (q18 82 13))).bind (Sum.elim (fun J => some (.inl J)) (fun q21 => if inb (q2.2 85 9) 2400 then some (.inr (up2 q21.2 (85 + 29) (q2.2 85 9).toNatClampNeg q21.1)) else none)) else none else if q2.1 = 53 then if inb (q2.2 85 9) 2400 then (x201 85 (up2 q18 (85 + 30) (q2.2 85 9).toNatClampNeg (q18 82 13))).bind (Sum.elim (fun J => some (.inl J)) (fun q22 => if inb (q2.2 85 9) 2400 then some (.inr (up2 q22.2 (85 + 29) (q2.2 85 9).toNatClampNeg q22.1)) else none)) else none else if q2.1 = 54 then if inb (q2.2 85 9) 2400 then (x201 85 (up2 q18 (85 + 30) (q2.2 85 9).toNatClampNeg (q18 82 13))).bind (Sum.elim (fun J => some (.inl J)) (fun q23 => if inb (q2.2 85 9) 2400 then some (.inr (up2 q23.2 (85 + 29) (q2.2 85 9).toNatClampNeg q23.1)) else none)) else none else some (.inr q18) else if inb (q2.2 85 9) 2400 then (x201 85 (up2 q18 (85 + 30) (q2.2 85 9).toNatClampNeg (q18 82 13))).bind (Sum.elim (fun J => some (.inl J)) (fun q24 => if inb (q2.2 85 9) 2400 then some (.inr (up2 q24.2 (85 + 29) (q2.2 85 9).toNatClampNeg q24.1)) else none)) else none else if inb (q2.2 85 9) 2400 then (x201 85 (up2 q18 (85 + 30) (q2.2 85 9).toNatClampNeg (q18 82 13))).bind (Sum.elim (fun J => some (.inl J)) (fun q25 => if inb (q2.2 85 9) 2400 then some (.inr (up2 q25.2 (85 + 29) (q2.2 85 9).toNatClampNeg q25.1)) else none)) else none).bind (Sum.elim (fun J => some (.inl J)) (fun (q26 : St) => (if q20 = 0 then some (.inr q26) else if inb (q2.2 85 9) 2400 then (x201 85 (up2 q26 (85 + 32) (q2.2 85 9).toNatClampNeg (q26 82 13))).bind (Sum.elim (fun J => some (.inl J)) (fun q27 => if inb (q2.2 85 9) 2400 then some (.inr (up2 q27.2 (85 + 31) (q2.2 85 9).toNatClampNeg q27.1)) else none)) else none).bind (Sum.elim (fun J => some (.inl J)) (fun (q28 : St) => (x204 (up2 q28 85 9 ((q28 85 9) + 1)) 59).bind (Sum.elim (fun J => some (.inl J)) (fun q29 => some (.inr q29)))))))) T → Rn E 212 (229, [.ref 82, .int a1, .int q2.1, .int (q2.2 85 9), us, us], [], wT q18 R) o w := by
                  intro q18
                  refine D.run 2 rfl ?_
                  have Kj246 : ∀ (q19 : Int32), Dq ((if q2.1 < 38 then if q2.1 = 49 then some 1 else if q2.1 = 50 then some 1 else some 0 else if q2.1 ≤ 41 then some 1 else if q2.1 = 49 then some 1 else if q2.1 = 50 then some 1 else some 0).bind fun (q20 : Int32) => (if q19 = 0 then if q20 = 0 then if q2.1 = 37 then if inb (q2.2 85 9) 2400 then (x201 85 (up2 q18 (85 + 30) (q2.2 85 9).toNatClampNeg (q18 82 13))).bind (Sum.elim (fun J => some (.inl J)) (fun q21 => if inb (q2.2 85 9) 2400 then some (.inr (up2 q21.2 (85 + 29) (q2.2 85 9).toNatClampNeg q21.1)) else none)) else none else if q2.1 = 53 then if inb (q2.2 85 9) 2400 then (x201 85 (up2 q18 (85 + 30) (q2.2 85 9).toNatClampNeg (q18 82 13))).bind (Sum.elim (fun J => some (.inl J)) (fun q22 => if inb (q2.2 85 9) 2400 then some (.inr (up2 q22.2 (85 + 29) (q2.2 85 9).toNatClampNeg q22.1)) else none)) else none else if q2.1 = 54 then if inb (q2.2 85 9) 2400 then (x201 85 (up2 q18 (85 + 30) (q2.2 85 9).toNatClampNeg (q18 82 13))).bind (Sum.elim (fun J => some (.inl J)) (fun q23 => if inb (q2.2 85 9) 2400 then some (.inr (up2 q23.2 (85 + 29) (q2.2 85 9).toNatClampNeg q23.1)) else none)) else none else some (.inr q18) else if inb (q2.2 85 9) 2400 then (x201 85 (up2 q18 (85 + 30) (q2.2 85 9).toNatClampNeg (q18 82 13))).bind (Sum.elim (fun J => some (.inl J)) (fun q24 => if inb (q2.2 85 9) 2400 then some (.inr (up2 q24.2 (85 + 29) (q2.2 85 9).toNatClampNeg q24.1)) else none)) else none else if inb (q2.2 85 9) 2400 then (x201 85 (up2 q18 (85 + 30) (q2.2 85 9).toNatClampNeg (q18 82 13))).bind (Sum.elim (fun J => some (.inl J)) (fun q25 => if inb (q2.2 85 9) 2400 then some (.inr (up2 q25.2 (85 + 29) (q2.2 85 9).toNatClampNeg q25.1)) else none)) else none).bind (Sum.elim (fun J => some (.inl J)) (fun (q26 : St) => (if q20 = 0 then some (.inr q26) else if inb (q2.2 85 9) 2400 then (x201 85 (up2 q26 (85 + 32) (q2.2 85 9).toNatClampNeg (q26 82 13))).bind (Sum.elim (fun J => some (.inl J)) (fun q27 => if inb (q2.2 85 9) 2400 then some (.inr (up2 q27.2 (85 + 31) (q2.2 85 9).toNatClampNeg q27.1)) else none)) else none).bind (Sum.elim (fun J => some (.inl J)) (fun (q28 : St) => (x204 (up2 q28 85 9 ((q28 85 9) + 1)) 59).bind (Sum.elim (fun J => some (.inl J)) (fun q29 => some (.inr q29)))))))) T → Rn E 212 (246, [.ref 82, .int a1, .int q2.1, .int (q2.2 85 9), us, us], [.int q19], wT q18 R) o w := by
                    intro q19
                    refine D.run 3 rfl ?_
                    have Kj277 : ∀ (q20 : Int32), Dq ((if q19 = 0 then if q20 = 0 then if q2.1 = 37 then if inb (q2.2 85 9) 2400 then (x201 85 (up2 q18 (85 + 30) (q2.2 85 9).toNatClampNeg (q18 82 13))).bind (Sum.elim (fun J => some (.inl J)) (fun q21 => if inb (q2.2 85 9) 2400 then some (.inr (up2 q21.2 (85 + 29) (q2.2 85 9).toNatClampNeg q21.1)) else none)) else none else if q2.1 = 53 then if inb (q2.2 85 9) 2400 then (x201 85 (up2 q18 (85 + 30) (q2.2 85 9).toNatClampNeg (q18 82 13))).bind (Sum.elim (fun J => some (.inl J)) (fun q22 => if inb (q2.2 85 9) 2400 then some (.inr (up2 q22.2 (85 + 29) (q2.2 85 9).toNatClampNeg q22.1)) else none)) else none else if q2.1 = 54 then if inb (q2.2 85 9) 2400 then (x201 85 (up2 q18 (85 + 30) (q2.2 85 9).toNatClampNeg (q18 82 13))).bind (Sum.elim (fun J => some (.inl J)) (fun q23 => if inb (q2.2 85 9) 2400 then some (.inr (up2 q23.2 (85 + 29) (q2.2 85 9).toNatClampNeg q23.1)) else none)) else none else some (.inr q18) else if inb (q2.2 85 9) 2400 then (x201 85 (up2 q18 (85 + 30) (q2.2 85 9).toNatClampNeg (q18 82 13))).bind (Sum.elim (fun J => some (.inl J)) (fun q24 => if inb (q2.2 85 9) 2400 then some (.inr (up2 q24.2 (85 + 29) (q2.2 85 9).toNatClampNeg q24.1)) else none)) else none else if inb (q2.2 85 9) 2400 then (x201 85 (up2 q18 (85 + 30) (q2.2 85 9).toNatClampNeg (q18 82 13))).bind (Sum.elim (fun J => some (.inl J)) (fun q25 => if inb (q2.2 85 9) 2400 then some (.inr (up2 q25.2 (85 + 29) (q2.2 85 9).toNatClampNeg q25.1)) else none)) else none).bind (Sum.elim (fun J => some (.inl J)) (fun (q26 : St) => (if q20 = 0 then some (.inr q26) else if inb (q2.2 85 9) 2400 then (x201 85 (up2 q26 (85 + 32) (q2.2 85 9).toNatClampNeg (q26 82 13))).bind (Sum.elim (fun J => some (.inl J)) (fun q27 => if inb (q2.2 85 9) 2400 then some (.inr (up2 q27.2 (85 + 31) (q2.2 85 9).toNatClampNeg q27.1)) else none)) else none).bind (Sum.elim (fun J => some (.inl J)) (fun (q28 : St) => (x204 (up2 q28 85 9 ((q28 85 9) + 1)) 59).bind (Sum.elim (fun J => some (.inl J)) (fun q29 => some (.inr q29)))))))) T → Rn E 212 (277, [.ref 82, .int a1, .int q2.1, .int (q2.2 85 9), .int q19, us], [.int q20], wT q18 R) o w := by
                      intro q20
                      refine D.run 2 rfl ?_
                      have Kj333 : ∀ (q26 : St), Dq ((if q20 = 0 then some (.inr q26) else if inb (q2.2 85 9) 2400 then (x201 85 (up2 q26 (85 + 32) (q2.2 85 9).toNatClampNeg (q26 82 13))).bind (Sum.elim (fun J => some (.inl J)) (fun q27 => if inb (q2.2 85 9) 2400 then some (.inr (up2 q27.2 (85 + 31) (q2.2 85 9).toNatClampNeg q27.1)) else none)) else none).bind (Sum.elim (fun J => some (.inl J)) (fun (q28 : St) => (x204 (up2 q28 85 9 ((q28 85 9) + 1)) 59).bind (Sum.elim (fun J => some (.inl J)) (fun q29 => some (.inr q29)))))) T → Rn E 212 (333, [.ref 82, .int a1, .int q2.1, .int (q2.2 85 9), .int q19, .int q20], [], wT q26 R) o w := by
                        intro q26
                        refine D.run 1 rfl ?_
                        have Kj364 : ∀ (q28 : St), Dq ((x204 (up2 q28 85 9 ((q28 85 9) + 1)) 59).bind (Sum.elim (fun J => some (.inl J)) (fun q29 => some (.inr q29)))) T → Rn E 212 (364, [.ref 82, .int a1, .int q2.1, .int (q2.2 85 9), .int q19, .int q20], [], wT q28 R) o w := by
                          intro q28
                          refine D.run 1 rfl ?_
                          refine D.st rfl (by decide) (gf_1 h82_4) ?_
                          refine D.run 7 rfl ?_
                          refine D.ct rfl rfl rfl rfl rfl (fun q h => x204_ok h) (fun J h => x204_thr h) (fun J h => hX _ (D.some h)) (fun q29 => ?_)
                          exact fun h => by obtain ⟨rfl, rfl⟩ := hT _ (D.some h); exact Rn.ret rfl rfl rfl
                        refine D.jn (fun T364 c364 => ?_)
                        refine D.br rfl (by decide) rfl (fun hc => ?_) (fun hc => ?_)
                        · exact fun h => Kj364 _   (c364 _ (D.some h))
                        · refine D.run 1 rfl ?_
                          refine D.st rfl (by decide) (gf_1 h82_4) ?_
                          refine D.run 4 rfl ?_
                          refine D.gd fun hg => ?_
                          refine D.st rfl (by decide) (as_i (by decide) (by first | rfl | decide) hg.1 hg.2) ?_
                          show _ → Rn E 212 (351, [.ref 82, .int a1, .int q2.1, .int (q2.2 85 9), .int q19, .int q20], [], wT (up2 q26 (85 + 32) (q2.2 85 9).toNatClampNeg (q26 82 13)) R) o w
                          refine D.run 1 rfl ?_
                          refine D.st rfl (by decide) (gf_1 h82_4) ?_
                          refine D.run 3 rfl ?_
                          refine D.ct rfl rfl rfl rfl rfl (fun q h => x201_ok (by decide) h82_4 h) (fun J h => x201_thr (by decide) h82_4 h) (fun J h => hX _ (D.some (c364 _ (D.some h)))) (fun q27 => ?_)
                          refine D.gd fun hg => ?_
                          refine D.st rfl (by decide) (as_i (by decide) (by first | rfl | decide) hg.1 hg.2) ?_
                          exact fun h => Kj364 _   (c364 _ (D.some h))
                      refine D.jn (fun T333 c333 => ?_)
                      refine D.br rfl (by decide) rfl (fun hc => ?_) (fun hc => ?_)
                      · refine D.run 1 rfl ?_
                        refine D.br rfl (by decide) rfl (fun hc => ?_) (fun hc => ?_)
                        · refine D.run 2 rfl ?_
                          refine D.br rfl (by decide) rfl (fun hc => ?_) (fun hc => ?_)
                          · refine D.run 1 rfl ?_
                            refine D.st rfl (by decide) (gf_1 h82_4) ?_
                            refine D.run 4 rfl ?_
                            refine D.gd fun hg => ?_
                            refine D.st rfl (by decide) (as_i (by decide) (by first | rfl | decide) hg.1 hg.2) ?_
                            show _ → Rn E 212 (320, [.ref 82, .int a1, .int q2.1, .int (q2.2 85 9), .int q19, .int q20], [], wT (up2 q18 (85 + 30) (q2.2 85 9).toNatClampNeg (q18 82 13)) R) o w
                            refine D.run 1 rfl ?_
                            refine D.st rfl (by decide) (gf_1 h82_4) ?_
                            refine D.run 3 rfl ?_
                            refine D.ct rfl rfl rfl rfl rfl (fun q h => x201_ok (by decide) h82_4 h) (fun J h => x201_thr (by decide) h82_4 h) (fun J h => hX _ (D.some (c333 _ (D.some h)))) (fun q21 => ?_)
                            refine D.gd fun hg => ?_
                            refine D.st rfl (by decide) (as_i (by decide) (by first | rfl | decide) hg.1 hg.2) ?_
                            exact fun h => Kj333 _   (c333 _ (D.some h))
                          · refine D.run 2 rfl ?_
                            refine D.br rfl (by decide) rfl (fun hc => ?_) (fun hc => ?_)
                            · refine D.run 1 rfl ?_
                              refine D.st rfl (by decide) (gf_1 h82_4) ?_
                              refine D.run 4 rfl ?_
                              refine D.gd fun hg => ?_
                              refine D.st rfl (by decide) (as_i (by decide) (by first | rfl | decide) hg.1 hg.2) ?_
                              show _ → Rn E 212 (320, [.ref 82, .int a1, .int q2.1, .int (q2.2 85 9), .int q19, .int q20], [], wT (up2 q18 (85 + 30) (q2.2 85 9).toNatClampNeg (q18 82 13)) R) o w
                              refine D.run 1 rfl ?_
                              refine D.st rfl (by decide) (gf_1 h82_4) ?_
                              refine D.run 3 rfl ?_
                              refine D.ct rfl rfl rfl rfl rfl (fun q h => x201_ok (by decide) h82_4 h) (fun J h => x201_thr (by decide) h82_4 h) (fun J h => hX _ (D.some (c333 _ (D.some h)))) (fun q22 => ?_)
                              refine D.gd fun hg => ?_
                              refine D.st rfl (by decide) (as_i (by decide) (by first | rfl | decide) hg.1 hg.2) ?_
                              exact fun h => Kj333 _   (c333 _ (D.some h))
                            · refine D.run 2 rfl ?_
                              refine D.br rfl (by decide) rfl (fun hc => ?_) (fun hc => ?_)
                              · refine D.run 1 rfl ?_
                                refine D.st rfl (by decide) (gf_1 h82_4) ?_
                                refine D.run 4 rfl ?_
                                refine D.gd fun hg => ?_
                                refine D.st rfl (by decide) (as_i (by decide) (by first | rfl | decide) hg.1 hg.2) ?_
                                show _ → Rn E 212 (320, [.ref 82, .int a1, .int q2.1, .int (q2.2 85 9), .int q19, .int q20], [], wT (up2 q18 (85 + 30) (q2.2 85 9).toNatClampNeg (q18 82 13)) R) o w
                                refine D.run 1 rfl ?_
                                refine D.st rfl (by decide) (gf_1 h82_4) ?_
                                refine D.run 3 rfl ?_
                                refine D.ct rfl rfl rfl rfl rfl (fun q h => x201_ok (by decide) h82_4 h) (fun J h => x201_thr (by decide) h82_4 h) (fun J h => hX _ (D.some (c333 _ (D.some h)))) (fun q23 => ?_)
                                refine D.gd fun hg => ?_
                                refine D.st rfl (by decide) (as_i (by decide) (by first | rfl | decide) hg.1 hg.2) ?_
                                exact fun h => Kj333 _   (c333 _ (D.some h))
                              · exact fun h => Kj333 _   (c333 _ (D.some h))
                        · refine D.run 1 rfl ?_
                          refine D.st rfl (by decide) (gf_1 h82_4) ?_
                          refine D.run 4 rfl ?_
                          refine D.gd fun hg => ?_
                          refine D.st rfl (by decide) (as_i (by decide) (by first | rfl | decide) hg.1 hg.2) ?_
                          show _ → Rn E 212 (320, [.ref 82, .int a1, .int q2.1, .int (q2.2 85 9), .int q19, .int q20], [], wT (up2 q18 (85 + 30) (q2.2 85 9).toNatClampNeg (q18 82 13)) R) o w
                          refine D.run 1 rfl ?_
                          refine D.st rfl (by decide) (gf_1 h82_4) ?_
                          refine D.run 3 rfl ?_
                          refine D.ct rfl rfl rfl rfl rfl (fun q h => x201_ok (by decide) h82_4 h) (fun J h => x201_thr (by decide) h82_4 h) (fun J h => hX _ (D.some (c333 _ (D.some h)))) (fun q24 => ?_)
                          refine D.gd fun hg => ?_
                          refine D.st rfl (by decide) (as_i (by decide) (by first | rfl | decide) hg.1 hg.2) ?_
                          exact fun h => Kj333 _   (c333 _ (D.some h))
                      · refine D.run 1 rfl ?_
                        refine D.st rfl (by decide) (gf_1 h82_4) ?_
                        refine D.run 4 rfl ?_
                        refine D.gd fun hg => ?_
                        refine D.st rfl (by decide) (as_i (by decide) (by first | rfl | decide) hg.1 hg.2) ?_
                        show _ → Rn E 212 (320, [.ref 82, .int a1, .int q2.1, .int (q2.2 85 9), .int q19, .int q20], [], wT (up2 q18 (85 + 30) (q2.2 85 9).toNatClampNeg (q18 82 13)) R) o w
                        refine D.run 1 rfl ?_
                        refine D.st rfl (by decide) (gf_1 h82_4) ?_
                        refine D.run 3 rfl ?_
                        refine D.ct rfl rfl rfl rfl rfl (fun q h => x201_ok (by decide) h82_4 h) (fun J h => x201_thr (by decide) h82_4 h) (fun J h => hX _ (D.some (c333 _ (D.some h)))) (fun q25 => ?_)
                        refine D.gd fun hg => ?_
                        refine D.st rfl (by decide) (as_i (by decide) (by first | rfl | decide) hg.1 hg.2) ?_
                        exact fun h => Kj333 _   (c333 _ (D.some h))
                    refine D.jn (fun T277 c277 => ?_)
                    refine D.br rfl (by decide) rfl (fun hc => ?_) (fun hc => ?_)
                    · refine D.run 2 rfl ?_
                      refine D.br rfl (by decide) rfl (fun hc => ?_) (fun hc => ?_)
                      · refine D.run 2 rfl ?_
                        exact fun h => Kj277 _   (c277 _ (D.some h))
                      · refine D.run 2 rfl ?_
                        refine D.br rfl (by decide) rfl (fun hc => ?_) (fun hc => ?_)
                        · refine D.run 2 rfl ?_
                          exact fun h => Kj277 _   (c277 _ (D.some h))
                        · refine D.run 1 rfl ?_
                          exact fun h => Kj277 _   (c277 _ (D.some h))
                    · refine D.run 2 rfl ?_
                      refine D.br rfl (by decide) rfl (fun hc => ?_) (fun hc => ?_)
                      · refine D.run 2 rfl ?_
                        exact fun h => Kj277 _   (c277 _ (D.some h))
                      · refine D.run 2 rfl ?_
                        refine D.br rfl (by decide) rfl (fun hc => ?_) (fun hc => ?_)
                        · refine D.run 2 rfl ?_
                          exact fun h => Kj277 _   (c277 _ (D.some h))
                        · refine D.run 2 rfl ?_
                          refine D.br rfl (by decide) rfl (fun hc => ?_) (fun hc => ?_)
                          · refine D.run 2 rfl ?_
                            exact fun h => Kj277 _   (c277 _ (D.some h))
                          · refine D.run 1 rfl ?_
                            exact fun h => Kj277 _   (c277 _ (D.some h))
                  refine D.jn (fun T246 c246 => ?_)
                  refine D.br rfl (by decide) rfl (fun hc => ?_) (fun hc => ?_)
                  · refine D.run 1 rfl ?_
                    exact fun h => Kj246 _   (c246 _ (D.some h))
                  · refine D.run 2 rfl ?_
                    refine D.br rfl (by decide) rfl (fun hc => ?_) (fun hc => ?_)
                    · refine D.run 1 rfl ?_
                      exact fun h => Kj246 _   (c246 _ (D.some h))
                    · refine D.run 2 rfl ?_
                      exact fun h => Kj246 _   (c246 _ (D.some h))
                refine D.jn (fun T229 c229 => ?_)
                refine D.br rfl (by decide) rfl (fun hc => ?_) (fun hc => ?_)
                · refine D.run 1 rfl ?_
                  refine D.st rfl (by decide) (gf_1 h82_4) ?_
                  refine D.run 4 rfl ?_
                  refine D.ct rfl rfl rfl rfl rfl (fun q h => x214_ok h) (fun J h => x214_thr h) (fun J h => hX _ (D.some (c229 _ (D.some h)))) (fun q16 => ?_)
                  refine D.gd fun hg => ?_
                  refine D.st rfl (by decide) (as_i (by decide) (by first | rfl | decide) hg.1 hg.2) ?_
                  exact fun h => Kj229 _   (c229 _ (D.some h))
                · refine D.run 2 rfl ?_
                  refine D.br rfl (by decide) rfl (fun hc => ?_) (fun hc => ?_)
                  · refine D.run 1 rfl ?_
                    refine D.st rfl (by decide) (gf_1 h82_4) ?_
                    refine D.run 4 rfl ?_
                    refine D.ct rfl rfl rfl rfl rfl (fun q h => x214_ok h) (fun J h => x214_thr h) (fun J h => hX _ (D.some (c229 _ (D.some h)))) (fun q17 => ?_)
                    refine D.gd fun hg => ?_
                    refine D.st rfl (by decide) (as_i (by decide) (by first | rfl | decide) hg.1 hg.2) ?_
                    exact fun h => Kj229 _   (c229 _ (D.some h))
                  · exact fun h => Kj229 _   (c229 _ (D.some h))
              refine D.jn (fun T201 c201 => ?_)
              refine D.br rfl (by decide) rfl (fun hc => ?_) (fun hc => ?_)
              · refine D.run 1 rfl ?_
                refine D.st rfl (by decide) (gf_1 h82_4) ?_
                refine D.run 4 rfl ?_
                refine D.ct rfl rfl rfl rfl rfl (fun q h => x213_ok h) (fun J h => x213_thr h) (fun J h => hX _ (D.some (c201 _ (D.some h)))) (fun q14 => ?_)
                refine D.gd fun hg => ?_
                refine D.st rfl (by decide) (as_i (by decide) (by first | rfl | decide) hg.1 hg.2) ?_
                exact fun h => Kj201 _   (c201 _ (D.some h))
              · exact fun h => Kj201 _   (c201 _ (D.some h))
            refine D.jn (fun T180 c180 => ?_)
            refine D.br rfl (by decide) rfl (fun hc => ?_) (fun hc => ?_)
            · refine D.run 1 rfl ?_
              refine D.st rfl (by decide) (gf_1 h82_4) ?_
              refine D.run 4 rfl ?_
              refine D.ct rfl rfl rfl rfl rfl (fun q h => x214_ok h) (fun J h => x214_thr h) (fun J h => hX _ (D.some (c180 _ (D.some h)))) (fun q8 => ?_)
              refine D.gd fun hg => ?_
              refine D.st rfl (by decide) (as_i (by decide) (by first | rfl | decide) hg.1 hg.2) ?_
              exact fun h => Kj180 _   (c180 _ (D.some h))
            · refine D.run 2 rfl ?_
              refine D.br rfl (by decide) rfl (fun hc => ?_) (fun hc => ?_)
              · refine D.run 1 rfl ?_
                refine D.st rfl (by decide) (gf_1 h82_4) ?_
                refine D.run 4 rfl ?_
                refine D.ct rfl rfl rfl rfl rfl (fun q h => x214_ok h) (fun J h => x214_thr h) (fun J h => hX _ (D.some (c180 _ (D.some h)))) (fun q9 => ?_)
                refine D.gd fun hg => ?_
                refine D.st rfl (by decide) (as_i (by decide) (by first | rfl | decide) hg.1 hg.2) ?_
                exact fun h => Kj180 _   (c180 _ (D.some h))
              · refine D.run 2 rfl ?_
                refine D.br rfl (by decide) rfl (fun hc => ?_) (fun hc => ?_)
                · refine D.run 1 rfl ?_
                  refine D.st rfl (by decide) (gf_1 h82_4) ?_
                  refine D.run 4 rfl ?_
                  refine D.ct rfl rfl rfl rfl rfl (fun q h => x214_ok h) (fun J h => x214_thr h) (fun J h => hX _ (D.some (c180 _ (D.some h)))) (fun q10 => ?_)
                  refine D.gd fun hg => ?_
                  refine D.st rfl (by decide) (as_i (by decide) (by first | rfl | decide) hg.1 hg.2) ?_
                  exact fun h => Kj180 _   (c180 _ (D.some h))
                · refine D.run 2 rfl ?_
                  refine D.br rfl (by decide) rfl (fun hc => ?_) (fun hc => ?_)
                  · refine D.run 1 rfl ?_
                    refine D.st rfl (by decide) (gf_1 h82_4) ?_
                    refine D.run 4 rfl ?_
                    refine D.ct rfl rfl rfl rfl rfl (fun q h => x214_ok h) (fun J h => x214_thr h) (fun J h => hX _ (D.some (c180 _ (D.some h)))) (fun q11 => ?_)
                    refine D.gd fun hg => ?_
                    refine D.st rfl (by decide) (as_i (by decide) (by first | rfl | decide) hg.1 hg.2) ?_
                    exact fun h => Kj180 _   (c180 _ (D.some h))
                  · refine D.run 2 rfl ?_
                    refine D.br rfl (by decide) rfl (fun hc => ?_) (fun hc => ?_)
                    · refine D.run 1 rfl ?_
                      refine D.st rfl (by decide) (gf_1 h82_4) ?_
                      refine D.run 4 rfl ?_
                      refine D.ct rfl rfl rfl rfl rfl (fun q h => x214_ok h) (fun J h => x214_thr h) (fun J h => hX _ (D.some (c180 _ (D.some h)))) (fun q12 => ?_)
                      refine D.gd fun hg => ?_
                      refine D.st rfl (by decide) (as_i (by decide) (by first | rfl | decide) hg.1 hg.2) ?_
                      exact fun h => Kj180 _   (c180 _ (D.some h))
                    · exact fun h => Kj180 _   (c180 _ (D.some h))
          refine D.jn (fun T138 c138 => ?_)
          refine D.br rfl (by decide) rfl (fun hc => ?_) (fun hc => ?_)
          · refine D.run 1 rfl ?_
            refine D.st rfl (by decide) (gf_1 h82_4) ?_
            refine D.run 4 rfl ?_
            refine D.ct rfl rfl rfl rfl rfl (fun q h => x213_ok h) (fun J h => x213_thr h) (fun J h => hX _ (D.some (c138 _ (D.some h)))) (fun q6 => ?_)
            refine D.gd fun hg => ?_
            refine D.st rfl (by decide) (as_i (by decide) (by first | rfl | decide) hg.1 hg.2) ?_
            exact fun h => Kj138 _   (c138 _ (D.some h))
          · exact fun h => Kj138 _   (c138 _ (D.some h))
    refine D.jn (fun T18 c18 => ?_)
    refine D.br rfl (by decide) rfl (fun hc => ?_) (fun hc => ?_)
    · refine D.run 2 rfl ?_
      refine D.call rfl rfl rfl rfl (fun q h => x200_ok (by decide) h) (fun q1 => ?_)
      refine D.run 1 rfl ?_
      exact fun h => Kj18 _   (c18 _ (D.some h))
    · refine D.run 1 rfl ?_
      exact fun h => Kj18 _   (c18 _ (D.some h))
  · refine D.run 3 rfl ?_
    have Kj18 : ∀ (q2 : Int32 × St), Dq (if q2.1 = (-1) then some (.inl (up2 q2.2 84 0 (q2.2 82 13))) else if inb a1 24 then if ((q2.2 126 9) - (q2.2 (126 + 21) a1.toNatClampNeg)) = 100 then some (.inl (up2 q2.2 84 0 (q2.2 82 13))) else if inb (q2.2 126 9) 2400 then if inb (q2.2 126 9) 2400 then Lt (up2 (up2 q2.2 (126 + 26) (q2.2 126 9).toNatClampNeg q2.1) (126 + 28) (q2.2 126 9).toNatClampNeg ((up2 q2.2 (126 + 26) (q2.2 126 9).toNatClampNeg q2.1) 82 13)) fun J3 => if inb (q2.2 126 9) 2400 then if inb (q2.2 126 9) 2400 then Lt (up2 (up2 J3 (126 + 29) (q2.2 126 9).toNatClampNeg (-1)) (126 + 31) (q2.2 126 9).toNatClampNeg (-1)) fun J4 => if inb (q2.2 126 9) 2400 then (x192 (up2 J4 (126 + 27) (q2.2 126 9).toNatClampNeg 0)).bind fun q5 => (if q2.1 = 0 then (x213 q5 (-1)).bind (Sum.elim (fun J => some (.inl J)) (fun q6 => if inb (q2.2 126 9) 2400 then some (.inr (up2 q6.2 (126 + 27) (q2.2 126 9).toNatClampNeg q6.1)) else none)) else some (.inr q5)).bind (Sum.elim (fun J => some (.inl J)) (fun (q7 : St) => (if q2.1 = 2 then (x214 q7 15).bind (Sum.elim (fun J => some (.inl J)) (fun q8 => if inb (q2.2 126 9) 2400 then some (.inr (up2 q8.2 (126 + 27) (q2.2 126 9).toNatClampNeg q8.1)) else none)) else if q2.1 = 3 then (x214 q7 15).bind (Sum.elim (fun J => some (.inl J)) (fun q9 => if inb (q2.2 126 9) 2400 then some (.inr (up2 q9.2 (126 + 27) (q2.2 126 9).toNatClampNeg q9.1)) else none)) else if q2.1 = 4 then (x214 q7 15).bind (Sum.elim (fun J => some (.inl J)) (fun q10 => if inb (q2.2 126 9) 2400 then some (.inr (up2 q10.2 (126 + 27) (q2.2 126 9).toNatClampNeg q10.1)) else none)) else if q2.1 = 55 then (x214 q7 15).bind (Sum.elim (fun J => some (.inl J)) (fun q11 => if inb (q2.2 126 9) 2400 then some (.inr (up2 q11.2 (126 + 27) (q2.2 126 9).toNatClampNeg q11.1)) else none)) else if q2.1 = 56 then (x214 q7 15).bind (Sum.elim (fun J => some (.inl J)) (fun q12 => if inb (q2.2 126 9) 2400 then some (.inr (up2 q12.2 (126 + 27) (q2.2 126 9).toNatClampNeg q12.1)) else none)) else some (.inr q7)).bind (Sum.elim (fun J => some (.inl J)) (fun (q13 : St) => (if q2.1 = 4 then (x213 q13 32767).bind (Sum.elim (fun J => some (.inl J)) (fun q14 => if inb (q2.2 126 9) 2400 then some (.inr (up2 q14.2 (126 + 31) (q2.2 126 9).toNatClampNeg q14.1)) else none)) else some (.inr q13)).bind (Sum.elim (fun J => some (.inl J)) (fun (q15 : St) => (if q2.1 = 57 then (x214 q15 65535).bind (Sum.elim (fun J => some (.inl J)) (fun q16 => if inb (q2.2 126 9) 2400 then some (.inr (up2 q16.2 (126 + 27) (q2.2 126 9).toNatClampNeg q16.1)) else none)) else if q2.1 = 58 then (x214 q15 65535).bind (Sum.elim (fun J => some (.inl J)) (fun q17 => if inb (q2.2 126 9) 2400 then some (.inr (up2 q17.2 (126 + 27) (q2.2 126 9).toNatClampNeg q17.1)) else none)) else some (.inr q15)).bind (Sum.elim (fun J => some (.inl J)) (fun (q18 : St) => (if q2.1 < 20 then some 0 else if 36 < q2.1 then some 0 else some 1).bind fun (q19 : Int32) => (if q2.1 < 38 then if q2.1 = 49 then some 1 else if q2.1 = 50 then some 1 else some 0 else if q2.1 ≤ 41 then some 1 else if q2.1 = 49 then some 1 else if q2.1 = 50 then some 1 else some 0).bind fun (q20 : Int32) => (if q19 = 0 then if q20 = 0 then if q2.1 = 37 then if inb (q2.2 126 9) 2400 then (x201 126 (up2 q18 (126 + 30) (q2.2 126 9).toNatClampNeg (q18 82 13))).bind (Sum.elim (fun J => some (.inl J)) (fun q21 => if inb (q2.2 126 9) 2400 then some (.inr (up2 q21.2 (126 + 29) (q2.2 126 9).toNatClampNeg q21.1)) else none)) else none else if q2.1 = 53 then if inb (q2.2 126 9) 2400 then (x201 126 (up2 q18 (126 + 30) (q2.2 126 9).toNatClampNeg (q18 82 13))).bind (Sum.elim (fun J => some (.inl J)) (fun q22 => if inb (q2.2 126 9) 2400 then some (.inr (up2 q22.2 (126 + 29) (q2.2 126 9).toNatClampNeg q22.1)) else none)) else none else if q2.1 = 54 then if inb (q2.2 126 9) 2400 then (x201 126 (up2 q18 (126 + 30) (q2.2 126 9).toNatClampNeg (q18 82 13))).bind (Sum.elim (fun J => some (.inl J)) (fun q23 => if inb (q2.2 126 9) 2400 then some (.inr (up2 q23.2 (126 + 29) (q2.2 126 9).toNatClampNeg q23.1)) else none)) else none else some (.inr q18) else if inb (q2.2 126 9) 2400 then (x201 126 (up2 q18 (126 + 30) (q2.2 126 9).toNatClampNeg (q18 82 13))).bind (Sum.elim (fun J => some (.inl J)) (fun q24 => if inb (q2.2 126 9) 2400 then some (.inr (up2 q24.2 (126 + 29) (q2.2 126 9).toNatClampNeg q24.1)) else none)) else none else if inb (q2.2 126 9) 2400 then (x201 126 (up2 q18 (126 + 30) (q2.2 126 9).toNatClampNeg (q18 82 13))).bind (Sum.elim (fun J => some (.inl J)) (fun q25 => if inb (q2.2 126 9) 2400 then some (.inr (up2 q25.2 (126 + 29) (q2.2 126 9).toNatClampNeg q25.1)) else none)) else none).bind (Sum.elim (fun J => some (.inl J)) (fun (q26 : St) => (if q20 = 0 then some (.inr q26) else if inb (q2.2 126 9) 2400 then (x201 126 (up2 q26 (126 + 32) (q2.2 126 9).toNatClampNeg (q26 82 13))).bind (Sum.elim (fun J => some (.inl J)) (fun q27 => if inb (q2.2 126 9) 2400 then some (.inr (up2 q27.2 (126 + 31) (q2.2 126 9).toNatClampNeg q27.1)) else none)) else none).bind (Sum.elim (fun J => some (.inl J)) (fun (q28 : St) => (x204 (up2 q28 126 9 ((q28 126 9) + 1)) 59).bind (Sum.elim (fun J => some (.inl J)) (fun q29 => some (.inr q29))))))))))))))) else none else none else none else none else none else none) T → Rn E 212 (18, [.ref 82, .int a1, us, us, us, us], [.int q2.1], wT q2.2 R) o w := by
      intro q2
      refine D.run 3 rfl ?_
      refine D.br rfl (by decide) rfl (fun hc => ?_) (fun hc => ?_)
      · refine D.run 3 rfl ?_
        refine D.ce rfl rfl rfl rfl (fail_ok _) ?_
        exact fun h => by obtain ⟨rfl, rfl⟩ := hX _ (D.some h); exact Rn.thr rfl rfl rfl
      · refine D.run 1 rfl ?_
        refine D.st rfl (by decide) (gf_1 h82_4) ?_
        refine D.run 2 rfl ?_
        refine D.st rfl (by decide) (gf_1 h82_4) ?_
        refine D.run 2 rfl ?_
        refine D.gd fun hg => ?_
        refine D.st rfl (by decide) (al_i (by decide) (by first | rfl | decide) hg.1 hg.2) ?_
        show _ → Rn E 212 (40, [.ref 82, .int a1, .int q2.1, us, us, us], [.int (q2.2 (126 + 21) a1.toNatClampNeg), .int (q2.2 126 9)], wT q2.2 R) o w
        refine D.run 2 rfl ?_
        refine D.br rfl (by decide) rfl (fun hc => ?_) (fun hc => ?_)
        · refine D.run 3 rfl ?_
          refine D.ce rfl rfl rfl rfl (fail_ok _) ?_
          exact fun h => by obtain ⟨rfl, rfl⟩ := hX _ (D.some h); exact Rn.thr rfl rfl rfl
        · refine D.run 1 rfl ?_
          refine D.st rfl (by decide) (gf_1 h82_4) ?_
          refine D.run 3 rfl ?_
          refine D.st rfl (by decide) (gf_1 h82_4) ?_
          refine D.run 3 rfl ?_
          refine D.gd fun hg => ?_
          refine D.st rfl (by decide) (as_i (by decide) (by first | rfl | decide) hg.1 hg.2) ?_
          show _ → Rn E 212 (73, [.ref 82, .int a1, .int q2.1, .int (q2.2 126 9), us, us], [], wT (up2 q2.2 (126 + 26) (q2.2 126 9).toNatClampNeg q2.1) R) o w
          refine D.run 1 rfl ?_
          refine D.st rfl (by decide) (gf_1 h82_4) ?_
          refine D.run 4 rfl ?_
          refine D.gd fun hg => ?_
          refine D.st rfl (by decide) (as_i (by decide) (by first | rfl | decide) hg.1 hg.2) ?_
          refine D.letS (fun J3 => ?_)
          show _ → Rn E 212 (86, [.ref 82, .int a1, .int q2.1, .int (q2.2 126 9), us, us], [], wT J3 R) o w
          refine D.run 1 rfl ?_
          refine D.st rfl (by decide) (gf_1 h82_4) ?_
          refine D.run 3 rfl ?_
          refine D.gd fun hg => ?_
          refine D.st rfl (by decide) (as_i (by decide) (by first | rfl | decide) hg.1 hg.2) ?_
          show _ → Rn E 212 (96, [.ref 82, .int a1, .int q2.1, .int (q2.2 126 9), us, us], [], wT (up2 J3 (126 + 29) (q2.2 126 9).toNatClampNeg (-1)) R) o w
          refine D.run 1 rfl ?_
          refine D.st rfl (by decide) (gf_1 h82_4) ?_
          refine D.run 3 rfl ?_
          refine D.gd fun hg => ?_
          refine D.st rfl (by decide) (as_i (by decide) (by first | rfl | decide) hg.1 hg.2) ?_
          refine D.letS (fun J4 => ?_)
          show _ → Rn E 212 (106, [.ref 82, .int a1, .int q2.1, .int (q2.2 126 9), us, us], [], wT J4 R) o w
          refine D.run 1 rfl ?_
          refine D.st rfl (by decide) (gf_1 h82_4) ?_
          refine D.run 3 rfl ?_
          refine D.gd fun hg => ?_
          refine D.st rfl (by decide) (as_i (by decide) (by first | rfl | decide) hg.1 hg.2) ?_
          show _ → Rn E 212 (116, [.ref 82, .int a1, .int q2.1, .int (q2.2 126 9), us, us], [], wT (up2 J4 (126 + 27) (q2.2 126 9).toNatClampNeg 0) R) o w
          refine D.run 1 rfl ?_
          refine D.call rfl rfl rfl rfl (fun q h => x192_ok h) (fun q5 => ?_)
          refine D.run 1 rfl ?_
          have Kj138 : ∀ (q7 : St), Dq ((if q2.1 = 2 then (x214 q7 15).bind (Sum.elim (fun J => some (.inl J)) (fun q8 => if inb (q2.2 126 9) 2400 then some (.inr (up2 q8.2 (126 + 27) (q2.2 126 9).toNatClampNeg q8.1)) else none)) else if q2.1 = 3 then (x214 q7 15).bind (Sum.elim (fun J => some (.inl J)) (fun q9 => if inb (q2.2 126 9) 2400 then some (.inr (up2 q9.2 (126 + 27) (q2.2 126 9).toNatClampNeg q9.1)) else none)) else if q2.1 = 4 then (x214 q7 15).bind (Sum.elim (fun J => some (.inl J)) (fun q10 => if inb (q2.2 126 9) 2400 then some (.inr (up2 q10.2 (126 + 27) (q2.2 126 9).toNatClampNeg q10.1)) else none)) else if q2.1 = 55 then (x214 q7 15).bind (Sum.elim (fun J => some (.inl J)) (fun q11 => if inb (q2.2 126 9) 2400 then some (.inr (up2 q11.2 (126 + 27) (q2.2 126 9).toNatClampNeg q11.1)) else none)) else if q2.1 = 56 then (x214 q7 15).bind (Sum.elim (fun J => some (.inl J)) (fun q12 => if inb (q2.2 126 9) 2400 then some (.inr (up2 q12.2 (126 + 27) (q2.2 126 9).toNatClampNeg q12.1)) else none)) else some (.inr q7)).bind (Sum.elim (fun J => some (.inl J)) (fun (q13 : St) => (if q2.1 = 4 then (x213 q13 32767).bind (Sum.elim (fun J => some (.inl J)) (fun q14 => if inb (q2.2 126 9) 2400 then some (.inr (up2 q14.2 (126 + 31) (q2.2 126 9).toNatClampNeg q14.1)) else none)) else some (.inr q13)).bind (Sum.elim (fun J => some (.inl J)) (fun (q15 : St) => (if q2.1 = 57 then (x214 q15 65535).bind (Sum.elim (fun J => some (.inl J)) (fun q16 => if inb (q2.2 126 9) 2400 then some (.inr (up2 q16.2 (126 + 27) (q2.2 126 9).toNatClampNeg q16.1)) else none)) else if q2.1 = 58 then (x214 q15 65535).bind (Sum.elim (fun J => some (.inl J)) (fun q17 => if inb (q2.2 126 9) 2400 then some (.inr (up2 q17.2 (126 + 27) (q2.2 126 9).toNatClampNeg q17.1)) else none)) else some (.inr q15)).bind (Sum.elim (fun J => some (.inl J)) (fun (q18 : St) => (if q2.1 < 20 then some 0 else if 36 < q2.1 then some 0 else some 1).bind fun (q19 : Int32) => (if q2.1 < 38 then if q2.1 = 49 then some 1 else if q2.1 = 50 then some 1 else some 0 else if q2.1 ≤ 41 then some 1 else if q2.1 = 49 then some 1 else if q2.1 = 50 then some 1 else some 0).bind fun (q20 : Int32) => (if q19 = 0 then if q20 = 0 then if q2.1 = 37 then if inb (q2.2 126 9) 2400 then (x201 126 (up2 q18 (126 + 30) (q2.2 126 9).toNatClampNeg (q18 82 13))).bind (Sum.elim (fun J => some (.inl J)) (fun q21 => if inb (q2.2 126 9) 2400 then some (.inr (up2 q21.2 (126 + 29) (q2.2 126 9).toNatClampNeg q21.1)) else none)) else none else if q2.1 = 53 then if inb (q2.2 126 9) 2400 then (x201 126 (up2 q18 (126 + 30) (q2.2 126 9).toNatClampNeg (q18 82 13))).bind (Sum.elim (fun J => some (.inl J)) (fun q22 => if inb (q2.2 126 9) 2400 then some (.inr (up2 q22.2 (126 + 29) (q2.2 126 9).toNatClampNeg q22.1)) else none)) else none else if q2.1 = 54 then if inb (q2.2 126 9) 2400 then (x201 126 (up2 q18 (126 + 30) (q2.2 126 9).toNatClampNeg (q18 82 13))).bind (Sum.elim (fun J => some (.inl J)) (fun q23 => if inb (q2.2 126 9) 2400 then some (.inr (up2 q23.2 (126 + 29) (q2.2 126 9).toNatClampNeg q23.1)) else none)) else none else some (.inr q18) else if inb (q2.2 126 9) 2400 then (x201 126 (up2 q18 (126 + 30) (q2.2 126 9).toNatClampNeg (q18 82 13))).bind (Sum.elim (fun J => some (.inl J)) (fun q24 => if inb (q2.2 126 9) 2400 then some (.inr (up2 q24.2 (126 + 29) (q2.2 126 9).toNatClampNeg q24.1)) else none)) else none else if inb (q2.2 126 9) 2400 then (x201 126 (up2 q18 (126 + 30) (q2.2 126 9).toNatClampNeg (q18 82 13))).bind (Sum.elim (fun J => some (.inl J)) (fun q25 => if inb (q2.2 126 9) 2400 then some (.inr (up2 q25.2 (126 + 29) (q2.2 126 9).toNatClampNeg q25.1)) else none)) else none).bind (Sum.elim (fun J => some (.inl J)) (fun (q26 : St) => (if q20 = 0 then some (.inr q26) else if inb (q2.2 126 9) 2400 then (x201 126 (up2 q26 (126 + 32) (q2.2 126 9).toNatClampNeg (q26 82 13))).bind (Sum.elim (fun J => some (.inl J)) (fun q27 => if inb (q2.2 126 9) 2400 then some (.inr (up2 q27.2 (126 + 31) (q2.2 126 9).toNatClampNeg q27.1)) else none)) else none).bind (Sum.elim (fun J => some (.inl J)) (fun (q28 : St) => (x204 (up2 q28 126 9 ((q28 126 9) + 1)) 59).bind (Sum.elim (fun J => some (.inl J)) (fun q29 => some (.inr q29)))))))))))))) T → Rn E 212 (138, [.ref 82, .int a1, .int q2.1, .int (q2.2 126 9), us, us], [], wT q7 R) o w := by
            intro q7
            refine D.run 2 rfl ?_
            have Kj180 : ∀ (q13 : St), Dq ((if q2.1 = 4 then (x213 q13 32767).bind (Sum.elim (fun J => some (.inl J)) (fun q14 => if inb (q2.2 126 9) 2400 then some (.inr (up2 q14.2 (126 + 31) (q2.2 126 9).toNatClampNeg q14.1)) else none)) else some (.inr q13)).bind (Sum.elim (fun J => some (.inl J)) (fun (q15 : St) => (if q2.1 = 57 then (x214 q15 65535).bind (Sum.elim (fun J => some (.inl J)) (fun q16 => if inb (q2.2 126 9) 2400 then some (.inr (up2 q16.2 (126 + 27) (q2.2 126 9).toNatClampNeg q16.1)) else none)) else if q2.1 = 58 then (x214 q15 65535).bind (Sum.elim (fun J => some (.inl J)) (fun q17 => if inb (q2.2 126 9) 2400 then some (.inr (up2 q17.2 (126 + 27) (q2.2 126 9).toNatClampNeg q17.1)) else none)) else some (.inr q15)).bind (Sum.elim (fun J => some (.inl J)) (fun (q18 : St) => (if q2.1 < 20 then some 0 else if 36 < q2.1 then some 0 else some 1).bind fun (q19 : Int32) => (if q2.1 < 38 then if q2.1 = 49 then some 1 else if q2.1 = 50 then some 1 else some 0 else if q2.1 ≤ 41 then some 1 else if q2.1 = 49 then some 1 else if q2.1 = 50 then some 1 else some 0).bind fun (q20 : Int32) => (if q19 = 0 then if q20 = 0 then if q2.1 = 37 then if inb (q2.2 126 9) 2400 then (x201 126 (up2 q18 (126 + 30) (q2.2 126 9).toNatClampNeg (q18 82 13))).bind (Sum.elim (fun J => some (.inl J)) (fun q21 => if inb (q2.2 126 9) 2400 then some (.inr (up2 q21.2 (126 + 29) (q2.2 126 9).toNatClampNeg q21.1)) else none)) else none else if q2.1 = 53 then if inb (q2.2 126 9) 2400 then (x201 126 (up2 q18 (126 + 30) (q2.2 126 9).toNatClampNeg (q18 82 13))).bind (Sum.elim (fun J => some (.inl J)) (fun q22 => if inb (q2.2 126 9) 2400 then some (.inr (up2 q22.2 (126 + 29) (q2.2 126 9).toNatClampNeg q22.1)) else none)) else none else if q2.1 = 54 then if inb (q2.2 126 9) 2400 then (x201 126 (up2 q18 (126 + 30) (q2.2 126 9).toNatClampNeg (q18 82 13))).bind (Sum.elim (fun J => some (.inl J)) (fun q23 => if inb (q2.2 126 9) 2400 then some (.inr (up2 q23.2 (126 + 29) (q2.2 126 9).toNatClampNeg q23.1)) else none)) else none else some (.inr q18) else if inb (q2.2 126 9) 2400 then (x201 126 (up2 q18 (126 + 30) (q2.2 126 9).toNatClampNeg (q18 82 13))).bind (Sum.elim (fun J => some (.inl J)) (fun q24 => if inb (q2.2 126 9) 2400 then some (.inr (up2 q24.2 (126 + 29) (q2.2 126 9).toNatClampNeg q24.1)) else none)) else none else if inb (q2.2 126 9) 2400 then (x201 126 (up2 q18 (126 + 30) (q2.2 126 9).toNatClampNeg (q18 82 13))).bind (Sum.elim (fun J => some (.inl J)) (fun q25 => if inb (q2.2 126 9) 2400 then some (.inr (up2 q25.2 (126 + 29) (q2.2 126 9).toNatClampNeg q25.1)) else none)) else none).bind (Sum.elim (fun J => some (.inl J)) (fun (q26 : St) => (if q20 = 0 then some (.inr q26) else if inb (q2.2 126 9) 2400 then (x201 126 (up2 q26 (126 + 32) (q2.2 126 9).toNatClampNeg (q26 82 13))).bind (Sum.elim (fun J => some (.inl J)) (fun q27 => if inb (q2.2 126 9) 2400 then some (.inr (up2 q27.2 (126 + 31) (q2.2 126 9).toNatClampNeg q27.1)) else none)) else none).bind (Sum.elim (fun J => some (.inl J)) (fun (q28 : St) => (x204 (up2 q28 126 9 ((q28 126 9) + 1)) 59).bind (Sum.elim (fun J => some (.inl J)) (fun q29 => some (.inr q29)))))))))))) T → Rn E 212 (180, [.ref 82, .int a1, .int q2.1, .int (q2.2 126 9), us, us], [], wT q13 R) o w := by
              intro q13
              refine D.run 2 rfl ?_
              have Kj201 : ∀ (q15 : St), Dq ((if q2.1 = 57 then (x214 q15 65535).bind (Sum.elim (fun J => some (.inl J)) (fun q16 => if inb (q2.2 126 9) 2400 then some (.inr (up2 q16.2 (126 + 27) (q2.2 126 9).toNatClampNeg q16.1)) else none)) else if q2.1 = 58 then (x214 q15 65535).bind (Sum.elim (fun J => some (.inl J)) (fun q17 => if inb (q2.2 126 9) 2400 then some (.inr (up2 q17.2 (126 + 27) (q2.2 126 9).toNatClampNeg q17.1)) else none)) else some (.inr q15)).bind (Sum.elim (fun J => some (.inl J)) (fun (q18 : St) => (if q2.1 < 20 then some 0 else if 36 < q2.1 then some 0 else some 1).bind fun (q19 : Int32) => (if q2.1 < 38 then if q2.1 = 49 then some 1 else if q2.1 = 50 then some 1 else some 0 else if q2.1 ≤ 41 then some 1 else if q2.1 = 49 then some 1 else if q2.1 = 50 then some 1 else some 0).bind fun (q20 : Int32) => (if q19 = 0 then if q20 = 0 then if q2.1 = 37 then if inb (q2.2 126 9) 2400 then (x201 126 (up2 q18 (126 + 30) (q2.2 126 9).toNatClampNeg (q18 82 13))).bind (Sum.elim (fun J => some (.inl J)) (fun q21 => if inb (q2.2 126 9) 2400 then some (.inr (up2 q21.2 (126 + 29) (q2.2 126 9).toNatClampNeg q21.1)) else none)) else none else if q2.1 = 53 then if inb (q2.2 126 9) 2400 then (x201 126 (up2 q18 (126 + 30) (q2.2 126 9).toNatClampNeg (q18 82 13))).bind (Sum.elim (fun J => some (.inl J)) (fun q22 => if inb (q2.2 126 9) 2400 then some (.inr (up2 q22.2 (126 + 29) (q2.2 126 9).toNatClampNeg q22.1)) else none)) else none else if q2.1 = 54 then if inb (q2.2 126 9) 2400 then (x201 126 (up2 q18 (126 + 30) (q2.2 126 9).toNatClampNeg (q18 82 13))).bind (Sum.elim (fun J => some (.inl J)) (fun q23 => if inb (q2.2 126 9) 2400 then some (.inr (up2 q23.2 (126 + 29) (q2.2 126 9).toNatClampNeg q23.1)) else none)) else none else some (.inr q18) else if inb (q2.2 126 9) 2400 then (x201 126 (up2 q18 (126 + 30) (q2.2 126 9).toNatClampNeg (q18 82 13))).bind (Sum.elim (fun J => some (.inl J)) (fun q24 => if inb (q2.2 126 9) 2400 then some (.inr (up2 q24.2 (126 + 29) (q2.2 126 9).toNatClampNeg q24.1)) else none)) else none else if inb (q2.2 126 9) 2400 then (x201 126 (up2 q18 (126 + 30) (q2.2 126 9).toNatClampNeg (q18 82 13))).bind (Sum.elim (fun J => some (.inl J)) (fun q25 => if inb (q2.2 126 9) 2400 then some (.inr (up2 q25.2 (126 + 29) (q2.2 126 9).toNatClampNeg q25.1)) else none)) else none).bind (Sum.elim (fun J => some (.inl J)) (fun (q26 : St) => (if q20 = 0 then some (.inr q26) else if inb (q2.2 126 9) 2400 then (x201 126 (up2 q26 (126 + 32) (q2.2 126 9).toNatClampNeg (q26 82 13))).bind (Sum.elim (fun J => some (.inl J)) (fun q27 => if inb (q2.2 126 9) 2400 then some (.inr (up2 q27.2 (126 + 31) (q2.2 126 9).toNatClampNeg q27.1)) else none)) else none).bind (Sum.elim (fun J => some (.inl J)) (fun (q28 : St) => (x204 (up2 q28 126 9 ((q28 126 9) + 1)) 59).bind (Sum.elim (fun J => some (.inl J)) (fun q29 => some (.inr q29)))))))))) T → Rn E 212 (201, [.ref 82, .int a1, .int q2.1, .int (q2.2 126 9), us, us], [], wT q15 R) o w := by
                intro q15
                refine D.run 2 rfl ?_
                have Kj229 : ∀ (q18 : St), Dq ((if q2.1 < 20 then some 0 else if 36 < q2.1 then some 0 else some 1).bind fun (q19 : Int32) => (if q2.1 < 38 then if q2.1 = 49 then some 1 else if q2.1 = 50 then some 1 else some 0 else if q2.1 ≤ 41 then some 1 else if q2.1 = 49 then some 1 else if q2.1 = 50 then some 1 else some 0).bind fun (q20 : Int32) => (if q19 = 0 then if q20 = 0 then if q2.1 = 37 then if inb (q2.2 126 9) 2400 then (x201 126 (up2 q18 (126 + 30) (q2.2 126 9).toNatClampNeg (q18 82 13))).bind (Sum.elim (fun J => some (.inl J)) (fun q21 => if inb (q2.2 126 9) 2400 then some (.inr (up2 q21.2 (126 + 29) (q2.2 126 9).toNatClampNeg q21.1)) else none)) else none else if q2.1 = 53 then if inb (q2.2 126 9) 2400 then (x201 126 (up2 q18 (126 + 30) (q2.2 126 9).toNatClampNeg (q18 82 13))).bind (Sum.elim (fun J => some (.inl J)) (fun q22 => if inb (q2.2 126 9) 2400 then some (.inr (up2 q22.2 (126 + 29) (q2.2 126 9).toNatClampNeg q22.1)) else none)) else none else if q2.1 = 54 then if inb (q2.2 126 9) 2400 then (x201 126 (up2 q18 (126 + 30) (q2.2 126 9).toNatClampNeg (q18 82 13))).bind (Sum.elim (fun J => some (.inl J)) (fun q23 => if inb (q2.2 126 9) 2400 then some (.inr (up2 q23.2 (126 + 29) (q2.2 126 9).toNatClampNeg q23.1)) else none)) else none else some (.inr q18) else if inb (q2.2 126 9) 2400 then (x201 126 (up2 q18 (126 + 30) (q2.2 126 9).toNatClampNeg (q18 82 13))).bind (Sum.elim (fun J => some (.inl J)) (fun q24 => if inb (q2.2 126 9) 2400 then some (.inr (up2 q24.2 (126 + 29) (q2.2 126 9).toNatClampNeg q24.1)) else none)) else none else if inb (q2.2 126 9) 2400 then (x201 126 (up2 q18 (126 + 30) (q2.2 126 9).toNatClampNeg (q18 82 13))).bind (Sum.elim (fun J => some (.inl J)) (fun q25 => if inb (q2.2 126 9) 2400 then some (.inr (up2 q25.2 (126 + 29) (q2.2 126 9).toNatClampNeg q25.1)) else none)) else none).bind (Sum.elim (fun J => some (.inl J)) (fun (q26 : St) => (if q20 = 0 then some (.inr q26) else if inb (q2.2 126 9) 2400 then (x201 126 (up2 q26 (126 + 32) (q2.2 126 9).toNatClampNeg (q26 82 13))).bind (Sum.elim (fun J => some (.inl J)) (fun q27 => if inb (q2.2 126 9) 2400 then some (.inr (up2 q27.2 (126 + 31) (q2.2 126 9).toNatClampNeg q27.1)) else none)) else none).bind (Sum.elim (fun J => some (.inl J)) (fun (q28 : St) => (x204 (up2 q28 126 9 ((q28 126 9) + 1)) 59).bind (Sum.elim (fun J => some (.inl J)) (fun q29 => some (.inr q29)))))))) T → Rn E 212 (229, [.ref 82, .int a1, .int q2.1, .int (q2.2 126 9), us, us], [], wT q18 R) o w := by
                  intro q18
                  refine D.run 2 rfl ?_
                  have Kj246 : ∀ (q19 : Int32), Dq ((if q2.1 < 38 then if q2.1 = 49 then some 1 else if q2.1 = 50 then some 1 else some 0 else if q2.1 ≤ 41 then some 1 else if q2.1 = 49 then some 1 else if q2.1 = 50 then some 1 else some 0).bind fun (q20 : Int32) => (if q19 = 0 then if q20 = 0 then if q2.1 = 37 then if inb (q2.2 126 9) 2400 then (x201 126 (up2 q18 (126 + 30) (q2.2 126 9).toNatClampNeg (q18 82 13))).bind (Sum.elim (fun J => some (.inl J)) (fun q21 => if inb (q2.2 126 9) 2400 then some (.inr (up2 q21.2 (126 + 29) (q2.2 126 9).toNatClampNeg q21.1)) else none)) else none else if q2.1 = 53 then if inb (q2.2 126 9) 2400 then (x201 126 (up2 q18 (126 + 30) (q2.2 126 9).toNatClampNeg (q18 82 13))).bind (Sum.elim (fun J => some (.inl J)) (fun q22 => if inb (q2.2 126 9) 2400 then some (.inr (up2 q22.2 (126 + 29) (q2.2 126 9).toNatClampNeg q22.1)) else none)) else none else if q2.1 = 54 then if inb (q2.2 126 9) 2400 then (x201 126 (up2 q18 (126 + 30) (q2.2 126 9).toNatClampNeg (q18 82 13))).bind (Sum.elim (fun J => some (.inl J)) (fun q23 => if inb (q2.2 126 9) 2400 then some (.inr (up2 q23.2 (126 + 29) (q2.2 126 9).toNatClampNeg q23.1)) else none)) else none else some (.inr q18) else if inb (q2.2 126 9) 2400 then (x201 126 (up2 q18 (126 + 30) (q2.2 126 9).toNatClampNeg (q18 82 13))).bind (Sum.elim (fun J => some (.inl J)) (fun q24 => if inb (q2.2 126 9) 2400 then some (.inr (up2 q24.2 (126 + 29) (q2.2 126 9).toNatClampNeg q24.1)) else none)) else none else if inb (q2.2 126 9) 2400 then (x201 126 (up2 q18 (126 + 30) (q2.2 126 9).toNatClampNeg (q18 82 13))).bind (Sum.elim (fun J => some (.inl J)) (fun q25 => if inb (q2.2 126 9) 2400 then some (.inr (up2 q25.2 (126 + 29) (q2.2 126 9).toNatClampNeg q25.1)) else none)) else none).bind (Sum.elim (fun J => some (.inl J)) (fun (q26 : St) => (if q20 = 0 then some (.inr q26) else if inb (q2.2 126 9) 2400 then (x201 126 (up2 q26 (126 + 32) (q2.2 126 9).toNatClampNeg (q26 82 13))).bind (Sum.elim (fun J => some (.inl J)) (fun q27 => if inb (q2.2 126 9) 2400 then some (.inr (up2 q27.2 (126 + 31) (q2.2 126 9).toNatClampNeg q27.1)) else none)) else none).bind (Sum.elim (fun J => some (.inl J)) (fun (q28 : St) => (x204 (up2 q28 126 9 ((q28 126 9) + 1)) 59).bind (Sum.elim (fun J => some (.inl J)) (fun q29 => some (.inr q29)))))))) T → Rn E 212 (246, [.ref 82, .int a1, .int q2.1, .int (q2.2 126 9), us, us], [.int q19], wT q18 R) o w := by
                    intro q19
                    refine D.run 3 rfl ?_
                    have Kj277 : ∀ (q20 : Int32), Dq ((if q19 = 0 then if q20 = 0 then if q2.1 = 37 then if inb (q2.2 126 9) 2400 then (x201 126 (up2 q18 (126 + 30) (q2.2 126 9).toNatClampNeg (q18 82 13))).bind (Sum.elim (fun J => some (.inl J)) (fun q21 => if inb (q2.2 126 9) 2400 then some (.inr (up2 q21.2 (126 + 29) (q2.2 126 9).toNatClampNeg q21.1)) else none)) else none else if q2.1 = 53 then if inb (q2.2 126 9) 2400 then (x201 126 (up2 q18 (126 + 30) (q2.2 126 9).toNatClampNeg (q18 82 13))).bind (Sum.elim (fun J => some (.inl J)) (fun q22 => if inb (q2.2 126 9) 2400 then some (.inr (up2 q22.2 (126 + 29) (q2.2 126 9).toNatClampNeg q22.1)) else none)) else none else if q2.1 = 54 then if inb (q2.2 126 9) 2400 then (x201 126 (up2 q18 (126 + 30) (q2.2 126 9).toNatClampNeg (q18 82 13))).bind (Sum.elim (fun J => some (.inl J)) (fun q23 => if inb (q2.2 126 9) 2400 then some (.inr (up2 q23.2 (126 + 29) (q2.2 126 9).toNatClampNeg q23.1)) else none)) else none else some (.inr q18) else if inb (q2.2 126 9) 2400 then (x201 126 (up2 q18 (126 + 30) (q2.2 126 9).toNatClampNeg (q18 82 13))).bind (Sum.elim (fun J => some (.inl J)) (fun q24 => if inb (q2.2 126 9) 2400 then some (.inr (up2 q24.2 (126 + 29) (q2.2 126 9).toNatClampNeg q24.1)) else none)) else none else if inb (q2.2 126 9) 2400 then (x201 126 (up2 q18 (126 + 30) (q2.2 126 9).toNatClampNeg (q18 82 13))).bind (Sum.elim (fun J => some (.inl J)) (fun q25 => if inb (q2.2 126 9) 2400 then some (.inr (up2 q25.2 (126 + 29) (q2.2 126 9).toNatClampNeg q25.1)) else none)) else none).bind (Sum.elim (fun J => some (.inl J)) (fun (q26 : St) => (if q20 = 0 then some (.inr q26) else if inb (q2.2 126 9) 2400 then (x201 126 (up2 q26 (126 + 32) (q2.2 126 9).toNatClampNeg (q26 82 13))).bind (Sum.elim (fun J => some (.inl J)) (fun q27 => if inb (q2.2 126 9) 2400 then some (.inr (up2 q27.2 (126 + 31) (q2.2 126 9).toNatClampNeg q27.1)) else none)) else none).bind (Sum.elim (fun J => some (.inl J)) (fun (q28 : St) => (x204 (up2 q28 126 9 ((q28 126 9) + 1)) 59).bind (Sum.elim (fun J => some (.inl J)) (fun q29 => some (.inr q29)))))))) T → Rn E 212 (277, [.ref 82, .int a1, .int q2.1, .int (q2.2 126 9), .int q19, us], [.int q20], wT q18 R) o w := by
                      intro q20
                      refine D.run 2 rfl ?_
                      have Kj333 : ∀ (q26 : St), Dq ((if q20 = 0 then some (.inr q26) else if inb (q2.2 126 9) 2400 then (x201 126 (up2 q26 (126 + 32) (q2.2 126 9).toNatClampNeg (q26 82 13))).bind (Sum.elim (fun J => some (.inl J)) (fun q27 => if inb (q2.2 126 9) 2400 then some (.inr (up2 q27.2 (126 + 31) (q2.2 126 9).toNatClampNeg q27.1)) else none)) else none).bind (Sum.elim (fun J => some (.inl J)) (fun (q28 : St) => (x204 (up2 q28 126 9 ((q28 126 9) + 1)) 59).bind (Sum.elim (fun J => some (.inl J)) (fun q29 => some (.inr q29)))))) T → Rn E 212 (333, [.ref 82, .int a1, .int q2.1, .int (q2.2 126 9), .int q19, .int q20], [], wT q26 R) o w := by
                        intro q26
                        refine D.run 1 rfl ?_
                        have Kj364 : ∀ (q28 : St), Dq ((x204 (up2 q28 126 9 ((q28 126 9) + 1)) 59).bind (Sum.elim (fun J => some (.inl J)) (fun q29 => some (.inr q29)))) T → Rn E 212 (364, [.ref 82, .int a1, .int q2.1, .int (q2.2 126 9), .int q19, .int q20], [], wT q28 R) o w := by
                          intro q28
                          refine D.run 1 rfl ?_
                          refine D.st rfl (by decide) (gf_1 h82_4) ?_
                          refine D.run 7 rfl ?_
                          refine D.ct rfl rfl rfl rfl rfl (fun q h => x204_ok h) (fun J h => x204_thr h) (fun J h => hX _ (D.some h)) (fun q29 => ?_)
                          exact fun h => by obtain ⟨rfl, rfl⟩ := hT _ (D.some h); exact Rn.ret rfl rfl rfl
                        refine D.jn (fun T364 c364 => ?_)
                        refine D.br rfl (by decide) rfl (fun hc => ?_) (fun hc => ?_)
                        · exact fun h => Kj364 _   (c364 _ (D.some h))
                        · refine D.run 1 rfl ?_
                          refine D.st rfl (by decide) (gf_1 h82_4) ?_
                          refine D.run 4 rfl ?_
                          refine D.gd fun hg => ?_
                          refine D.st rfl (by decide) (as_i (by decide) (by first | rfl | decide) hg.1 hg.2) ?_
                          show _ → Rn E 212 (351, [.ref 82, .int a1, .int q2.1, .int (q2.2 126 9), .int q19, .int q20], [], wT (up2 q26 (126 + 32) (q2.2 126 9).toNatClampNeg (q26 82 13)) R) o w
                          refine D.run 1 rfl ?_
                          refine D.st rfl (by decide) (gf_1 h82_4) ?_
                          refine D.run 3 rfl ?_
                          refine D.ct rfl rfl rfl rfl rfl (fun q h => x201_ok (by decide) h82_4 h) (fun J h => x201_thr (by decide) h82_4 h) (fun J h => hX _ (D.some (c364 _ (D.some h)))) (fun q27 => ?_)
                          refine D.gd fun hg => ?_
                          refine D.st rfl (by decide) (as_i (by decide) (by first | rfl | decide) hg.1 hg.2) ?_
                          exact fun h => Kj364 _   (c364 _ (D.some h))
                      refine D.jn (fun T333 c333 => ?_)
                      refine D.br rfl (by decide) rfl (fun hc => ?_) (fun hc => ?_)
                      · refine D.run 1 rfl ?_
                        refine D.br rfl (by decide) rfl (fun hc => ?_) (fun hc => ?_)
                        · refine D.run 2 rfl ?_
                          refine D.br rfl (by decide) rfl (fun hc => ?_) (fun hc => ?_)
                          · refine D.run 1 rfl ?_
                            refine D.st rfl (by decide) (gf_1 h82_4) ?_
                            refine D.run 4 rfl ?_
                            refine D.gd fun hg => ?_
                            refine D.st rfl (by decide) (as_i (by decide) (by first | rfl | decide) hg.1 hg.2) ?_
                            show _ → Rn E 212 (320, [.ref 82, .int a1, .int q2.1, .int (q2.2 126 9), .int q19, .int q20], [], wT (up2 q18 (126 + 30) (q2.2 126 9).toNatClampNeg (q18 82 13)) R) o w
                            refine D.run 1 rfl ?_
                            refine D.st rfl (by decide) (gf_1 h82_4) ?_
                            refine D.run 3 rfl ?_
                            refine D.ct rfl rfl rfl rfl rfl (fun q h => x201_ok (by decide) h82_4 h) (fun J h => x201_thr (by decide) h82_4 h) (fun J h => hX _ (D.some (c333 _ (D.some h)))) (fun q21 => ?_)
                            refine D.gd fun hg => ?_
                            refine D.st rfl (by decide) (as_i (by decide) (by first | rfl | decide) hg.1 hg.2) ?_
                            exact fun h => Kj333 _   (c333 _ (D.some h))
                          · refine D.run 2 rfl ?_
                            refine D.br rfl (by decide) rfl (fun hc => ?_) (fun hc => ?_)
                            · refine D.run 1 rfl ?_
                              refine D.st rfl (by decide) (gf_1 h82_4) ?_
                              refine D.run 4 rfl ?_
                              refine D.gd fun hg => ?_
                              refine D.st rfl (by decide) (as_i (by decide) (by first | rfl | decide) hg.1 hg.2) ?_
                              show _ → Rn E 212 (320, [.ref 82, .int a1, .int q2.1, .int (q2.2 126 9), .int q19, .int q20], [], wT (up2 q18 (126 + 30) (q2.2 126 9).toNatClampNeg (q18 82 13)) R) o w
                              refine D.run 1 rfl ?_
                              refine D.st rfl (by decide) (gf_1 h82_4) ?_
                              refine D.run 3 rfl ?_
                              refine D.ct rfl rfl rfl rfl rfl (fun q h => x201_ok (by decide) h82_4 h) (fun J h => x201_thr (by decide) h82_4 h) (fun J h => hX _ (D.some (c333 _ (D.some h)))) (fun q22 => ?_)
                              refine D.gd fun hg => ?_
                              refine D.st rfl (by decide) (as_i (by decide) (by first | rfl | decide) hg.1 hg.2) ?_
                              exact fun h => Kj333 _   (c333 _ (D.some h))
                            · refine D.run 2 rfl ?_
                              refine D.br rfl (by decide) rfl (fun hc => ?_) (fun hc => ?_)
                              · refine D.run 1 rfl ?_
                                refine D.st rfl (by decide) (gf_1 h82_4) ?_
                                refine D.run 4 rfl ?_
                                refine D.gd fun hg => ?_
                                refine D.st rfl (by decide) (as_i (by decide) (by first | rfl | decide) hg.1 hg.2) ?_
                                show _ → Rn E 212 (320, [.ref 82, .int a1, .int q2.1, .int (q2.2 126 9), .int q19, .int q20], [], wT (up2 q18 (126 + 30) (q2.2 126 9).toNatClampNeg (q18 82 13)) R) o w
                                refine D.run 1 rfl ?_
                                refine D.st rfl (by decide) (gf_1 h82_4) ?_
                                refine D.run 3 rfl ?_
                                refine D.ct rfl rfl rfl rfl rfl (fun q h => x201_ok (by decide) h82_4 h) (fun J h => x201_thr (by decide) h82_4 h) (fun J h => hX _ (D.some (c333 _ (D.some h)))) (fun q23 => ?_)
                                refine D.gd fun hg => ?_
                                refine D.st rfl (by decide) (as_i (by decide) (by first | rfl | decide) hg.1 hg.2) ?_
                                exact fun h => Kj333 _   (c333 _ (D.some h))
                              · exact fun h => Kj333 _   (c333 _ (D.some h))
                        · refine D.run 1 rfl ?_
                          refine D.st rfl (by decide) (gf_1 h82_4) ?_
                          refine D.run 4 rfl ?_
                          refine D.gd fun hg => ?_
                          refine D.st rfl (by decide) (as_i (by decide) (by first | rfl | decide) hg.1 hg.2) ?_
                          show _ → Rn E 212 (320, [.ref 82, .int a1, .int q2.1, .int (q2.2 126 9), .int q19, .int q20], [], wT (up2 q18 (126 + 30) (q2.2 126 9).toNatClampNeg (q18 82 13)) R) o w
                          refine D.run 1 rfl ?_
                          refine D.st rfl (by decide) (gf_1 h82_4) ?_
                          refine D.run 3 rfl ?_
                          refine D.ct rfl rfl rfl rfl rfl (fun q h => x201_ok (by decide) h82_4 h) (fun J h => x201_thr (by decide) h82_4 h) (fun J h => hX _ (D.some (c333 _ (D.some h)))) (fun q24 => ?_)
                          refine D.gd fun hg => ?_
                          refine D.st rfl (by decide) (as_i (by decide) (by first | rfl | decide) hg.1 hg.2) ?_
                          exact fun h => Kj333 _   (c333 _ (D.some h))
                      · refine D.run 1 rfl ?_
                        refine D.st rfl (by decide) (gf_1 h82_4) ?_
                        refine D.run 4 rfl ?_
                        refine D.gd fun hg => ?_
                        refine D.st rfl (by decide) (as_i (by decide) (by first | rfl | decide) hg.1 hg.2) ?_
                        show _ → Rn E 212 (320, [.ref 82, .int a1, .int q2.1, .int (q2.2 126 9), .int q19, .int q20], [], wT (up2 q18 (126 + 30) (q2.2 126 9).toNatClampNeg (q18 82 13)) R) o w
                        refine D.run 1 rfl ?_
                        refine D.st rfl (by decide) (gf_1 h82_4) ?_
                        refine D.run 3 rfl ?_
                        refine D.ct rfl rfl rfl rfl rfl (fun q h => x201_ok (by decide) h82_4 h) (fun J h => x201_thr (by decide) h82_4 h) (fun J h => hX _ (D.some (c333 _ (D.some h)))) (fun q25 => ?_)
                        refine D.gd fun hg => ?_
                        refine D.st rfl (by decide) (as_i (by decide) (by first | rfl | decide) hg.1 hg.2) ?_
                        exact fun h => Kj333 _   (c333 _ (D.some h))
                    refine D.jn (fun T277 c277 => ?_)
                    refine D.br rfl (by decide) rfl (fun hc => ?_) (fun hc => ?_)
                    · refine D.run 2 rfl ?_
                      refine D.br rfl (by decide) rfl (fun hc => ?_) (fun hc => ?_)
                      · refine D.run 2 rfl ?_
                        exact fun h => Kj277 _   (c277 _ (D.some h))
                      · refine D.run 2 rfl ?_
                        refine D.br rfl (by decide) rfl (fun hc => ?_) (fun hc => ?_)
                        · refine D.run 2 rfl ?_
                          exact fun h => Kj277 _   (c277 _ (D.some h))
                        · refine D.run 1 rfl ?_
                          exact fun h => Kj277 _   (c277 _ (D.some h))
                    · refine D.run 2 rfl ?_
                      refine D.br rfl (by decide) rfl (fun hc => ?_) (fun hc => ?_)
                      · refine D.run 2 rfl ?_
                        exact fun h => Kj277 _   (c277 _ (D.some h))
                      · refine D.run 2 rfl ?_
                        refine D.br rfl (by decide) rfl (fun hc => ?_) (fun hc => ?_)
                        · refine D.run 2 rfl ?_
                          exact fun h => Kj277 _   (c277 _ (D.some h))
                        · refine D.run 2 rfl ?_
                          refine D.br rfl (by decide) rfl (fun hc => ?_) (fun hc => ?_)
                          · refine D.run 2 rfl ?_
                            exact fun h => Kj277 _   (c277 _ (D.some h))
                          · refine D.run 1 rfl ?_
                            exact fun h => Kj277 _   (c277 _ (D.some h))
                  refine D.jn (fun T246 c246 => ?_)
                  refine D.br rfl (by decide) rfl (fun hc => ?_) (fun hc => ?_)
                  · refine D.run 1 rfl ?_
                    exact fun h => Kj246 _   (c246 _ (D.some h))
                  · refine D.run 2 rfl ?_
                    refine D.br rfl (by decide) rfl (fun hc => ?_) (fun hc => ?_)
                    · refine D.run 1 rfl ?_
                      exact fun h => Kj246 _   (c246 _ (D.some h))
                    · refine D.run 2 rfl ?_
                      exact fun h => Kj246 _   (c246 _ (D.some h))
                refine D.jn (fun T229 c229 => ?_)
                refine D.br rfl (by decide) rfl (fun hc => ?_) (fun hc => ?_)
                · refine D.run 1 rfl ?_
                  refine D.st rfl (by decide) (gf_1 h82_4) ?_
                  refine D.run 4 rfl ?_
                  refine D.ct rfl rfl rfl rfl rfl (fun q h => x214_ok h) (fun J h => x214_thr h) (fun J h => hX _ (D.some (c229 _ (D.some h)))) (fun q16 => ?_)
                  refine D.gd fun hg => ?_
                  refine D.st rfl (by decide) (as_i (by decide) (by first | rfl | decide) hg.1 hg.2) ?_
                  exact fun h => Kj229 _   (c229 _ (D.some h))
                · refine D.run 2 rfl ?_
                  refine D.br rfl (by decide) rfl (fun hc => ?_) (fun hc => ?_)
                  · refine D.run 1 rfl ?_
                    refine D.st rfl (by decide) (gf_1 h82_4) ?_
                    refine D.run 4 rfl ?_
                    refine D.ct rfl rfl rfl rfl rfl (fun q h => x214_ok h) (fun J h => x214_thr h) (fun J h => hX _ (D.some (c229 _ (D.some h)))) (fun q17 => ?_)
                    refine D.gd fun hg => ?_
                    refine D.st rfl (by decide) (as_i (by decide) (by first | rfl | decide) hg.1 hg.2) ?_
                    exact fun h => Kj229 _   (c229 _ (D.some h))
                  · exact fun h => Kj229 _   (c229 _ (D.some h))
              refine D.jn (fun T201 c201 => ?_)
              refine D.br rfl (by decide) rfl (fun hc => ?_) (fun hc => ?_)
              · refine D.run 1 rfl ?_
                refine D.st rfl (by decide) (gf_1 h82_4) ?_
                refine D.run 4 rfl ?_
                refine D.ct rfl rfl rfl rfl rfl (fun q h => x213_ok h) (fun J h => x213_thr h) (fun J h => hX _ (D.some (c201 _ (D.some h)))) (fun q14 => ?_)
                refine D.gd fun hg => ?_
                refine D.st rfl (by decide) (as_i (by decide) (by first | rfl | decide) hg.1 hg.2) ?_
                exact fun h => Kj201 _   (c201 _ (D.some h))
              · exact fun h => Kj201 _   (c201 _ (D.some h))
            refine D.jn (fun T180 c180 => ?_)
            refine D.br rfl (by decide) rfl (fun hc => ?_) (fun hc => ?_)
            · refine D.run 1 rfl ?_
              refine D.st rfl (by decide) (gf_1 h82_4) ?_
              refine D.run 4 rfl ?_
              refine D.ct rfl rfl rfl rfl rfl (fun q h => x214_ok h) (fun J h => x214_thr h) (fun J h => hX _ (D.some (c180 _ (D.some h)))) (fun q8 => ?_)
              refine D.gd fun hg => ?_
              refine D.st rfl (by decide) (as_i (by decide) (by first | rfl | decide) hg.1 hg.2) ?_
              exact fun h => Kj180 _   (c180 _ (D.some h))
            · refine D.run 2 rfl ?_
              refine D.br rfl (by decide) rfl (fun hc => ?_) (fun hc => ?_)
              · refine D.run 1 rfl ?_
                refine D.st rfl (by decide) (gf_1 h82_4) ?_
                refine D.run 4 rfl ?_
                refine D.ct rfl rfl rfl rfl rfl (fun q h => x214_ok h) (fun J h => x214_thr h) (fun J h => hX _ (D.some (c180 _ (D.some h)))) (fun q9 => ?_)
                refine D.gd fun hg => ?_
                refine D.st rfl (by decide) (as_i (by decide) (by first | rfl | decide) hg.1 hg.2) ?_
                exact fun h => Kj180 _   (c180 _ (D.some h))
              · refine D.run 2 rfl ?_
                refine D.br rfl (by decide) rfl (fun hc => ?_) (fun hc => ?_)
                · refine D.run 1 rfl ?_
                  refine D.st rfl (by decide) (gf_1 h82_4) ?_
                  refine D.run 4 rfl ?_
                  refine D.ct rfl rfl rfl rfl rfl (fun q h => x214_ok h) (fun J h => x214_thr h) (fun J h => hX _ (D.some (c180 _ (D.some h)))) (fun q10 => ?_)
                  refine D.gd fun hg => ?_
                  refine D.st rfl (by decide) (as_i (by decide) (by first | rfl | decide) hg.1 hg.2) ?_
                  exact fun h => Kj180 _   (c180 _ (D.some h))
                · refine D.run 2 rfl ?_
                  refine D.br rfl (by decide) rfl (fun hc => ?_) (fun hc => ?_)
                  · refine D.run 1 rfl ?_
                    refine D.st rfl (by decide) (gf_1 h82_4) ?_
                    refine D.run 4 rfl ?_
                    refine D.ct rfl rfl rfl rfl rfl (fun q h => x214_ok h) (fun J h => x214_thr h) (fun J h => hX _ (D.some (c180 _ (D.some h)))) (fun q11 => ?_)
                    refine D.gd fun hg => ?_
                    refine D.st rfl (by decide) (as_i (by decide) (by first | rfl | decide) hg.1 hg.2) ?_
                    exact fun h => Kj180 _   (c180 _ (D.some h))
                  · refine D.run 2 rfl ?_
                    refine D.br rfl (by decide) rfl (fun hc => ?_) (fun hc => ?_)
                    · refine D.run 1 rfl ?_
                      refine D.st rfl (by decide) (gf_1 h82_4) ?_
                      refine D.run 4 rfl ?_
                      refine D.ct rfl rfl rfl rfl rfl (fun q h => x214_ok h) (fun J h => x214_thr h) (fun J h => hX _ (D.some (c180 _ (D.some h)))) (fun q12 => ?_)
                      refine D.gd fun hg => ?_
                      refine D.st rfl (by decide) (as_i (by decide) (by first | rfl | decide) hg.1 hg.2) ?_
                      exact fun h => Kj180 _   (c180 _ (D.some h))
                    · exact fun h => Kj180 _   (c180 _ (D.some h))
          refine D.jn (fun T138 c138 => ?_)
          refine D.br rfl (by decide) rfl (fun hc => ?_) (fun hc => ?_)
          · refine D.run 1 rfl ?_
            refine D.st rfl (by decide) (gf_1 h82_4) ?_
            refine D.run 4 rfl ?_
            refine D.ct rfl rfl rfl rfl rfl (fun q h => x213_ok h) (fun J h => x213_thr h) (fun J h => hX _ (D.some (c138 _ (D.some h)))) (fun q6 => ?_)
            refine D.gd fun hg => ?_
            refine D.st rfl (by decide) (as_i (by decide) (by first | rfl | decide) hg.1 hg.2) ?_
            exact fun h => Kj138 _   (c138 _ (D.some h))
          · exact fun h => Kj138 _   (c138 _ (D.some h))
    refine D.jn (fun T18 c18 => ?_)
    refine D.br rfl (by decide) rfl (fun hc => ?_) (fun hc => ?_)
    · refine D.run 2 rfl ?_
      refine D.call rfl rfl rfl rfl (fun q h => x200_ok (by decide) h) (fun q1 => ?_)
      refine D.run 1 rfl ?_
      exact fun h => Kj18 _   (c18 _ (D.some h))
    · refine D.run 1 rfl ?_
      exact fun h => Kj18 _   (c18 _ (D.some h))
set_option maxRecDepth 20000 in
set_option maxHeartbeats 30000000 in
theorem x212_ok {E : Xe} {R : Nat → Nat → Option Nat} {Z : Nat} {I : St} (hZ : Z = 85 ∨ Z = 126) (h82_4 : R 82 4 = some Z) {a1 : Int32} {q : St} (h : x212 Z I a1 = some (.inr q)) : Rn E 212 (0, loc0 212 [.ref 82, .int a1], [], wT I R) (.returned none) (wT q R) := x212_D hZ h82_4 _ (T := fun r => r = .inr q) (by rintro r h; cases h; exact ⟨rfl, rfl⟩) (by rintro J h; cases h) ⟨_, h, rfl⟩
set_option maxRecDepth 20000 in
set_option maxHeartbeats 30000000 in
theorem x212_thr {E : Xe} {R : Nat → Nat → Option Nat} {Z : Nat} {I : St} (hZ : Z = 85 ∨ Z = 126) (h82_4 : R 82 4 = some Z) {a1 : Int32} {J : St} (h : x212 Z I a1 = some (.inl J)) : Rn E 212 (0, loc0 212 [.ref 82, .int a1], [], wT I R) (.threw 84) (wT J R) := x212_D hZ h82_4 _ (T := fun r => r = .inl J) (by rintro r h; cases h) (by rintro K h; cases h; exact ⟨rfl, rfl⟩) ⟨_, h, rfl⟩
