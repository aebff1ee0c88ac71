/-! FUNCTIONS OF METHODS, by program (wip/gen/all.py): 95 96 100 103 104 105 107 109 110 111 114 115 116 117 118 119 120 121 127 128 132 133 134 135 139 140 141 143 146 149 150 151 152 153 159 162 164 167 169 -/
/-- TaintHouse$Linker.linkMember(II)V -/
def x95 (P : Nat) (I : St) (a1 a2 : Int32) : Option (St) := if a2 = (-1) then some I else if (tget I (P + 9) a1 0) = 49 then (if (tget I (P + 9) a1 0) = 50 then some 1 else some 0).bind fun (q1 : Int32) => (x87 P (P + 7) I a2 (tget I (P + 9) a1 2) q1).bind fun q2 => (if q2 = (-1) then (x83 I (tget I 52 a1 2) 2).bind fun q3 => some q3 else some I).bind fun (q4 : St) => some (tset (tset q4 (P + 9) a1 1 a2) (P + 9) a1 2 q2) else if (tget I (P + 9) a1 0) = 50 then (if (tget I (P + 9) a1 0) = 50 then some 1 else some 0).bind fun (q5 : Int32) => (x87 P (P + 7) I a2 (tget I (P + 9) a1 2) q5).bind fun q6 => (if q6 = (-1) then (x83 I (tget I 52 a1 2) 2).bind fun q7 => some q7 else some I).bind fun (q8 : St) => some (tset (tset q8 (P + 9) a1 1 a2) (P + 9) a1 2 q6) else if (tget I (P + 9) a1 0) = 40 then (if (tget I (P + 9) a1 0) = 50 then some 1 else some 0).bind fun (q9 : Int32) => (x87 P (P + 5) I a2 (tget I (P + 9) a1 2) q9).bind fun q10 => (if q10 = (-1) then (x83 I (tget I 52 a1 2) 2).bind fun q11 => some q11 else some I).bind fun (q12 : St) => some (tset (tset q12 (P + 9) a1 1 a2) (P + 9) a1 2 q10) else if (tget I (P + 9) a1 0) = 41 then (if (tget I (P + 9) a1 0) = 50 then some 1 else some 0).bind fun (q13 : Int32) => (x87 P (P + 5) I a2 (tget I (P + 9) a1 2) q13).bind fun q14 => (if q14 = (-1) then (x83 I (tget I 52 a1 2) 2).bind fun q15 => some q15 else some I).bind fun (q16 : St) => some (tset (tset q16 (P + 9) a1 1 a2) (P + 9) a1 2 q14) else (if (tget I (P + 9) a1 0) = 50 then some 1 else some 0).bind fun (q17 : Int32) => (x87 P (P + 3) I a2 (tget I (P + 9) a1 2) q17).bind fun q18 => (if q18 = (-1) then (x83 I (tget I 52 a1 2) 2).bind fun q19 => some q19 else some I).bind fun (q20 : St) => some (tset (tset q20 (P + 9) a1 1 a2) (P + 9) a1 2 q18)
set_option maxRecDepth 20000 in
theorem x95_D {E : Xe} {R : Nat → Nat → Option Nat} {P : Nat} {o : Outcome} {w : Wd} {T : (St) → Prop} {I : St} (hP : P = 3 ∨ P = 18) (h57_2 : R 57 2 = some P) (a1 a2 : Int32) (hT : ∀ r, T r → o = .returned none ∧ w = wT r R) : Dq (x95 P I a1 a2) T → Rn E 95 (0, loc0 95 [.ref 57, .int a1, .int a2], [], wT I R) o w := by
  unfold x95
  rcases hP with rfl | rfl
  · refine D.run 2 rfl ?_
    refine D.br rfl (by decide) rfl (fun hc => ?_) (fun hc => ?_)
    · exact fun h => by obtain ⟨rfl, rfl⟩ := hT _ (D.some h); exact Rn.ret rfl rfl rfl
    · refine D.run 1 rfl ?_
      refine D.st rfl (by decide) (gf_1 h57_2) ?_
      refine D.run 3 rfl ?_
      refine D.ce rfl rfl rfl rfl (tget_ok (by decide) (by first | rfl | decide) _ _) ?_
      refine D.run 3 rfl ?_
      refine D.br rfl (by decide) rfl (fun hc => ?_) (fun hc => ?_)
      · refine D.run 1 rfl ?_
        refine D.st rfl (by decide) (gf_1 h57_2) ?_
        refine D.run 4 rfl ?_
        refine D.st rfl (by decide) (gf_1 h57_2) ?_
        refine D.run 3 rfl ?_
        refine D.st rfl (by decide) (gf_1 h57_2) ?_
        show _ → Rn E 95 (83, [.ref 57, .int a1, .int a2, .int (tget I (3 + 9) a1 0), .ref (3 + 7), us], [.ref 3, .int a2, .ref (3 + 7), .ref 3], wT I R) o w
        refine D.run 3 rfl ?_
        refine D.ce rfl rfl rfl rfl (tget_ok (by decide) (by first | rfl | decide) _ _) ?_
        refine D.run 2 rfl ?_
        have Kj102 : ∀ (q1 : Int32), Dq ((x87 3 (3 + 7) I a2 (tget I (3 + 9) a1 2) q1).bind fun q2 => (if q2 = (-1) then (x83 I (tget I 52 a1 2) 2).bind fun q3 => some q3 else some I).bind fun (q4 : St) => some (tset (tset q4 (3 + 9) a1 1 a2) (3 + 9) a1 2 q2)) T → Rn E 95 (102, [.ref 57, .int a1, .int a2, .int (tget I (3 + 9) a1 0), .ref (3 + 7), us], [.int q1, .int (tget I (3 + 9) a1 2), .int a2, .ref (3 + 7), .ref 3], wT I R) o w := by
          intro q1
          refine D.call rfl rfl rfl rfl (fun q h => x87_ok (by decide) (by decide) h) (fun q2 => ?_)
          refine D.run 3 rfl ?_
          have Kj130 : ∀ (q4 : St), Dq (some (tset (tset q4 (3 + 9) a1 1 a2) (3 + 9) a1 2 q2)) T → Rn E 95 (130, [.ref 57, .int a1, .int a2, .int (tget I (3 + 9) a1 0), .ref (3 + 7), .int q2], [], wT q4 R) o w := by
            intro q4
            refine D.run 1 rfl ?_
            refine D.st rfl (by decide) (gf_1 h57_2) ?_
            refine D.run 4 rfl ?_
            refine D.ce rfl rfl rfl rfl (tset_ok (by decide) (by first | rfl | decide) _ _ _) ?_
            refine D.run 1 rfl ?_
            refine D.st rfl (by decide) (gf_1 h57_2) ?_
            show _ → Rn E 95 (147, [.ref 57, .int a1, .int a2, .int (tget I (3 + 9) a1 0), .ref (3 + 7), .int q2], [.ref 3], wT (tset q4 (3 + 9) a1 1 a2) R) o w
            refine D.run 4 rfl ?_
            refine D.ce rfl rfl rfl rfl (tset_ok (by decide) (by first | rfl | decide) _ _ _) ?_
            exact fun h => by obtain ⟨rfl, rfl⟩ := hT _ (D.some h); exact Rn.ret rfl rfl rfl
          refine D.jn (fun T130 c130 => ?_)
          refine D.br rfl (by decide) rfl (fun hc => ?_) (fun hc => ?_)
          · refine D.run 6 rfl ?_
            refine D.ce rfl rfl rfl rfl (tget_ok (by decide) (by first | rfl | decide) _ _) ?_
            refine D.run 1 rfl ?_
            refine D.call rfl rfl rfl rfl (fun q h => x83_ok h) (fun q3 => ?_)
            exact fun h => Kj130 _   (c130 _ (D.some h))
          · exact fun h => Kj130 _   (c130 _ (D.some h))
        refine D.jn (fun T102 c102 => ?_)
        refine D.br rfl (by decide) rfl (fun hc => ?_) (fun hc => ?_)
        · refine D.run 2 rfl ?_
          exact fun h => Kj102 _   (c102 _ (D.some h))
        · refine D.run 1 rfl ?_
          exact fun h => Kj102 _   (c102 _ (D.some h))
      · refine D.run 2 rfl ?_
        refine D.br rfl (by decide) rfl (fun hc => ?_) (fun hc => ?_)
        · refine D.run 1 rfl ?_
          refine D.st rfl (by decide) (gf_1 h57_2) ?_
          refine D.run 4 rfl ?_
          refine D.st rfl (by decide) (gf_1 h57_2) ?_
          refine D.run 3 rfl ?_
          refine D.st rfl (by decide) (gf_1 h57_2) ?_
          show _ → Rn E 95 (83, [.ref 57, .int a1, .int a2, .int (tget I (3 + 9) a1 0), .ref (3 + 7), us], [.ref 3, .int a2, .ref (3 + 7), .ref 3], wT I R) o w
          refine D.run 3 rfl ?_
          refine D.ce rfl rfl rfl rfl (tget_ok (by decide) (by first | rfl | decide) _ _) ?_
          refine D.run 2 rfl ?_
          have Kj102 : ∀ (q5 : Int32), Dq ((x87 3 (3 + 7) I a2 (tget I (3 + 9) a1 2) q5).bind fun q6 => (if q6 = (-1) then (x83 I (tget I 52 a1 2) 2).bind fun q7 => some q7 else some I).bind fun (q8 : St) => some (tset (tset q8 (3 + 9) a1 1 a2) (3 + 9) a1 2 q6)) T → Rn E 95 (102, [.ref 57, .int a1, .int a2, .int (tget I (3 + 9) a1 0), .ref (3 + 7), us], [.int q5, .int (tget I (3 + 9) a1 2), .int a2, .ref (3 + 7), .ref 3], wT I R) o w := by
            intro q5
            refine D.call rfl rfl rfl rfl (fun q h => x87_ok (by decide) (by decide) h) (fun q6 => ?_)
            refine D.run 3 rfl ?_
            have Kj130 : ∀ (q8 : St), Dq (some (tset (tset q8 (3 + 9) a1 1 a2) (3 + 9) a1 2 q6)) T → Rn E 95 (130, [.ref 57, .int a1, .int a2, .int (tget I (3 + 9) a1 0), .ref (3 + 7), .int q6], [], wT q8 R) o w := by
              intro q8
              refine D.run 1 rfl ?_
              refine D.st rfl (by decide) (gf_1 h57_2) ?_
              refine D.run 4 rfl ?_
              refine D.ce rfl rfl rfl rfl (tset_ok (by decide) (by first | rfl | decide) _ _ _) ?_
              refine D.run 1 rfl ?_
              refine D.st rfl (by decide) (gf_1 h57_2) ?_
              show _ → Rn E 95 (147, [.ref 57, .int a1, .int a2, .int (tget I (3 + 9) a1 0), .ref (3 + 7), .int q6], [.ref 3], wT (tset q8 (3 + 9) a1 1 a2) R) o w
              refine D.run 4 rfl ?_
              refine D.ce rfl rfl rfl rfl (tset_ok (by decide) (by first | rfl | decide) _ _ _) ?_
              exact fun h => by obtain ⟨rfl, rfl⟩ := hT _ (D.some h); exact Rn.ret rfl rfl rfl
            refine D.jn (fun T130 c130 => ?_)
            refine D.br rfl (by decide) rfl (fun hc => ?_) (fun hc => ?_)
            · refine D.run 6 rfl ?_
              refine D.ce rfl rfl rfl rfl (tget_ok (by decide) (by first | rfl | decide) _ _) ?_
              refine D.run 1 rfl ?_
              refine D.call rfl rfl rfl rfl (fun q h => x83_ok h) (fun q7 => ?_)
              exact fun h => Kj130 _   (c130 _ (D.some h))
            · exact fun h => Kj130 _   (c130 _ (D.some h))
          refine D.jn (fun T102 c102 => ?_)
          refine D.br rfl (by decide) rfl (fun hc => ?_) (fun hc => ?_)
          · refine D.run 2 rfl ?_
            exact fun h => Kj102 _   (c102 _ (D.some h))
          · refine D.run 1 rfl ?_
            exact fun h => Kj102 _   (c102 _ (D.some h))
        · refine D.run 2 rfl ?_
          refine D.br rfl (by decide) rfl (fun hc => ?_) (fun hc => ?_)
          · refine D.run 1 rfl ?_
            refine D.st rfl (by decide) (gf_1 h57_2) ?_
            refine D.run 4 rfl ?_
            refine D.st rfl (by decide) (gf_1 h57_2) ?_
            refine D.run 3 rfl ?_
            refine D.st rfl (by decide) (gf_1 h57_2) ?_
            show _ → Rn E 95 (83, [.ref 57, .int a1, .int a2, .int (tget I (3 + 9) a1 0), .ref (3 + 5), us], [.ref 3, .int a2, .ref (3 + 5), .ref 3], wT I R) o w
            refine D.run 3 rfl ?_
            refine D.ce rfl rfl rfl rfl (tget_ok (by decide) (by first | rfl | decide) _ _) ?_
            refine D.run 2 rfl ?_
            have Kj102 : ∀ (q9 : Int32), Dq ((x87 3 (3 + 5) I a2 (tget I (3 + 9) a1 2) q9).bind fun q10 => (if q10 = (-1) then (x83 I (tget I 52 a1 2) 2).bind fun q11 => some q11 else some I).bind fun (q12 : St) => some (tset (tset q12 (3 + 9) a1 1 a2) (3 + 9) a1 2 q10)) T → Rn E 95 (102, [.ref 57, .int a1, .int a2, .int (tget I (3 + 9) a1 0), .ref (3 + 5), us], [.int q9, .int (tget I (3 + 9) a1 2), .int a2, .ref (3 + 5), .ref 3], wT I R) o w := by
              intro q9
              refine D.call rfl rfl rfl rfl (fun q h => x87_ok (by decide) (by decide) h) (fun q10 => ?_)
              refine D.run 3 rfl ?_
              have Kj130 : ∀ (q12 : St), Dq (some (tset (tset q12 (3 + 9) a1 1 a2) (3 + 9) a1 2 q10)) T → Rn E 95 (130, [.ref 57, .int a1, .int a2, .int (tget I (3 + 9) a1 0), .ref (3 + 5), .int q10], [], wT q12 R) o w := by
                intro q12
                refine D.run 1 rfl ?_
                refine D.st rfl (by decide) (gf_1 h57_2) ?_
                refine D.run 4 rfl ?_
                refine D.ce rfl rfl rfl rfl (tset_ok (by decide) (by first | rfl | decide) _ _ _) ?_
                refine D.run 1 rfl ?_
                refine D.st rfl (by decide) (gf_1 h57_2) ?_
                show _ → Rn E 95 (147, [.ref 57, .int a1, .int a2, .int (tget I (3 + 9) a1 0), .ref (3 + 5), .int q10], [.ref 3], wT (tset q12 (3 + 9) a1 1 a2) R) o w
                refine D.run 4 rfl ?_
                refine D.ce rfl rfl rfl rfl (tset_ok (by decide) (by first | rfl | decide) _ _ _) ?_
                exact fun h => by obtain ⟨rfl, rfl⟩ := hT _ (D.some h); exact Rn.ret rfl rfl rfl
              refine D.jn (fun T130 c130 => ?_)
              refine D.br rfl (by decide) rfl (fun hc => ?_) (fun hc => ?_)
              · refine D.run 6 rfl ?_
                refine D.ce rfl rfl rfl rfl (tget_ok (by decide) (by first | rfl | decide) _ _) ?_
                refine D.run 1 rfl ?_
                refine D.call rfl rfl rfl rfl (fun q h => x83_ok h) (fun q11 => ?_)
                exact fun h => Kj130 _   (c130 _ (D.some h))
              · exact fun h => Kj130 _   (c130 _ (D.some h))
            refine D.jn (fun T102 c102 => ?_)
            refine D.br rfl (by decide) rfl (fun hc => ?_) (fun hc => ?_)
            · refine D.run 2 rfl ?_
              exact fun h => Kj102 _   (c102 _ (D.some h))
            · refine D.run 1 rfl ?_
              exact fun h => Kj102 _   (c102 _ (D.some h))
          · refine D.run 2 rfl ?_
            refine D.br rfl (by decide) rfl (fun hc => ?_) (fun hc => ?_)
            · refine D.run 1 rfl ?_
              refine D.st rfl (by decide) (gf_1 h57_2) ?_
              refine D.run 4 rfl ?_
              refine D.st rfl (by decide) (gf_1 h57_2) ?_
              refine D.run 3 rfl ?_
              refine D.st rfl (by decide) (gf_1 h57_2) ?_
              show _ → Rn E 95 (83, [.ref 57, .int a1, .int a2, .int (tget I (3 + 9) a1 0), .ref (3 + 5), us], [.ref 3, .int a2, .ref (3 + 5), .ref 3], wT I R) o w
              refine D.run 3 rfl ?_
              refine D.ce rfl rfl rfl rfl (tget_ok (by decide) (by first | rfl | decide) _ _) ?_
              refine D.run 2 rfl ?_
              have Kj102 : ∀ (q13 : Int32), Dq ((x87 3 (3 + 5) I a2 (tget I (3 + 9) a1 2) q13).bind fun q14 => (if q14 = (-1) then (x83 I (tget I 52 a1 2) 2).bind fun q15 => some q15 else some I).bind fun (q16 : St) => some (tset (tset q16 (3 + 9) a1 1 a2) (3 + 9) a1 2 q14)) T → Rn E 95 (102, [.ref 57, .int a1, .int a2, .int (tget I (3 + 9) a1 0), .ref (3 + 5), us], [.int q13, .int (tget I (3 + 9) a1 2), .int a2, .ref (3 + 5), .ref 3], wT I R) o w := by
                intro q13
                refine D.call rfl rfl rfl rfl (fun q h => x87_ok (by decide) (by decide) h) (fun q14 => ?_)
                refine D.run 3 rfl ?_
                have Kj130 : ∀ (q16 : St), Dq (some (tset (tset q16 (3 + 9) a1 1 a2) (3 + 9) a1 2 q14)) T → Rn E 95 (130, [.ref 57, .int a1, .int a2, .int (tget I (3 + 9) a1 0), .ref (3 + 5), .int q14], [], wT q16 R) o w := by
                  intro q16
                  refine D.run 1 rfl ?_
                  refine D.st rfl (by decide) (gf_1 h57_2) ?_
                  refine D.run 4 rfl ?_
                  refine D.ce rfl rfl rfl rfl (tset_ok (by decide) (by first | rfl | decide) _ _ _) ?_
                  refine D.run 1 rfl ?_
                  refine D.st rfl (by decide) (gf_1 h57_2) ?_
                  show _ → Rn E 95 (147, [.ref 57, .int a1, .int a2, .int (tget I (3 + 9) a1 0), .ref (3 + 5), .int q14], [.ref 3], wT (tset q16 (3 + 9) a1 1 a2) R) o w
                  refine D.run 4 rfl ?_
                  refine D.ce rfl rfl rfl rfl (tset_ok (by decide) (by first | rfl | decide) _ _ _) ?_
                  exact fun h => by obtain ⟨rfl, rfl⟩ := hT _ (D.some h); exact Rn.ret rfl rfl rfl
                refine D.jn (fun T130 c130 => ?_)
                refine D.br rfl (by decide) rfl (fun hc => ?_) (fun hc => ?_)
                · refine D.run 6 rfl ?_
                  refine D.ce rfl rfl rfl rfl (tget_ok (by decide) (by first | rfl | decide) _ _) ?_
                  refine D.run 1 rfl ?_
                  refine D.call rfl rfl rfl rfl (fun q h => x83_ok h) (fun q15 => ?_)
                  exact fun h => Kj130 _   (c130 _ (D.some h))
                · exact fun h => Kj130 _   (c130 _ (D.some h))
              refine D.jn (fun T102 c102 => ?_)
              refine D.br rfl (by decide) rfl (fun hc => ?_) (fun hc => ?_)
              · refine D.run 2 rfl ?_
                exact fun h => Kj102 _   (c102 _ (D.some h))
              · refine D.run 1 rfl ?_
                exact fun h => Kj102 _   (c102 _ (D.some h))
            · refine D.run 1 rfl ?_
              refine D.st rfl (by decide) (gf_1 h57_2) ?_
              refine D.run 3 rfl ?_
              refine D.st rfl (by decide) (gf_1 h57_2) ?_
              refine D.run 3 rfl ?_
              refine D.st rfl (by decide) (gf_1 h57_2) ?_
              show _ → Rn E 95 (83, [.ref 57, .int a1, .int a2, .int (tget I (3 + 9) a1 0), .ref (3 + 3), us], [.ref 3, .int a2, .ref (3 + 3), .ref 3], wT I R) o w
              refine D.run 3 rfl ?_
              refine D.ce rfl rfl rfl rfl (tget_ok (by decide) (by first | rfl | decide) _ _) ?_
              refine D.run 2 rfl ?_
              have Kj102 : ∀ (q17 : Int32), Dq ((x87 3 (3 + 3) I a2 (tget I (3 + 9) a1 2) q17).bind fun q18 => (if q18 = (-1) then (x83 I (tget I 52 a1 2) 2).bind fun q19 => some q19 else some I).bind fun (q20 : St) => some (tset (tset q20 (3 + 9) a1 1 a2) (3 + 9) a1 2 q18)) T → Rn E 95 (102, [.ref 57, .int a1, .int a2, .int (tget I (3 + 9) a1 0), .ref (3 + 3), us], [.int q17, .int (tget I (3 + 9) a1 2), .int a2, .ref (3 + 3), .ref 3], wT I R) o w := by
                intro q17
                refine D.call rfl rfl rfl rfl (fun q h => x87_ok (by decide) (by decide) h) (fun q18 => ?_)
                refine D.run 3 rfl ?_
                have Kj130 : ∀ (q20 : St), Dq (some (tset (tset q20 (3 + 9) a1 1 a2) (3 + 9) a1 2 q18)) T → Rn E 95 (130, [.ref 57, .int a1, .int a2, .int (tget I (3 + 9) a1 0), .ref (3 + 3), .int q18], [], wT q20 R) o w := by
                  intro q20
                  refine D.run 1 rfl ?_
                  refine D.st rfl (by decide) (gf_1 h57_2) ?_
                  refine D.run 4 rfl ?_
                  refine D.ce rfl rfl rfl rfl (tset_ok (by decide) (by first | rfl | decide) _ _ _) ?_
                  refine D.run 1 rfl ?_
                  refine D.st rfl (by decide) (gf_1 h57_2) ?_
                  show _ → Rn E 95 (147, [.ref 57, .int a1, .int a2, .int (tget I (3 + 9) a1 0), .ref (3 + 3), .int q18], [.ref 3], wT (tset q20 (3 + 9) a1 1 a2) R) o w
                  refine D.run 4 rfl ?_
                  refine D.ce rfl rfl rfl rfl (tset_ok (by decide) (by first | rfl | decide) _ _ _) ?_
                  exact fun h => by obtain ⟨rfl, rfl⟩ := hT _ (D.some h); exact Rn.ret rfl rfl rfl
                refine D.jn (fun T130 c130 => ?_)
                refine D.br rfl (by decide) rfl (fun hc => ?_) (fun hc => ?_)
                · refine D.run 6 rfl ?_
                  refine D.ce rfl rfl rfl rfl (tget_ok (by decide) (by first | rfl | decide) _ _) ?_
                  refine D.run 1 rfl ?_
                  refine D.call rfl rfl rfl rfl (fun q h => x83_ok h) (fun q19 => ?_)
                  exact fun h => Kj130 _   (c130 _ (D.some h))
                · exact fun h => Kj130 _   (c130 _ (D.some h))
              refine D.jn (fun T102 c102 => ?_)
              refine D.br rfl (by decide) rfl (fun hc => ?_) (fun hc => ?_)
              · refine D.run 2 rfl ?_
                exact fun h => Kj102 _   (c102 _ (D.some h))
              · refine D.run 1 rfl ?_
                exact fun h => Kj102 _   (c102 _ (D.some h))
  · refine D.run 2 rfl ?_
    refine D.br rfl (by decide) rfl (fun hc => ?_) (fun hc => ?_)
    · exact fun h => by obtain ⟨rfl, rfl⟩ := hT _ (D.some h); exact Rn.ret rfl rfl rfl
    · refine D.run 1 rfl ?_
      refine D.st rfl (by decide) (gf_1 h57_2) ?_
      refine D.run 3 rfl ?_
      refine D.ce rfl rfl rfl rfl (tget_ok (by decide) (by first | rfl | decide) _ _) ?_
      refine D.run 3 rfl ?_
      refine D.br rfl (by decide) rfl (fun hc => ?_) (fun hc => ?_)
      · refine D.run 1 rfl ?_
        refine D.st rfl (by decide) (gf_1 h57_2) ?_
        refine D.run 4 rfl ?_
        refine D.st rfl (by decide) (gf_1 h57_2) ?_
        refine D.run 3 rfl ?_
        refine D.st rfl (by decide) (gf_1 h57_2) ?_
        show _ → Rn E 95 (83, [.ref 57, .int a1, .int a2, .int (tget I (18 + 9) a1 0), .ref (18 + 7), us], [.ref 18, .int a2, .ref (18 + 7), .ref 18], wT I R) o w
        refine D.run 3 rfl ?_
        refine D.ce rfl rfl rfl rfl (tget_ok (by decide) (by first | rfl | decide) _ _) ?_
        refine D.run 2 rfl ?_
        have Kj102 : ∀ (q1 : Int32), Dq ((x87 18 (18 + 7) I a2 (tget I (18 + 9) a1 2) q1).bind fun q2 => (if q2 = (-1) then (x83 I (tget I 52 a1 2) 2).bind fun q3 => some q3 else some I).bind fun (q4 : St) => some (tset (tset q4 (18 + 9) a1 1 a2) (18 + 9) a1 2 q2)) T → Rn E 95 (102, [.ref 57, .int a1, .int a2, .int (tget I (18 + 9) a1 0), .ref (18 + 7), us], [.int q1, .int (tget I (18 + 9) a1 2), .int a2, .ref (18 + 7), .ref 18], wT I R) o w := by
          intro q1
          refine D.call rfl rfl rfl rfl (fun q h => x87_ok (by decide) (by decide) h) (fun q2 => ?_)
          refine D.run 3 rfl ?_
          have Kj130 : ∀ (q4 : St), Dq (some (tset (tset q4 (18 + 9) a1 1 a2) (18 + 9) a1 2 q2)) T → Rn E 95 (130, [.ref 57, .int a1, .int a2, .int (tget I (18 + 9) a1 0), .ref (18 + 7), .int q2], [], wT q4 R) o w := by
            intro q4
            refine D.run 1 rfl ?_
            refine D.st rfl (by decide) (gf_1 h57_2) ?_
            refine D.run 4 rfl ?_
            refine D.ce rfl rfl rfl rfl (tset_ok (by decide) (by first | rfl | decide) _ _ _) ?_
            refine D.run 1 rfl ?_
            refine D.st rfl (by decide) (gf_1 h57_2) ?_
            show _ → Rn E 95 (147, [.ref 57, .int a1, .int a2, .int (tget I (18 + 9) a1 0), .ref (18 + 7), .int q2], [.ref 18], wT (tset q4 (18 + 9) a1 1 a2) R) o w
            refine D.run 4 rfl ?_
            refine D.ce rfl rfl rfl rfl (tset_ok (by decide) (by first | rfl | decide) _ _ _) ?_
            exact fun h => by obtain ⟨rfl, rfl⟩ := hT _ (D.some h); exact Rn.ret rfl rfl rfl
          refine D.jn (fun T130 c130 => ?_)
          refine D.br rfl (by decide) rfl (fun hc => ?_) (fun hc => ?_)
          · refine D.run 6 rfl ?_
            refine D.ce rfl rfl rfl rfl (tget_ok (by decide) (by first | rfl | decide) _ _) ?_
            refine D.run 1 rfl ?_
            refine D.call rfl rfl rfl rfl (fun q h => x83_ok h) (fun q3 => ?_)
            exact fun h => Kj130 _   (c130 _ (D.some h))
          · exact fun h => Kj130 _   (c130 _ (D.some h))
        refine D.jn (fun T102 c102 => ?_)
        refine D.br rfl (by decide) rfl (fun hc => ?_) (fun hc => ?_)
        · refine D.run 2 rfl ?_
          exact fun h => Kj102 _   (c102 _ (D.some h))
        · refine D.run 1 rfl ?_
          exact fun h => Kj102 _   (c102 _ (D.some h))
      · refine D.run 2 rfl ?_
        refine D.br rfl (by decide) rfl (fun hc => ?_) (fun hc => ?_)
        · refine D.run 1 rfl ?_
          refine D.st rfl (by decide) (gf_1 h57_2) ?_
          refine D.run 4 rfl ?_
          refine D.st rfl (by decide) (gf_1 h57_2) ?_
          refine D.run 3 rfl ?_
          refine D.st rfl (by decide) (gf_1 h57_2) ?_
          show _ → Rn E 95 (83, [.ref 57, .int a1, .int a2, .int (tget I (18 + 9) a1 0), .ref (18 + 7), us], [.ref 18, .int a2, .ref (18 + 7), .ref 18], wT I R) o w
          refine D.run 3 rfl ?_
          refine D.ce rfl rfl rfl rfl (tget_ok (by decide) (by first | rfl | decide) _ _) ?_
          refine D.run 2 rfl ?_
          have Kj102 : ∀ (q5 : Int32), Dq ((x87 18 (18 + 7) I a2 (tget I (18 + 9) a1 2) q5).bind fun q6 => (if q6 = (-1) then (x83 I (tget I 52 a1 2) 2).bind fun q7 => some q7 else some I).bind fun (q8 : St) => some (tset (tset q8 (18 + 9) a1 1 a2) (18 + 9) a1 2 q6)) T → Rn E 95 (102, [.ref 57, .int a1, .int a2, .int (tget I (18 + 9) a1 0), .ref (18 + 7), us], [.int q5, .int (tget I (18 + 9) a1 2), .int a2, .ref (18 + 7), .ref 18], wT I R) o w := by
            intro q5
            refine D.call rfl rfl rfl rfl (fun q h => x87_ok (by decide) (by decide) h) (fun q6 => ?_)
            refine D.run 3 rfl ?_
            have Kj130 : ∀ (q8 : St), Dq (some (tset (tset q8 (18 + 9) a1 1 a2) (18 + 9) a1 2 q6)) T → Rn E 95 (130, [.ref 57, .int a1, .int a2, .int (tget I (18 + 9) a1 0), .ref (18 + 7), .int q6], [], wT q8 R) o w := by
              intro q8
              refine D.run 1 rfl ?_
              refine D.st rfl (by decide) (gf_1 h57_2) ?_
              refine D.run 4 rfl ?_
              refine D.ce rfl rfl rfl rfl (tset_ok (by decide) (by first | rfl | decide) _ _ _) ?_
              refine D.run 1 rfl ?_
              refine D.st rfl (by decide) (gf_1 h57_2) ?_
              show _ → Rn E 95 (147, [.ref 57, .int a1, .int a2, .int (tget I (18 + 9) a1 0), .ref (18 + 7), .int q6], [.ref 18], wT (tset q8 (18 + 9) a1 1 a2) R) o w
              refine D.run 4 rfl ?_
              refine D.ce rfl rfl rfl rfl (tset_ok (by decide) (by first | rfl | decide) _ _ _) ?_
              exact fun h => by obtain ⟨rfl, rfl⟩ := hT _ (D.some h); exact Rn.ret rfl rfl rfl
            refine D.jn (fun T130 c130 => ?_)
            refine D.br rfl (by decide) rfl (fun hc => ?_) (fun hc => ?_)
            · refine D.run 6 rfl ?_
              refine D.ce rfl rfl rfl rfl (tget_ok (by decide) (by first | rfl | decide) _ _) ?_
              refine D.run 1 rfl ?_
              refine D.call rfl rfl rfl rfl (fun q h => x83_ok h) (fun q7 => ?_)
              exact fun h => Kj130 _   (c130 _ (D.some h))
            · exact fun h => Kj130 _   (c130 _ (D.some h))
          refine D.jn (fun T102 c102 => ?_)
          refine D.br rfl (by decide) rfl (fun hc => ?_) (fun hc => ?_)
          · refine D.run 2 rfl ?_
            exact fun h => Kj102 _   (c102 _ (D.some h))
          · refine D.run 1 rfl ?_
            exact fun h => Kj102 _   (c102 _ (D.some h))
        · refine D.run 2 rfl ?_
          refine D.br rfl (by decide) rfl (fun hc => ?_) (fun hc => ?_)
          · refine D.run 1 rfl ?_
            refine D.st rfl (by decide) (gf_1 h57_2) ?_
            refine D.run 4 rfl ?_
            refine D.st rfl (by decide) (gf_1 h57_2) ?_
            refine D.run 3 rfl ?_
            refine D.st rfl (by decide) (gf_1 h57_2) ?_
            show _ → Rn E 95 (83, [.ref 57, .int a1, .int a2, .int (tget I (18 + 9) a1 0), .ref (18 + 5), us], [.ref 18, .int a2, .ref (18 + 5), .ref 18], wT I R) o w
            refine D.run 3 rfl ?_
            refine D.ce rfl rfl rfl rfl (tget_ok (by decide) (by first | rfl | decide) _ _) ?_
            refine D.run 2 rfl ?_
            have Kj102 : ∀ (q9 : Int32), Dq ((x87 18 (18 + 5) I a2 (tget I (18 + 9) a1 2) q9).bind fun q10 => (if q10 = (-1) then (x83 I (tget I 52 a1 2) 2).bind fun q11 => some q11 else some I).bind fun (q12 : St) => some (tset (tset q12 (18 + 9) a1 1 a2) (18 + 9) a1 2 q10)) T → Rn E 95 (102, [.ref 57, .int a1, .int a2, .int (tget I (18 + 9) a1 0), .ref (18 + 5), us], [.int q9, .int (tget I (18 + 9) a1 2), .int a2, .ref (18 + 5), .ref 18], wT I R) o w := by
              intro q9
              refine D.call rfl rfl rfl rfl (fun q h => x87_ok (by decide) (by decide) h) (fun q10 => ?_)
              refine D.run 3 rfl ?_
              have Kj130 : ∀ (q12 : St), Dq (some (tset (tset q12 (18 + 9) a1 1 a2) (18 + 9) a1 2 q10)) T → Rn E 95 (130, [.ref 57, .int a1, .int a2, .int (tget I (18 + 9) a1 0), .ref (18 + 5), .int q10], [], wT q12 R) o w := by
                intro q12
                refine D.run 1 rfl ?_
                refine D.st rfl (by decide) (gf_1 h57_2) ?_
                refine D.run 4 rfl ?_
                refine D.ce rfl rfl rfl rfl (tset_ok (by decide) (by first | rfl | decide) _ _ _) ?_
                refine D.run 1 rfl ?_
                refine D.st rfl (by decide) (gf_1 h57_2) ?_
                show _ → Rn E 95 (147, [.ref 57, .int a1, .int a2, .int (tget I (18 + 9) a1 0), .ref (18 + 5), .int q10], [.ref 18], wT (tset q12 (18 + 9) a1 1 a2) R) o w
                refine D.run 4 rfl ?_
                refine D.ce rfl rfl rfl rfl (tset_ok (by decide) (by first | rfl | decide) _ _ _) ?_
                exact fun h => by obtain ⟨rfl, rfl⟩ := hT _ (D.some h); exact Rn.ret rfl rfl rfl
              refine D.jn (fun T130 c130 => ?_)
              refine D.br rfl (by decide) rfl (fun hc => ?_) (fun hc => ?_)
              · refine D.run 6 rfl ?_
                refine D.ce rfl rfl rfl rfl (tget_ok (by decide) (by first | rfl | decide) _ _) ?_
                refine D.run 1 rfl ?_
                refine D.call rfl rfl rfl rfl (fun q h => x83_ok h) (fun q11 => ?_)
                exact fun h => Kj130 _   (c130 _ (D.some h))
              · exact fun h => Kj130 _   (c130 _ (D.some h))
            refine D.jn (fun T102 c102 => ?_)
            refine D.br rfl (by decide) rfl (fun hc => ?_) (fun hc => ?_)
            · refine D.run 2 rfl ?_
              exact fun h => Kj102 _   (c102 _ (D.some h))
            · refine D.run 1 rfl ?_
              exact fun h => Kj102 _   (c102 _ (D.some h))
          · refine D.run 2 rfl ?_
            refine D.br rfl (by decide) rfl (fun hc => ?_) (fun hc => ?_)
            · refine D.run 1 rfl ?_
              refine D.st rfl (by decide) (gf_1 h57_2) ?_
              refine D.run 4 rfl ?_
              refine D.st rfl (by decide) (gf_1 h57_2) ?_
              refine D.run 3 rfl ?_
              refine D.st rfl (by decide) (gf_1 h57_2) ?_
              show _ → Rn E 95 (83, [.ref 57, .int a1, .int a2, .int (tget I (18 + 9) a1 0), .ref (18 + 5), us], [.ref 18, .int a2, .ref (18 + 5), .ref 18], wT I R) o w
              refine D.run 3 rfl ?_
              refine D.ce rfl rfl rfl rfl (tget_ok (by decide) (by first | rfl | decide) _ _) ?_
              refine D.run 2 rfl ?_
              have Kj102 : ∀ (q13 : Int32), Dq ((x87 18 (18 + 5) I a2 (tget I (18 + 9) a1 2) q13).bind fun q14 => (if q14 = (-1) then (x83 I (tget I 52 a1 2) 2).bind fun q15 => some q15 else some I).bind fun (q16 : St) => some (tset (tset q16 (18 + 9) a1 1 a2) (18 + 9) a1 2 q14)) T → Rn E 95 (102, [.ref 57, .int a1, .int a2, .int (tget I (18 + 9) a1 0), .ref (18 + 5), us], [.int q13, .int (tget I (18 + 9) a1 2), .int a2, .ref (18 + 5), .ref 18], wT I R) o w := by
                intro q13
                refine D.call rfl rfl rfl rfl (fun q h => x87_ok (by decide) (by decide) h) (fun q14 => ?_)
                refine D.run 3 rfl ?_
                have Kj130 : ∀ (q16 : St), Dq (some (tset (tset q16 (18 + 9) a1 1 a2) (18 + 9) a1 2 q14)) T → Rn E 95 (130, [.ref 57, .int a1, .int a2, .int (tget I (18 + 9) a1 0), .ref (18 + 5), .int q14], [], wT q16 R) o w := by
                  intro q16
                  refine D.run 1 rfl ?_
                  refine D.st rfl (by decide) (gf_1 h57_2) ?_
                  refine D.run 4 rfl ?_
                  refine D.ce rfl rfl rfl rfl (tset_ok (by decide) (by first | rfl | decide) _ _ _) ?_
                  refine D.run 1 rfl ?_
                  refine D.st rfl (by decide) (gf_1 h57_2) ?_
                  show _ → Rn E 95 (147, [.ref 57, .int a1, .int a2, .int (tget I (18 + 9) a1 0), .ref (18 + 5), .int q14], [.ref 18], wT (tset q16 (18 + 9) a1 1 a2) R) o w
                  refine D.run 4 rfl ?_
                  refine D.ce rfl rfl rfl rfl (tset_ok (by decide) (by first | rfl | decide) _ _ _) ?_
                  exact fun h => by obtain ⟨rfl, rfl⟩ := hT _ (D.some h); exact Rn.ret rfl rfl rfl
                refine D.jn (fun T130 c130 => ?_)
                refine D.br rfl (by decide) rfl (fun hc => ?_) (fun hc => ?_)
                · refine D.run 6 rfl ?_
                  refine D.ce rfl rfl rfl rfl (tget_ok (by decide) (by first | rfl | decide) _ _) ?_
                  refine D.run 1 rfl ?_
                  refine D.call rfl rfl rfl rfl (fun q h => x83_ok h) (fun q15 => ?_)
                  exact fun h => Kj130 _   (c130 _ (D.some h))
                · exact fun h => Kj130 _   (c130 _ (D.some h))
              refine D.jn (fun T102 c102 => ?_)
              refine D.br rfl (by decide) rfl (fun hc => ?_) (fun hc => ?_)
              · refine D.run 2 rfl ?_
                exact fun h => Kj102 _   (c102 _ (D.some h))
              · refine D.run 1 rfl ?_
                exact fun h => Kj102 _   (c102 _ (D.some h))
            · refine D.run 1 rfl ?_
              refine D.st rfl (by decide) (gf_1 h57_2) ?_
              refine D.run 3 rfl ?_
              refine D.st rfl (by decide) (gf_1 h57_2) ?_
              refine D.run 3 rfl ?_
              refine D.st rfl (by decide) (gf_1 h57_2) ?_
              show _ → Rn E 95 (83, [.ref 57, .int a1, .int a2, .int (tget I (18 + 9) a1 0), .ref (18 + 3), us], [.ref 18, .int a2, .ref (18 + 3), .ref 18], wT I R) o w
              refine D.run 3 rfl ?_
              refine D.ce rfl rfl rfl rfl (tget_ok (by decide) (by first | rfl | decide) _ _) ?_
              refine D.run 2 rfl ?_
              have Kj102 : ∀ (q17 : Int32), Dq ((x87 18 (18 + 3) I a2 (tget I (18 + 9) a1 2) q17).bind fun q18 => (if q18 = (-1) then (x83 I (tget I 52 a1 2) 2).bind fun q19 => some q19 else some I).bind fun (q20 : St) => some (tset (tset q20 (18 + 9) a1 1 a2) (18 + 9) a1 2 q18)) T → Rn E 95 (102, [.ref 57, .int a1, .int a2, .int (tget I (18 + 9) a1 0), .ref (18 + 3), us], [.int q17, .int (tget I (18 + 9) a1 2), .int a2, .ref (18 + 3), .ref 18], wT I R) o w := by
                intro q17
                refine D.call rfl rfl rfl rfl (fun q h => x87_ok (by decide) (by decide) h) (fun q18 => ?_)
                refine D.run 3 rfl ?_
                have Kj130 : ∀ (q20 : St), Dq (some (tset (tset q20 (18 + 9) a1 1 a2) (18 + 9) a1 2 q18)) T → Rn E 95 (130, [.ref 57, .int a1, .int a2, .int (tget I (18 + 9) a1 0), .ref (18 + 3), .int q18], [], wT q20 R) o w := by
                  intro q20
                  refine D.run 1 rfl ?_
                  refine D.st rfl (by decide) (gf_1 h57_2) ?_
                  refine D.run 4 rfl ?_
                  refine D.ce rfl rfl rfl rfl (tset_ok (by decide) (by first | rfl | decide) _ _ _) ?_
                  refine D.run 1 rfl ?_
                  refine D.st rfl (by decide) (gf_1 h57_2) ?_
                  show _ → Rn E 95 (147, [.ref 57, .int a1, .int a2, .int (tget I (18 + 9) a1 0), .ref (18 + 3), .int q18], [.ref 18], wT (tset q20 (18 + 9) a1 1 a2) R) o w
                  refine D.run 4 rfl ?_
                  refine D.ce rfl rfl rfl rfl (tset_ok (by decide) (by first | rfl | decide) _ _ _) ?_
                  exact fun h => by obtain ⟨rfl, rfl⟩ := hT _ (D.some h); exact Rn.ret rfl rfl rfl
                refine D.jn (fun T130 c130 => ?_)
                refine D.br rfl (by decide) rfl (fun hc => ?_) (fun hc => ?_)
                · refine D.run 6 rfl ?_
                  refine D.ce rfl rfl rfl rfl (tget_ok (by decide) (by first | rfl | decide) _ _) ?_
                  refine D.run 1 rfl ?_
                  refine D.call rfl rfl rfl rfl (fun q h => x83_ok h) (fun q19 => ?_)
                  exact fun h => Kj130 _   (c130 _ (D.some h))
                · exact fun h => Kj130 _   (c130 _ (D.some h))
              refine D.jn (fun T102 c102 => ?_)
              refine D.br rfl (by decide) rfl (fun hc => ?_) (fun hc => ?_)
              · refine D.run 2 rfl ?_
                exact fun h => Kj102 _   (c102 _ (D.some h))
              · refine D.run 1 rfl ?_
                exact fun h => Kj102 _   (c102 _ (D.some h))
set_option maxRecDepth 20000 in
theorem x95_ok {E : Xe} {R : Nat → Nat → Option Nat} {P : Nat} {I : St} (hP : P = 3 ∨ P = 18) (h57_2 : R 57 2 = some P) {a1 a2 : Int32} {q : St} (h : x95 P I a1 a2 = some q) : Rn E 95 (0, loc0 95 [.ref 57, .int a1, .int a2], [], wT I R) (.returned none) (wT q R) := x95_D hP h57_2 _ _ (T := fun r => r = q) (by rintro r rfl; exact ⟨rfl, rfl⟩) ⟨_, h, rfl⟩
/-- TaintHouse$Linker.fillCalled()V -/
def l96_37 (P : Nat) (b1 : Int32) : Nat → Int32 → St → Option (St)
  | 0, _, _ => none
  | n + 1, b2, I => if (I (P + 1) 3) ≤ b2 then some I else (x87 P (P + 7) I b2 (tget I (P + 7) b1 1) 1).bind fun q1 => l96_37 P b1 n (b2 + 1) (tset I (P + 13) b2 b1 q1)
set_option maxRecDepth 20000 in
theorem l96_37_ok {E : Xe} {R : Nat → Nat → Option Nat} {P : Nat} {o : Outcome} {w : Wd} {T : (St) → Prop} {b1 : Int32} (hP : P = 3 ∨ P = 18) (h57_2 : R 57 2 = some P) (K : ∀ (q : St) (e2 : Value) (_ : is1 e2 = true) (e3 : Value) (_ : is1 e3 = true), T q → Rn E 96 (99, [.ref 57, .int b1, e2, e3], [], wT q R) o w) : ∀ (n : Nat) (b2 : Int32) (d3 : Value) (I : St), is1 d3 = true → Dq (l96_37 P b1 n b2 I) T → Rn E 96 (37, [.ref 57, .int b1, .int b2, d3], [], wT I R) o w := by
  rcases hP with rfl | rfl
  · intro n
    induction n with
    | zero => intro b2 d3 I hd3; exact D.none
    | succ n ih =>
      intro b2 d3 I hd3
      rw [l96_37]
      refine D.run 2 rfl ?_
      refine D.st rfl (by decide) (gf_1 h57_2) ?_
      refine D.run 1 rfl ?_
      refine D.ce rfl rfl rfl rfl (tsize_ok (by decide) (by first | rfl | decide)) ?_
      refine D.br rfl (by decide) rfl (fun hc => ?_) (fun hc => ?_)
      · exact fun h => D.to h (K _ _ (by first | rfl | assumption) _ (by first | rfl | assumption))
      · refine D.run 1 rfl ?_
        refine D.st rfl (by decide) (gf_1 h57_2) ?_
        refine D.run 3 rfl ?_
        refine D.ce rfl rfl rfl rfl (tget_ok (by decide) (by first | rfl | decide) _ _) ?_
        refine D.run 2 rfl ?_
        refine D.st rfl (by decide) (gf_1 h57_2) ?_
        show _ → Rn E 96 (68, [.ref 57, .int b1, .int b2, .int (tget I (3 + 7) b1 1)], [.ref 3], wT I R) o w
        refine D.run 4 rfl ?_
        refine D.st rfl (by decide) (gf_1 h57_2) ?_
        refine D.run 1 rfl ?_
        refine D.st rfl (by decide) (gf_1 h57_2) ?_
        refine D.run 4 rfl ?_
        refine D.call rfl rfl rfl rfl (fun q h => x87_ok (by decide) (by decide) h) (fun q1 => ?_)
        show _ → Rn E 96 (90, [.ref 57, .int b1, .int b2, .int (tget I (3 + 7) b1 1)], [.int q1, .int b1, .int b2, .ref (3 + 13)], wT I R) o w
        refine D.ce rfl rfl rfl rfl (tset_ok (by decide) (by first | rfl | decide) _ _ _) ?_
        refine D.run 2 rfl ?_
        exact ih _ _ _ (by first | rfl | assumption)
  · intro n
    induction n with
    | zero => intro b2 d3 I hd3; exact D.none
    | succ n ih =>
      intro b2 d3 I hd3
      rw [l96_37]
      refine D.run 2 rfl ?_
      refine D.st rfl (by decide) (gf_1 h57_2) ?_
      refine D.run 1 rfl ?_
      refine D.ce rfl rfl rfl rfl (tsize_ok (by decide) (by first | rfl | decide)) ?_
      refine D.br rfl (by decide) rfl (fun hc => ?_) (fun hc => ?_)
      · exact fun h => D.to h (K _ _ (by first | rfl | assumption) _ (by first | rfl | assumption))
      · refine D.run 1 rfl ?_
        refine D.st rfl (by decide) (gf_1 h57_2) ?_
        refine D.run 3 rfl ?_
        refine D.ce rfl rfl rfl rfl (tget_ok (by decide) (by first | rfl | decide) _ _) ?_
        refine D.run 2 rfl ?_
        refine D.st rfl (by decide) (gf_1 h57_2) ?_
        show _ → Rn E 96 (68, [.ref 57, .int b1, .int b2, .int (tget I (18 + 7) b1 1)], [.ref 18], wT I R) o w
        refine D.run 4 rfl ?_
        refine D.st rfl (by decide) (gf_1 h57_2) ?_
        refine D.run 1 rfl ?_
        refine D.st rfl (by decide) (gf_1 h57_2) ?_
        refine D.run 4 rfl ?_
        refine D.call rfl rfl rfl rfl (fun q h => x87_ok (by decide) (by decide) h) (fun q1 => ?_)
        show _ → Rn E 96 (90, [.ref 57, .int b1, .int b2, .int (tget I (18 + 7) b1 1)], [.int q1, .int b1, .int b2, .ref (18 + 13)], wT I R) o w
        refine D.ce rfl rfl rfl rfl (tset_ok (by decide) (by first | rfl | decide) _ _ _) ?_
        refine D.run 2 rfl ?_
        exact ih _ _ _ (by first | rfl | assumption)
def l96_2 (P : Nat) : Nat → Int32 → St → Option (St)
  | 0, _, _ => none
  | n + 1, b1, I => if (I (P + 7) 3) ≤ b1 then some I else if (tget I (P + 7) b1 2) = 0 then l96_2 P n (b1 + 1) I else (l96_37 P b1 100000 7 I).bind fun q2 => l96_2 P n (b1 + 1) q2
set_option maxRecDepth 20000 in
theorem l96_2_ok {E : Xe} {R : Nat → Nat → Option Nat} {P : Nat} {o : Outcome} {w : Wd} {T : (St) → Prop} (hP : P = 3 ∨ P = 18) (h57_2 : R 57 2 = some P) (K : ∀ (q : St) (e1 : Value) (_ : is1 e1 = true) (e2 : Value) (_ : is1 e2 = true) (e3 : Value) (_ : is1 e3 = true), T q → Rn E 96 (105, [.ref 57, e1, e2, e3], [], wT q R) o w) : ∀ (n : Nat) (b1 : Int32) (d2 : Value) (d3 : Value) (I : St), is1 d2 = true → is1 d3 = true → Dq (l96_2 P n b1 I) T → Rn E 96 (2, [.ref 57, .int b1, d2, d3], [], wT I R) o w := by
  rcases hP with rfl | rfl
  all_goals
    intro n
    induction n with
    | zero => intro b1 d2 d3 I hd2 hd3; exact D.none
    | succ n ih =>
      intro b1 d2 d3 I hd2 hd3
      rw [l96_2]
      refine D.run 2 rfl ?_
      refine D.st rfl (by decide) (gf_1 h57_2) ?_
      refine D.run 1 rfl ?_
      refine D.ce rfl rfl rfl rfl (tsize_ok (by decide) (by first | rfl | decide)) ?_
      refine D.br rfl (by decide) rfl (fun hc => ?_) (fun hc => ?_)
      · exact fun h => D.to h (K _ _ (by first | rfl | assumption) _ (by first | rfl | assumption) _ (by first | rfl | assumption))
      · refine D.run 1 rfl ?_
        refine D.st rfl (by decide) (gf_1 h57_2) ?_
        refine D.run 3 rfl ?_
        refine D.ce rfl rfl rfl rfl (tget_ok (by decide) (by first | rfl | decide) _ _) ?_
        refine D.br rfl (by decide) rfl (fun hc => ?_) (fun hc => ?_)
        · refine D.run 3 rfl ?_
          exact ih _ _ _ _ (by first | rfl | assumption) (by first | rfl | assumption)
        · refine D.run 2 rfl ?_
          refine D.bind (l96_37_ok (by decide) h57_2 (fun q2 e3 he3 e4 he4 => ?_) 100000 _ _ _ (by first | rfl | assumption))
          refine D.run 2 rfl ?_
          exact ih _ _ _ _ (by first | rfl | assumption) (by first | rfl | assumption)
def x96 (P : Nat) (I : St) : Option (St) := (l96_2 P 100000 0 I).bind fun q5 => some q5
set_option maxRecDepth 20000 in
theorem x96_D {E : Xe} {R : Nat → Nat → Option Nat} {P : Nat} {o : Outcome} {w : Wd} {T : (St) → Prop} {I : St} (hP : P = 3 ∨ P = 18) (h57_2 : R 57 2 = some P) (hT : ∀ r, T r → o = .returned none ∧ w = wT r R) : Dq (x96 P I) T → Rn E 96 (0, loc0 96 [.ref 57], [], wT I R) o w := by
  unfold x96
  rcases hP with rfl | rfl
  all_goals
    refine D.run 2 rfl ?_
    refine D.bind (l96_2_ok (by decide) h57_2 (fun q5 e6 he6 e7 he7 e8 he8 => ?_) 100000 _ _ _ _ (by first | rfl | assumption) (by first | rfl | assumption))
    exact fun h => by obtain ⟨rfl, rfl⟩ := hT _ (D.some h); exact Rn.ret rfl rfl rfl
set_option maxRecDepth 20000 in
theorem x96_ok {E : Xe} {R : Nat → Nat → Option Nat} {P : Nat} {I : St} (hP : P = 3 ∨ P = 18) (h57_2 : R 57 2 = some P) {q : St} (h : x96 P I = some q) : Rn E 96 (0, loc0 96 [.ref 57], [], wT I R) (.returned none) (wT q R) := x96_D hP h57_2 (T := fun r => r = q) (by rintro r rfl; exact ⟨rfl, rfl⟩) ⟨_, h, rfl⟩
/-- TaintHouse$Verifier.setLocal(II)V -/
def x100 (I : St) (a1 a2 : Int32) : Option (St) := (if a2 = 1 then some ((I 58 9) ||| (1 <<< (a1 &&& 31))) else some ((I 58 9) &&& ((1 <<< (a1 &&& 31)) ^^^ (-1)))).bind fun (q1 : Int32) => if a2 = 2 then Lt (up2 (up2 (up2 I 58 9 q1) 58 10 ((I 58 10) ||| (1 <<< (a1 &&& 31)))) 58 11 ((I 58 11) &&& ((1 <<< (a1 &&& 31)) ^^^ (-1)))) fun J2 => some J2 else Lt (up2 (up2 (up2 I 58 9 q1) 58 10 ((I 58 10) &&& ((1 <<< (a1 &&& 31)) ^^^ (-1)))) 58 11 ((I 58 11) &&& ((1 <<< (a1 &&& 31)) ^^^ (-1)))) fun J3 => some J3
set_option maxRecDepth 20000 in
theorem x100_D {E : Xe} {R : Nat → Nat → Option Nat} {o : Outcome} {w : Wd} {T : (St) → Prop} {I : St} (a1 a2 : Int32) (hT : ∀ r, T r → o = .returned none ∧ w = wT r R) : Dq (x100 I a1 a2) T → Rn E 100 (0, loc0 100 [.ref 58, .int a1, .int a2], [], wT I R) o w := by
  unfold x100
  refine D.run 7 rfl ?_
  have Kj27 : ∀ (q1 : Int32), Dq (if a2 = 2 then Lt (up2 (up2 (up2 I 58 9 q1) 58 10 ((I 58 10) ||| (1 <<< (a1 &&& 31)))) 58 11 ((I 58 11) &&& ((1 <<< (a1 &&& 31)) ^^^ (-1)))) fun J2 => some J2 else Lt (up2 (up2 (up2 I 58 9 q1) 58 10 ((I 58 10) &&& ((1 <<< (a1 &&& 31)) ^^^ (-1)))) 58 11 ((I 58 11) &&& ((1 <<< (a1 &&& 31)) ^^^ (-1)))) fun J3 => some J3) T → Rn E 100 (27, [.ref 58, .int a1, .int a2, .int (1 <<< (a1 &&& 31))], [.int q1, .ref 58], wT I R) o w := by
    intro q1
    refine D.run 4 rfl ?_
    refine D.br rfl (by decide) rfl (fun hc => ?_) (fun hc => ?_)
    · refine D.run 14 rfl ?_
      refine D.letS (fun J2 => ?_)
      exact fun h => by obtain ⟨rfl, rfl⟩ := hT _ (D.some h); exact Rn.ret rfl rfl rfl
    · refine D.run 15 rfl ?_
      refine D.letS (fun J3 => ?_)
      exact fun h => by obtain ⟨rfl, rfl⟩ := hT _ (D.some h); exact Rn.ret rfl rfl rfl
  refine D.jn (fun T27 c27 => ?_)
  refine D.br rfl (by decide) rfl (fun hc => ?_) (fun hc => ?_)
  · refine D.run 5 rfl ?_
    exact fun h => Kj27 _   (c27 _ (D.some h))
  · refine D.run 6 rfl ?_
    exact fun h => Kj27 _   (c27 _ (D.some h))
set_option maxRecDepth 20000 in
theorem x100_ok {E : Xe} {R : Nat → Nat → Option Nat} {I : St} {a1 a2 : Int32} {q : St} (h : x100 I a1 a2 = some q) : Rn E 100 (0, loc0 100 [.ref 58, .int a1, .int a2], [], wT I R) (.returned none) (wT q R) := x100_D  _ _ (T := fun r => r = q) (by rintro r rfl; exact ⟨rfl, rfl⟩) ⟨_, h, rfl⟩
/-- TaintHouse$Verifier.addBits(III)V -/
def x103 (I : St) (a1 a2 a3 : Int32) : Option (St) := if ((tget I 59 a1 a2) ||| a3) = (tget I 59 a1 a2) then some I else some (tset (tset I 59 a1 a2 ((tget I 59 a1 a2) ||| a3)) 59 a1 1 1)
set_option maxRecDepth 20000 in
theorem x103_D {E : Xe} {R : Nat → Nat → Option Nat} {o : Outcome} {w : Wd} {T : (St) → Prop} {I : St} (a1 a2 a3 : Int32) (hT : ∀ r, T r → o = .returned none ∧ w = wT r R) : Dq (x103 I a1 a2 a3) T → Rn E 103 (0, loc0 103 [.ref 58, .int a1, .int a2, .int a3], [], wT I R) o w := by
  unfold x103
  refine D.run 4 rfl ?_
  refine D.ce rfl rfl rfl rfl (tget_ok (by decide) (by first | rfl | decide) _ _) ?_
  refine D.run 5 rfl ?_
  refine D.br rfl (by decide) rfl (fun hc => ?_) (fun hc => ?_)
  · exact fun h => by obtain ⟨rfl, rfl⟩ := hT _ (D.some h); exact Rn.ret rfl rfl rfl
  · refine D.run 7 rfl ?_
    refine D.ce rfl rfl rfl rfl (tset_ok (by decide) (by first | rfl | decide) _ _ _) ?_
    refine D.run 5 rfl ?_
    refine D.ce rfl rfl rfl rfl (tset_ok (by decide) (by first | rfl | decide) _ _ _) ?_
    exact fun h => by obtain ⟨rfl, rfl⟩ := hT _ (D.some h); exact Rn.ret rfl rfl rfl
set_option maxRecDepth 20000 in
theorem x103_ok {E : Xe} {R : Nat → Nat → Option Nat} {I : St} {a1 a2 a3 : Int32} {q : St} (h : x103 I a1 a2 a3 = some q) : Rn E 103 (0, loc0 103 [.ref 58, .int a1, .int a2, .int a3], [], wT I R) (.returned none) (wT q R) := x103_D  _ _ _ (T := fun r => r = q) (by rintro r rfl; exact ⟨rfl, rfl⟩) ⟨_, h, rfl⟩
/-- TaintHouse$Verifier.faultAt(I)V -/
def x104 (I : St) (a1 : Int32) : Option (St) := some (up2 I 58 6 (tget I 52 ((I 58 4) + a1) 0))
set_option maxRecDepth 20000 in
theorem x104_D {E : Xe} {R : Nat → Nat → Option Nat} {o : Outcome} {w : Wd} {T : (St) → Prop} {I : St} (a1 : Int32) (hT : ∀ r, T r → o = .returned none ∧ w = wT r R) : Dq (x104 I a1) T → Rn E 104 (0, loc0 104 [.ref 58, .int a1], [], wT I R) o w := by
  unfold x104
  refine D.run 9 rfl ?_
  refine D.ce rfl rfl rfl rfl (tget_ok (by decide) (by first | rfl | decide) _ _) ?_
  refine D.run 1 rfl ?_
  exact fun h => by obtain ⟨rfl, rfl⟩ := hT _ (D.some h); exact Rn.ret rfl rfl rfl
set_option maxRecDepth 20000 in
theorem x104_ok {E : Xe} {R : Nat → Nat → Option Nat} {I : St} {a1 : Int32} {q : St} (h : x104 I a1 = some q) : Rn E 104 (0, loc0 104 [.ref 58, .int a1], [], wT I R) (.returned none) (wT q R) := x104_D  _ (T := fun r => r = q) (by rintro r rfl; exact ⟨rfl, rfl⟩) ⟨_, h, rfl⟩
/-- TaintHouse$Verifier.lowestFresh()I -/
def l105_2 : Nat → Int32 → St → Option ((Unit) ⊕ (Int32))
  | 0, _, _ => none
  | n + 1, b1, I => if (I 58 5) ≤ b1 then some (.inl ()) else if (tget I 59 b1 1) = 1 then some (.inr b1) else l105_2 n (b1 + 1) I
set_option maxRecDepth 20000 in
theorem l105_2_ok {E : Xe} {R : Nat → Nat → Option Nat} {I0 : St} {o : Outcome} {w : Wd} {T : ((Unit) ⊕ (Int32)) → Prop} (hT : ∀ r, T (.inr r) → o = .returned (some (.int r)) ∧ w = wT I0 R) (K : ∀ (q : Unit) (e1 : Value) (_ : is1 e1 = true), T (.inl q) → Rn E 105 (31, [.ref 58, e1], [], wT I0 R) o w) : ∀ (n : Nat) (b1 : Int32), Dq (l105_2 n b1 I0) T → Rn E 105 (2, [.ref 58, .int b1], [], wT I0 R) o w := by
  intro n
  induction n with
  | zero => intro b1; exact D.none
  | succ n ih =>
    intro b1
    rw [l105_2]
    refine D.run 3 rfl ?_
    refine D.br rfl (by decide) rfl (fun hc => ?_) (fun hc => ?_)
    · exact fun h => D.to h (K _ _ (by first | rfl | assumption))
    · refine D.run 4 rfl ?_
      refine D.ce rfl rfl rfl rfl (tget_ok (by decide) (by first | rfl | decide) _ _) ?_
      refine D.run 1 rfl ?_
      refine D.br rfl (by decide) rfl (fun hc => ?_) (fun hc => ?_)
      · refine D.run 1 rfl ?_
        exact fun h => by obtain ⟨rfl, rfl⟩ := hT _ (D.some h); exact Rn.ret rfl rfl rfl
      · refine D.run 2 rfl ?_
        exact ih _  
def x105 (I : St) : Option (Int32) := (l105_2 100000 0 I).bind (Sum.elim (fun q1 => some (-1)) (fun r => some r))
set_option maxRecDepth 20000 in
theorem x105_D {E : Xe} {R : Nat → Nat → Option Nat} {o : Outcome} {w : Wd} {T : (Int32) → Prop} {I : St} (hT : ∀ r, T r → o = .returned (some (.int r)) ∧ w = wT I R) : Dq (x105 I) T → Rn E 105 (0, loc0 105 [.ref 58], [], wT I R) o w := by
  unfold x105
  refine D.run 2 rfl ?_
  refine D.bind (l105_2_ok  (fun r h => hT _ (D.some h)) (fun q1 e2 he2 => ?_) 100000 _   )
  refine D.inl ?_
  refine D.run 1 rfl ?_
  exact fun h => by obtain ⟨rfl, rfl⟩ := hT _ (D.some h); exact Rn.ret rfl rfl rfl
set_option maxRecDepth 20000 in
theorem x105_ok {E : Xe} {R : Nat → Nat → Option Nat} {I : St} {q : Int32} (h : x105 I = some q) : Rn E 105 (0, loc0 105 [.ref 58], [], wT I R) (.returned (some (.int q))) (wT I R) := x105_D  (T := fun r => r = q) (by rintro r rfl; exact ⟨rfl, rfl⟩) ⟨_, h, rfl⟩
/-- TaintHouse$Verifier.restore(I)V -/
def x107 (I : St) (a1 : Int32) : Option (St) := Lt (up2 (up2 (up2 I 58 7 (tget I 59 a1 2)) 58 8 (tget (up2 I 58 7 (tget I 59 a1 2)) 59 a1 3)) 58 9 (tget (up2 (up2 I 58 7 (tget I 59 a1 2)) 58 8 (tget (up2 I 58 7 (tget I 59 a1 2)) 59 a1 3)) 59 a1 4)) fun J1 => Lt (up2 (up2 J1 58 10 (tget J1 59 a1 5)) 58 11 (tget (up2 J1 58 10 (tget J1 59 a1 5)) 59 a1 6)) fun J2 => some J2
set_option maxRecDepth 20000 in
theorem x107_D {E : Xe} {R : Nat → Nat → Option Nat} {o : Outcome} {w : Wd} {T : (St) → Prop} {I : St} (a1 : Int32) (hT : ∀ r, T r → o = .returned none ∧ w = wT r R) : Dq (x107 I a1) T → Rn E 107 (0, loc0 107 [.ref 58, .int a1], [], wT I R) o w := by
  unfold x107
  refine D.run 5 rfl ?_
  refine D.ce rfl rfl rfl rfl (tget_ok (by decide) (by first | rfl | decide) _ _) ?_
  refine D.run 6 rfl ?_
  refine D.ce rfl rfl rfl rfl (tget_ok (by decide) (by first | rfl | decide) _ _) ?_
  refine D.run 6 rfl ?_
  refine D.ce rfl rfl rfl rfl (tget_ok (by decide) (by first | rfl | decide) _ _) ?_
  show _ → Rn E 107 (36, [.ref 58, .int a1], [.int (tget (up2 (up2 I 58 7 (tget I 59 a1 2)) 58 8 (tget (up2 I 58 7 (tget I 59 a1 2)) 59 a1 3)) 59 a1 4), .ref 58], wT (up2 (up2 I 58 7 (tget I 59 a1 2)) 58 8 (tget (up2 I 58 7 (tget I 59 a1 2)) 59 a1 3)) R) o w
  refine D.run 1 rfl ?_
  refine D.letS (fun J1 => ?_)
  refine D.run 5 rfl ?_
  refine D.ce rfl rfl rfl rfl (tget_ok (by decide) (by first | rfl | decide) _ _) ?_
  refine D.run 6 rfl ?_
  refine D.ce rfl rfl rfl rfl (tget_ok (by decide) (by first | rfl | decide) _ _) ?_
  show _ → Rn E 107 (63, [.ref 58, .int a1], [.int (tget (up2 J1 58 10 (tget J1 59 a1 5)) 59 a1 6), .ref 58], wT (up2 J1 58 10 (tget J1 59 a1 5)) R) o w
  refine D.run 1 rfl ?_
  refine D.letS (fun J2 => ?_)
  exact fun h => by obtain ⟨rfl, rfl⟩ := hT _ (D.some h); exact Rn.ret rfl rfl rfl
set_option maxRecDepth 20000 in
theorem x107_ok {E : Xe} {R : Nat → Nat → Option Nat} {I : St} {a1 : Int32} {q : St} (h : x107 I a1 = some q) : Rn E 107 (0, loc0 107 [.ref 58, .int a1], [], wT I R) (.returned none) (wT q R) := x107_D  _ (T := fun r => r = q) (by rintro r rfl; exact ⟨rfl, rfl⟩) ⟨_, h, rfl⟩
/-- TaintHouse$Verifier.localKind(I)I -/
def x109 (I : St) (a1 : Int32) : Int32 := Lt (((((I 58 9) >>> (a1 &&& 31)) &&& 1) + (2 * (((I 58 10) >>> (a1 &&& 31)) &&& 1))) + (4 * (((I 58 11) >>> (a1 &&& 31)) &&& 1))) fun v1 => if v1 = 1 then 1 else if v1 = 2 then 2 else 0
set_option maxRecDepth 20000 in
theorem x109_ok {E : Xe} {R : Nat → Nat → Option Nat} {I : St} (a1 : Int32) : Rn E 109 (0, loc0 109 [.ref 58, .int a1], [], wT I R) (.returned (some (.int (x109 I a1)))) (wT I R) := by
  have H : ∀ (o : Outcome) (w : Wd) (T : Int32 → Prop), (∀ r, T r → o = .returned (some (.int r)) ∧ w = wT I R) → Dq (some (x109 I a1)) T → Rn E 109 (0, loc0 109 [.ref 58, .int a1], [], wT I R) o w := by
    intro o w T hT
    unfold x109
    refine D.run 25 rfl ?_
    refine D.letVp (frame := fun v1 => (31, [.ref 58, .int a1, .int v1], [], wT I R)) (fun v1 => ?_)
    refine D.run 2 rfl ?_
    refine D.brp rfl (by decide) rfl (fun hc => ?_) (fun hc => ?_)
    · refine D.run 2 rfl ?_
      exact fun h => by obtain ⟨rfl, rfl⟩ := hT _ (D.some h); exact Rn.ret rfl rfl rfl
    · refine D.run 2 rfl ?_
      refine D.brp rfl (by decide) rfl (fun hc => ?_) (fun hc => ?_)
      · refine D.run 2 rfl ?_
        exact fun h => by obtain ⟨rfl, rfl⟩ := hT _ (D.some h); exact Rn.ret rfl rfl rfl
      · refine D.run 1 rfl ?_
        exact fun h => by obtain ⟨rfl, rfl⟩ := hT _ (D.some h); exact Rn.ret rfl rfl rfl
  exact H _ _ (fun r => r = x109 I a1) (by rintro r rfl; exact ⟨rfl, rfl⟩) ⟨_, rfl, rfl⟩
/-- TaintHouse$Verifier.put(I)V -/
def x110 (I : St) (a1 : Int32) : Option (St) := (if a1 = 2 then some (up2 I 58 8 ((I 58 8) ||| (1 <<< ((I 58 7) &&& 31)))) else some I).bind fun (q1 : St) => if a1 = 0 then some q1 else some (up2 q1 58 7 ((q1 58 7) + 1))
set_option maxRecDepth 20000 in
theorem x110_D {E : Xe} {R : Nat → Nat → Option Nat} {o : Outcome} {w : Wd} {T : (St) → Prop} {I : St} (a1 : Int32) (hT : ∀ r, T r → o = .returned none ∧ w = wT r R) : Dq (x110 I a1) T → Rn E 110 (0, loc0 110 [.ref 58, .int a1], [], wT I R) o w := by
  unfold x110
  refine D.run 2 rfl ?_
  have Kj20 : ∀ (q1 : St), Dq (if a1 = 0 then some q1 else some (up2 q1 58 7 ((q1 58 7) + 1))) T → Rn E 110 (20, [.ref 58, .int a1], [], wT q1 R) o w := by
    intro q1
    refine D.run 1 rfl ?_
    refine D.br rfl (by decide) rfl (fun hc => ?_) (fun hc => ?_)
    · exact fun h => by obtain ⟨rfl, rfl⟩ := hT _ (D.some h); exact Rn.ret rfl rfl rfl
    · refine D.run 6 rfl ?_
      exact fun h => by obtain ⟨rfl, rfl⟩ := hT _ (D.some h); exact Rn.ret rfl rfl rfl
  refine D.jn (fun T20 c20 => ?_)
  refine D.br rfl (by decide) rfl (fun hc => ?_) (fun hc => ?_)
  · refine D.run 9 rfl ?_
    exact fun h => Kj20 _   (c20 _ (D.some h))
  · exact fun h => Kj20 _   (c20 _ (D.some h))
set_option maxRecDepth 20000 in
theorem x110_ok {E : Xe} {R : Nat → Nat → Option Nat} {I : St} {a1 : Int32} {q : St} (h : x110 I a1 = some q) : Rn E 110 (0, loc0 110 [.ref 58, .int a1], [], wT I R) (.returned none) (wT q R) := x110_D  _ (T := fun r => r = q) (by rintro r rfl; exact ⟨rfl, rfl⟩) ⟨_, h, rfl⟩
/-- TaintHouse$Verifier.takeAny()I -/
def x111 (I : St) : Option (Int32 × St) := if 0 < (I 58 7) then (if (((I 58 8) >>> (((I 58 7) - 1) &&& 31)) &&& 1) = 1 then some 2 else some 1).bind fun (q1 : Int32) => Lt (up2 (up2 I 58 7 ((I 58 7) - 1)) 58 8 ((I 58 8) &&& ((1 <<< (((I 58 7) - 1) &&& 31)) ^^^ (-1)))) fun J2 => some (q1, J2) else some (0, I)
set_option maxRecDepth 20000 in
theorem x111_D {E : Xe} {R : Nat → Nat → Option Nat} {o : Outcome} {w : Wd} {T : (Int32 × St) → Prop} {I : St} (hT : ∀ r, T r → o = .returned (some (.int r.1)) ∧ w = wT r.2 R) : Dq (x111 I) T → Rn E 111 (0, loc0 111 [.ref 58], [], wT I R) o w := by
  unfold x111
  refine D.run 2 rfl ?_
  refine D.br rfl (by decide) rfl (fun hc => ?_) (fun hc => ?_)
  · refine D.run 14 rfl ?_
    have Kj39 : ∀ (q1 : Int32), Dq (Lt (up2 (up2 I 58 7 ((I 58 7) - 1)) 58 8 ((I 58 8) &&& ((1 <<< (((I 58 7) - 1) &&& 31)) ^^^ (-1)))) fun J2 => some (q1, J2)) T → Rn E 111 (39, [.ref 58, us], [.int q1], wT (up2 I 58 7 ((I 58 7) - 1)) R) o w := by
      intro q1
      refine D.run 12 rfl ?_
      refine D.letS (fun J2 => ?_)
      refine D.run 1 rfl ?_
      exact fun h => by obtain ⟨rfl, rfl⟩ := hT _ (D.some h); exact Rn.ret rfl rfl rfl
    refine D.jn (fun T39 c39 => ?_)
    refine D.br rfl (by decide) rfl (fun hc => ?_) (fun hc => ?_)
    · refine D.run 2 rfl ?_
      exact fun h => Kj39 _   (c39 _ (D.some h))
    · refine D.run 1 rfl ?_
      exact fun h => Kj39 _   (c39 _ (D.some h))
  · refine D.run 1 rfl ?_
    exact fun h => by obtain ⟨rfl, rfl⟩ := hT _ (D.some h); exact Rn.ret rfl rfl rfl
set_option maxRecDepth 20000 in
theorem x111_ok {E : Xe} {R : Nat → Nat → Option Nat} {I : St} {q : Int32 × St} (h : x111 I = some q) : Rn E 111 (0, loc0 111 [.ref 58], [], wT I R) (.returned (some (.int q.1))) (wT q.2 R) := x111_D  (T := fun r => r = q) (by rintro r rfl; exact ⟨rfl, rfl⟩) ⟨_, h, rfl⟩
/-- TaintHouse.takesOf(I)I -/
def x114 (I : St) (a0 : Int32) : Option (Int32) := if a0 < 0 then some 0 else if 59 ≤ a0 then some 0 else if inb a0 59 then some (xTAKESL.getD (a0).toNatClampNeg 0) else none
set_option maxRecDepth 20000 in
theorem x114_D {E : Xe} {R : Nat → Nat → Option Nat} {o : Outcome} {w : Wd} {T : (Int32) → Prop} {I : St} (a0 : Int32) (hT : ∀ r, T r → o = .returned (some (.int r)) ∧ w = wT I R) : Dq (x114 I a0) T → Rn E 114 (0, loc0 114 [.int a0], [], wT I R) o w := by
  unfold x114
  refine D.run 1 rfl ?_
  refine D.br rfl (by decide) rfl (fun hc => ?_) (fun hc => ?_)
  · refine D.run 1 rfl ?_
    exact fun h => by obtain ⟨rfl, rfl⟩ := hT _ (D.some h); exact Rn.ret rfl rfl rfl
  · refine D.run 3 rfl ?_
    refine D.br rfl (by decide) rfl (fun hc => ?_) (fun hc => ?_)
    · refine D.run 1 rfl ?_
      exact fun h => by obtain ⟨rfl, rfl⟩ := hT _ (D.some h); exact Rn.ret rfl rfl rfl
    · refine D.run 2 rfl ?_
      refine D.gd fun hg => ?_
      refine D.st rfl (by decide) (xs_2 hg) ?_
      refine D.run 1 rfl ?_
      exact fun h => by obtain ⟨rfl, rfl⟩ := hT _ (D.some h); exact Rn.ret rfl rfl rfl
set_option maxRecDepth 20000 in
theorem x114_ok {E : Xe} {R : Nat → Nat → Option Nat} {I : St} {a0 : Int32} {q : Int32} (h : x114 I a0 = some q) : Rn E 114 (0, loc0 114 [.int a0], [], wT I R) (.returned (some (.int q))) (wT I R) := x114_D  _ (T := fun r => r = q) (by rintro r rfl; exact ⟨rfl, rfl⟩) ⟨_, h, rfl⟩
/-- TaintHouse.givesOf(I)I -/
def x115 (I : St) (a0 : Int32) : Option (Int32) := if a0 < 0 then some 0 else if 59 ≤ a0 then some 0 else if inb a0 59 then some (xGIVESL.getD (a0).toNatClampNeg 0) else none
set_option maxRecDepth 20000 in
theorem x115_D {E : Xe} {R : Nat → Nat → Option Nat} {o : Outcome} {w : Wd} {T : (Int32) → Prop} {I : St} (a0 : Int32) (hT : ∀ r, T r → o = .returned (some (.int r)) ∧ w = wT I R) : Dq (x115 I a0) T → Rn E 115 (0, loc0 115 [.int a0], [], wT I R) o w := by
  unfold x115
  refine D.run 1 rfl ?_
  refine D.br rfl (by decide) rfl (fun hc => ?_) (fun hc => ?_)
  · refine D.run 1 rfl ?_
    exact fun h => by obtain ⟨rfl, rfl⟩ := hT _ (D.some h); exact Rn.ret rfl rfl rfl
  · refine D.run 3 rfl ?_
    refine D.br rfl (by decide) rfl (fun hc => ?_) (fun hc => ?_)
    · refine D.run 1 rfl ?_
      exact fun h => by obtain ⟨rfl, rfl⟩ := hT _ (D.some h); exact Rn.ret rfl rfl rfl
    · refine D.run 2 rfl ?_
      refine D.gd fun hg => ?_
      refine D.st rfl (by decide) (xs_3 hg) ?_
      refine D.run 1 rfl ?_
      exact fun h => by obtain ⟨rfl, rfl⟩ := hT _ (D.some h); exact Rn.ret rfl rfl rfl
set_option maxRecDepth 20000 in
theorem x115_ok {E : Xe} {R : Nat → Nat → Option Nat} {I : St} {a0 : Int32} {q : Int32} (h : x115 I a0 = some q) : Rn E 115 (0, loc0 115 [.int a0], [], wT I R) (.returned (some (.int q))) (wT I R) := x115_D  _ (T := fun r => r = q) (by rintro r rfl; exact ⟨rfl, rfl⟩) ⟨_, h, rfl⟩
/-- TaintHouse.takeSpare()V -/
def x116 (P : Nat) (S : Nat) (I : St) : Option (St) := some (up2 (fillF I (sf 66 2) 0 0) 68 13 0)
set_option maxRecDepth 20000 in
theorem x116_D {E : Xe} {R : Nat → Nat → Option Nat} {P : Nat} {S : Nat} {o : Outcome} {w : Wd} {T : (St) → Prop} {I : St} (hP : P = 3 ∨ P = 18) (hS : S = 3 ∨ S = 18) (h0_8 : R 0 8 = some P) (h0_9 : R 0 9 = some S) (hT : ∀ r, T r → o = .returned none ∧ w = wT r (up2 (up2 R 0 8 (some S)) 0 9 (some P))) : Dq (x116 P S I) T → Rn E 116 (0, loc0 116 [.ref 0], [], wT I R) o w := by
  unfold x116
  rcases hP with rfl | rfl <;> rcases hS with rfl | rfl
  · refine D.run 1 rfl ?_
    refine D.st rfl (by decide) (gf_1 h0_8) ?_
    refine D.run 3 rfl ?_
    refine D.st rfl (by decide) (gf_1 h0_9) ?_
    refine D.run 8 rfl ?_
    refine D.ce rfl rfl rfl rfl (tfill_ok (by decide) (by first | rfl | decide) _) ?_
    show _ → Rn E 116 (29, [.ref 0, .ref 3], [], wT (fillF I (sf 66 2) 0 0) (up2 (up2 R 0 8 (some 3)) 0 9 (some 3))) o w
    refine D.run 4 rfl ?_
    exact fun h => by obtain ⟨rfl, rfl⟩ := hT _ (D.some h); exact Rn.ret rfl rfl rfl
  · refine D.run 1 rfl ?_
    refine D.st rfl (by decide) (gf_1 h0_8) ?_
    refine D.run 3 rfl ?_
    refine D.st rfl (by decide) (gf_1 h0_9) ?_
    refine D.run 8 rfl ?_
    refine D.ce rfl rfl rfl rfl (tfill_ok (by decide) (by first | rfl | decide) _) ?_
    show _ → Rn E 116 (29, [.ref 0, .ref 3], [], wT (fillF I (sf 66 2) 0 0) (up2 (up2 R 0 8 (some 18)) 0 9 (some 3))) o w
    refine D.run 4 rfl ?_
    exact fun h => by obtain ⟨rfl, rfl⟩ := hT _ (D.some h); exact Rn.ret rfl rfl rfl
  · refine D.run 1 rfl ?_
    refine D.st rfl (by decide) (gf_1 h0_8) ?_
    refine D.run 3 rfl ?_
    refine D.st rfl (by decide) (gf_1 h0_9) ?_
    refine D.run 8 rfl ?_
    refine D.ce rfl rfl rfl rfl (tfill_ok (by decide) (by first | rfl | decide) _) ?_
    show _ → Rn E 116 (29, [.ref 0, .ref 18], [], wT (fillF I (sf 66 2) 0 0) (up2 (up2 R 0 8 (some 3)) 0 9 (some 18))) o w
    refine D.run 4 rfl ?_
    exact fun h => by obtain ⟨rfl, rfl⟩ := hT _ (D.some h); exact Rn.ret rfl rfl rfl
  · refine D.run 1 rfl ?_
    refine D.st rfl (by decide) (gf_1 h0_8) ?_
    refine D.run 3 rfl ?_
    refine D.st rfl (by decide) (gf_1 h0_9) ?_
    refine D.run 8 rfl ?_
    refine D.ce rfl rfl rfl rfl (tfill_ok (by decide) (by first | rfl | decide) _) ?_
    show _ → Rn E 116 (29, [.ref 0, .ref 18], [], wT (fillF I (sf 66 2) 0 0) (up2 (up2 R 0 8 (some 18)) 0 9 (some 18))) o w
    refine D.run 4 rfl ?_
    exact fun h => by obtain ⟨rfl, rfl⟩ := hT _ (D.some h); exact Rn.ret rfl rfl rfl
set_option maxRecDepth 20000 in
theorem x116_ok {E : Xe} {R : Nat → Nat → Option Nat} {P : Nat} {S : Nat} {I : St} (hP : P = 3 ∨ P = 18) (hS : S = 3 ∨ S = 18) (h0_8 : R 0 8 = some P) (h0_9 : R 0 9 = some S) {q : St} (h : x116 P S I = some q) : Rn E 116 (0, loc0 116 [.ref 0], [], wT I R) (.returned none) (wT q (up2 (up2 R 0 8 (some S)) 0 9 (some P))) := x116_D hP hS h0_8 h0_9 (T := fun r => r = q) (by rintro r rfl; exact ⟨rfl, rfl⟩) ⟨_, h, rfl⟩
/-- TaintHouse.place()I -/
def x117 (I : St) : Int32 := (I 0 10)
set_option maxRecDepth 20000 in
theorem x117_ok {E : Xe} {R : Nat → Nat → Option Nat} {I : St} : Rn E 117 (0, loc0 117 [.ref 0], [], wT I R) (.returned (some (.int (x117 I)))) (wT I R) := by
  have H : ∀ (o : Outcome) (w : Wd) (T : Int32 → Prop), (∀ r, T r → o = .returned (some (.int r)) ∧ w = wT I R) → Dq (some (x117 I)) T → Rn E 117 (0, loc0 117 [.ref 0], [], wT I R) o w := by
    intro o w T hT
    unfold x117
    refine D.run 2 rfl ?_
    exact fun h => by obtain ⟨rfl, rfl⟩ := hT _ (D.some h); exact Rn.ret rfl rfl rfl
  exact H _ _ (fun r => r = x117 I) (by rintro r rfl; exact ⟨rfl, rfl⟩) ⟨_, rfl, rfl⟩
/-- TaintHouse.flows(I)I -/
def x118 (I : St) (a1 : Int32) : Option (Int32 × St) := some ((I 61 0), (up2 I 61 0 (a1 &&& 7)))
set_option maxRecDepth 20000 in
theorem x118_D {E : Xe} {R : Nat → Nat → Option Nat} {o : Outcome} {w : Wd} {T : (Int32 × St) → Prop} {I : St} (a1 : Int32) (hT : ∀ r, T r → o = .returned (some (.int r.1)) ∧ w = wT r.2 R) : Dq (x118 I a1) T → Rn E 118 (0, loc0 118 [.ref 0, .int a1], [], wT I R) o w := by
  unfold x118
  refine D.run 11 rfl ?_
  exact fun h => by obtain ⟨rfl, rfl⟩ := hT _ (D.some h); exact Rn.ret rfl rfl rfl
set_option maxRecDepth 20000 in
theorem x118_ok {E : Xe} {R : Nat → Nat → Option Nat} {I : St} {a1 : Int32} {q : Int32 × St} (h : x118 I a1 = some q) : Rn E 118 (0, loc0 118 [.ref 0, .int a1], [], wT I R) (.returned (some (.int q.1))) (wT q.2 R) := x118_D  _ (T := fun r => r = q) (by rintro r rfl; exact ⟨rfl, rfl⟩) ⟨_, h, rfl⟩
/-- TaintHouse.policy(II)I -/
def x119 (I : St) (a1 a2 : Int32) : Option (Int32 × St) := if a1 < 0 then some ((-15), I) else if a1 < 16 then some ((tget I 62 a1 0), (tset I 62 a1 0 (a2 &&& 65535))) else some ((-15), I)
set_option maxRecDepth 20000 in
theorem x119_D {E : Xe} {R : Nat → Nat → Option Nat} {o : Outcome} {w : Wd} {T : (Int32 × St) → Prop} {I : St} (a1 a2 : Int32) (hT : ∀ r, T r → o = .returned (some (.int r.1)) ∧ w = wT r.2 R) : Dq (x119 I a1 a2) T → Rn E 119 (0, loc0 119 [.ref 0, .int a1, .int a2], [], wT I R) o w := by
  unfold x119
  refine D.run 1 rfl ?_
  refine D.br rfl (by decide) rfl (fun hc => ?_) (fun hc => ?_)
  · refine D.run 1 rfl ?_
    exact fun h => by obtain ⟨rfl, rfl⟩ := hT _ (D.some h); exact Rn.ret rfl rfl rfl
  · refine D.run 2 rfl ?_
    refine D.br rfl (by decide) rfl (fun hc => ?_) (fun hc => ?_)
    · refine D.run 5 rfl ?_
      refine D.ce rfl rfl rfl rfl (tget_ok (by decide) (by first | rfl | decide) _ _) ?_
      refine D.run 9 rfl ?_
      refine D.ce rfl rfl rfl rfl (tset_ok (by decide) (by first | rfl | decide) _ _ _) ?_
      refine D.run 1 rfl ?_
      exact fun h => by obtain ⟨rfl, rfl⟩ := hT _ (D.some h); exact Rn.ret rfl rfl rfl
    · refine D.run 1 rfl ?_
      exact fun h => by obtain ⟨rfl, rfl⟩ := hT _ (D.some h); exact Rn.ret rfl rfl rfl
set_option maxRecDepth 20000 in
theorem x119_ok {E : Xe} {R : Nat → Nat → Option Nat} {I : St} {a1 a2 : Int32} {q : Int32 × St} (h : x119 I a1 a2 = some q) : Rn E 119 (0, loc0 119 [.ref 0, .int a1, .int a2], [], wT I R) (.returned (some (.int q.1))) (wT q.2 R) := x119_D  _ _ (T := fun r => r = q) (by rintro r rfl; exact ⟨rfl, rfl⟩) ⟨_, h, rfl⟩
/-- TaintHouse.input(II)I -/
def x120 (I : St) (a1 a2 : Int32) : Option (Int32 × St) := if a1 < 0 then some ((-1), I) else if a1 < 16 then some ((tget I 64 a1 0), (tset I 64 a1 0 a2)) else some ((-1), I)
set_option maxRecDepth 20000 in
theorem x120_D {E : Xe} {R : Nat → Nat → Option Nat} {o : Outcome} {w : Wd} {T : (Int32 × St) → Prop} {I : St} (a1 a2 : Int32) (hT : ∀ r, T r → o = .returned (some (.int r.1)) ∧ w = wT r.2 R) : Dq (x120 I a1 a2) T → Rn E 120 (0, loc0 120 [.ref 0, .int a1, .int a2], [], wT I R) o w := by
  unfold x120
  refine D.run 1 rfl ?_
  refine D.br rfl (by decide) rfl (fun hc => ?_) (fun hc => ?_)
  · refine D.run 1 rfl ?_
    exact fun h => by obtain ⟨rfl, rfl⟩ := hT _ (D.some h); exact Rn.ret rfl rfl rfl
  · refine D.run 2 rfl ?_
    refine D.br rfl (by decide) rfl (fun hc => ?_) (fun hc => ?_)
    · refine D.run 5 rfl ?_
      refine D.ce rfl rfl rfl rfl (tget_ok (by decide) (by first | rfl | decide) _ _) ?_
      refine D.run 7 rfl ?_
      refine D.ce rfl rfl rfl rfl (tset_ok (by decide) (by first | rfl | decide) _ _ _) ?_
      refine D.run 1 rfl ?_
      exact fun h => by obtain ⟨rfl, rfl⟩ := hT _ (D.some h); exact Rn.ret rfl rfl rfl
    · refine D.run 1 rfl ?_
      exact fun h => by obtain ⟨rfl, rfl⟩ := hT _ (D.some h); exact Rn.ret rfl rfl rfl
set_option maxRecDepth 20000 in
theorem x120_ok {E : Xe} {R : Nat → Nat → Option Nat} {I : St} {a1 a2 : Int32} {q : Int32 × St} (h : x120 I a1 a2 = some q) : Rn E 120 (0, loc0 120 [.ref 0, .int a1, .int a2], [], wT I R) (.returned (some (.int q.1))) (wT q.2 R) := x120_D  _ _ (T := fun r => r = q) (by rintro r rfl; exact ⟨rfl, rfl⟩) ⟨_, h, rfl⟩
/-- TaintHouse.argument(III)I -/
def x121 (I : St) (a1 a2 a3 : Int32) : Option (Int32 × St) := if a1 < 0 then some ((-15), I) else if a1 < 7 then some (1, (tset2 I 66 a1 a2 (a3 &&& 65535))) else some ((-15), I)
set_option maxRecDepth 20000 in
theorem x121_D {E : Xe} {R : Nat → Nat → Option Nat} {o : Outcome} {w : Wd} {T : (Int32 × St) → Prop} {I : St} (a1 a2 a3 : Int32) (hT : ∀ r, T r → o = .returned (some (.int r.1)) ∧ w = wT r.2 R) : Dq (x121 I a1 a2 a3) T → Rn E 121 (0, loc0 121 [.ref 0, .int a1, .int a2, .int a3], [], wT I R) o w := by
  unfold x121
  refine D.run 1 rfl ?_
  refine D.br rfl (by decide) rfl (fun hc => ?_) (fun hc => ?_)
  · refine D.run 1 rfl ?_
    exact fun h => by obtain ⟨rfl, rfl⟩ := hT _ (D.some h); exact Rn.ret rfl rfl rfl
  · refine D.run 2 rfl ?_
    refine D.br rfl (by decide) rfl (fun hc => ?_) (fun hc => ?_)
    · refine D.run 8 rfl ?_
      refine D.ce rfl rfl rfl rfl (tsetP_ok (by decide) (by first | rfl | decide) (by decide) _ _ _) ?_
      refine D.run 1 rfl ?_
      exact fun h => by obtain ⟨rfl, rfl⟩ := hT _ (D.some h); exact Rn.ret rfl rfl rfl
    · refine D.run 1 rfl ?_
      exact fun h => by obtain ⟨rfl, rfl⟩ := hT _ (D.some h); exact Rn.ret rfl rfl rfl
set_option maxRecDepth 20000 in
theorem x121_ok {E : Xe} {R : Nat → Nat → Option Nat} {I : St} {a1 a2 a3 : Int32} {q : Int32 × St} (h : x121 I a1 a2 a3 = some q) : Rn E 121 (0, loc0 121 [.ref 0, .int a1, .int a2, .int a3], [], wT I R) (.returned (some (.int q.1))) (wT q.2 R) := x121_D  _ _ _ (T := fun r => r = q) (by rintro r rfl; exact ⟨rfl, rfl⟩) ⟨_, h, rfl⟩
/-- TaintHouse$Heap.reset()V -/
def x127 (I : St) : Option (St) := some (tresize (tresize I 70 0) 72 0)
set_option maxRecDepth 20000 in
theorem x127_D {E : Xe} {R : Nat → Nat → Option Nat} {o : Outcome} {w : Wd} {T : (St) → Prop} {I : St} (hT : ∀ r, T r → o = .returned none ∧ w = wT r R) : Dq (x127 I) T → Rn E 127 (0, loc0 127 [.ref 69], [], wT I R) o w := by
  unfold x127
  refine D.run 3 rfl ?_
  refine D.ce rfl rfl rfl rfl (tresize_ok (by decide) (by first | rfl | decide) _) ?_
  refine D.run 3 rfl ?_
  refine D.ce rfl rfl rfl rfl (tresize_ok (by decide) (by first | rfl | decide) _) ?_
  exact fun h => by obtain ⟨rfl, rfl⟩ := hT _ (D.some h); exact Rn.ret rfl rfl rfl
set_option maxRecDepth 20000 in
theorem x127_ok {E : Xe} {R : Nat → Nat → Option Nat} {I : St} {q : St} (h : x127 I = some q) : Rn E 127 (0, loc0 127 [.ref 69], [], wT I R) (.returned none) (wT q R) := x127_D  (T := fun r => r = q) (by rintro r rfl; exact ⟨rfl, rfl⟩) ⟨_, h, rfl⟩
/-- TaintHouse$Machine.local(I)I -/
def x128 (I : St) (a1 : Int32) : Int32 := (((I 68 7) * 32) + a1)
set_option maxRecDepth 20000 in
theorem x128_ok {E : Xe} {R : Nat → Nat → Option Nat} {I : St} (a1 : Int32) : Rn E 128 (0, loc0 128 [.ref 68, .int a1], [], wT I R) (.returned (some (.int (x128 I a1)))) (wT I R) := by
  have H : ∀ (o : Outcome) (w : Wd) (T : Int32 → Prop), (∀ r, T r → o = .returned (some (.int r)) ∧ w = wT I R) → Dq (some (x128 I a1)) T → Rn E 128 (0, loc0 128 [.ref 68, .int a1], [], wT I R) o w := by
    intro o w T hT
    unfold x128
    refine D.run 6 rfl ?_
    exact fun h => by obtain ⟨rfl, rfl⟩ := hT _ (D.some h); exact Rn.ret rfl rfl rfl
  exact H _ _ (fun r => r = x128 I a1) (by rintro r rfl; exact ⟨rfl, rfl⟩) ⟨_, rfl, rfl⟩
/-- TaintHouse$Machine.onStack(I)I -/
def x132 (I : St) (a1 : Int32) : Int32 := ((((((I 68 7) * 32) + 16) + (I 68 11)) - 1) - a1)
set_option maxRecDepth 20000 in
theorem x132_ok {E : Xe} {R : Nat → Nat → Option Nat} {I : St} (a1 : Int32) : Rn E 132 (0, loc0 132 [.ref 68, .int a1], [], wT I R) (.returned (some (.int (x132 I a1)))) (wT I R) := by
  have H : ∀ (o : Outcome) (w : Wd) (T : Int32 → Prop), (∀ r, T r → o = .returned (some (.int r)) ∧ w = wT I R) → Dq (some (x132 I a1)) T → Rn E 132 (0, loc0 132 [.ref 68, .int a1], [], wT I R) o w := by
    intro o w T hT
    unfold x132
    refine D.run 13 rfl ?_
    exact fun h => by obtain ⟨rfl, rfl⟩ := hT _ (D.some h); exact Rn.ret rfl rfl rfl
  exact H _ _ (fun r => r = x132 I a1) (by rintro r rfl; exact ⟨rfl, rfl⟩) ⟨_, rfl, rfl⟩
/-- TaintHouse$Machine.value(I)I -/
def x133 (I : St) (a1 : Int32) : Int32 := (tget I 80 (x132 I a1) 0)
set_option maxRecDepth 20000 in
theorem x133_ok {E : Xe} {R : Nat → Nat → Option Nat} {I : St} (a1 : Int32) : Rn E 133 (0, loc0 133 [.ref 68, .int a1], [], wT I R) (.returned (some (.int (x133 I a1)))) (wT I R) := by
  have H : ∀ (o : Outcome) (w : Wd) (T : Int32 → Prop), (∀ r, T r → o = .returned (some (.int r)) ∧ w = wT I R) → Dq (some (x133 I a1)) T → Rn E 133 (0, loc0 133 [.ref 68, .int a1], [], wT I R) o w := by
    intro o w T hT
    unfold x133
    refine D.run 4 rfl ?_
    refine D.ce rfl rfl rfl rfl (x132_ok _) ?_
    refine D.run 1 rfl ?_
    refine D.ce rfl rfl rfl rfl (tget_ok (by decide) (by first | rfl | decide) _ _) ?_
    exact fun h => by obtain ⟨rfl, rfl⟩ := hT _ (D.some h); exact Rn.ret rfl rfl rfl
  exact H _ _ (fun r => r = x133 I a1) (by rintro r rfl; exact ⟨rfl, rfl⟩) ⟨_, rfl, rfl⟩
/-- TaintHouse$Machine.marks(I)I -/
def x134 (I : St) (a1 : Int32) : Int32 := (tget I 80 (x132 I a1) 1)
set_option maxRecDepth 20000 in
theorem x134_ok {E : Xe} {R : Nat → Nat → Option Nat} {I : St} (a1 : Int32) : Rn E 134 (0, loc0 134 [.ref 68, .int a1], [], wT I R) (.returned (some (.int (x134 I a1)))) (wT I R) := by
  have H : ∀ (o : Outcome) (w : Wd) (T : Int32 → Prop), (∀ r, T r → o = .returned (some (.int r)) ∧ w = wT I R) → Dq (some (x134 I a1)) T → Rn E 134 (0, loc0 134 [.ref 68, .int a1], [], wT I R) o w := by
    intro o w T hT
    unfold x134
    refine D.run 4 rfl ?_
    refine D.ce rfl rfl rfl rfl (x132_ok _) ?_
    refine D.run 1 rfl ?_
    refine D.ce rfl rfl rfl rfl (tget_ok (by decide) (by first | rfl | decide) _ _) ?_
    exact fun h => by obtain ⟨rfl, rfl⟩ := hT _ (D.some h); exact Rn.ret rfl rfl rfl
  exact H _ _ (fun r => r = x134 I a1) (by rintro r rfl; exact ⟨rfl, rfl⟩) ⟨_, rfl, rfl⟩
/-- TaintHouse$Machine.drop(I)V -/
def x135 (I : St) (a1 : Int32) : Option (St) := some (up2 I 68 11 ((I 68 11) - a1))
set_option maxRecDepth 20000 in
theorem x135_D {E : Xe} {R : Nat → Nat → Option Nat} {o : Outcome} {w : Wd} {T : (St) → Prop} {I : St} (a1 : Int32) (hT : ∀ r, T r → o = .returned none ∧ w = wT r R) : Dq (x135 I a1) T → Rn E 135 (0, loc0 135 [.ref 68, .int a1], [], wT I R) o w := by
  unfold x135
  refine D.run 6 rfl ?_
  exact fun h => by obtain ⟨rfl, rfl⟩ := hT _ (D.some h); exact Rn.ret rfl rfl rfl
set_option maxRecDepth 20000 in
theorem x135_ok {E : Xe} {R : Nat → Nat → Option Nat} {I : St} {a1 : Int32} {q : St} (h : x135 I a1 = some q) : Rn E 135 (0, loc0 135 [.ref 68, .int a1], [], wT I R) (.returned none) (wT q R) := x135_D  _ (T := fun r => r = q) (by rintro r rfl; exact ⟨rfl, rfl⟩) ⟨_, h, rfl⟩
/-- TaintHouse$Heap.make(III)I -/
def l139_65 (b1 : Int32) (b2 : Int32) (b3 : Int32) (b4 : Int32) (b5 : Int32) : Nat → Int32 → St → Option (St)
  | 0, _, _ => none
  | n + 1, b6, I => if b2 ≤ b6 then some I else l139_65 b1 b2 b3 b4 b5 n (b6 + 1) (tset2 I 72 (b4 + b6) b5 0)
set_option maxRecDepth 20000 in
theorem l139_65_ok {E : Xe} {R : Nat → Nat → Option Nat} {o : Outcome} {w : Wd} {T : (St) → Prop} {b1 : Int32} {b2 : Int32} {b3 : Int32} {b4 : Int32} {b5 : Int32} (K : ∀ (q : St) (e5 : Value) (_ : is1 e5 = true) (e6 : Value) (_ : is1 e6 = true), T q → Rn E 139 (92, [.ref 69, .int b1, .int b2, .int b3, .int b4, e5, e6], [], wT q R) o w) : ∀ (n : Nat) (b6 : Int32) (I : St), Dq (l139_65 b1 b2 b3 b4 b5 n b6 I) T → Rn E 139 (65, [.ref 69, .int b1, .int b2, .int b3, .int b4, .int b5, .int b6], [], wT I R) o w := by
  intro n
  induction n with
  | zero => intro b6 I; exact D.none
  | succ n ih =>
    intro b6 I
    rw [l139_65]
    refine D.run 2 rfl ?_
    refine D.br rfl (by decide) rfl (fun hc => ?_) (fun hc => ?_)
    · exact fun h => D.to h (K _ _ (by first | rfl | assumption) _ (by first | rfl | assumption))
    · refine D.run 7 rfl ?_
      refine D.ce rfl rfl rfl rfl (tsetP_ok (by decide) (by first | rfl | decide) (by decide) _ _ _) ?_
      refine D.run 2 rfl ?_
      exact ih _ _ 
def x139 (I : St) (a1 a2 a3 : Int32) : Option (Int32 × St) := if a2 < 0 then some ((-1), I) else if a2 ≤ ((2999 - (I 70 3)) - (I 72 3)) then (if a1 = (-3) then some (-1) else some 0).bind fun (q1 : Int32) => (l139_65 a1 a2 a3 (I 72 3) q1 100000 0 (tresize I 72 ((I 72 3) + a2))).bind fun q2 => Lt (tset (tset (tset (tadd q2 70) 70 (tadr q2 70) 0 a1) 70 (tadr q2 70) 1 (I 72 3)) 70 (tadr q2 70) 2 a2) fun J5 => some ((tadr q2 70), (tset J5 70 (tadr q2 70) 3 a3)) else some ((-1), I)
set_option maxRecDepth 20000 in
theorem x139_D {E : Xe} {R : Nat → Nat → Option Nat} {o : Outcome} {w : Wd} {T : (Int32 × St) → Prop} {I : St} (a1 a2 a3 : Int32) (hT : ∀ r, T r → o = .returned (some (.int r.1)) ∧ w = wT r.2 R) : Dq (x139 I a1 a2 a3) T → Rn E 139 (0, loc0 139 [.ref 69, .int a1, .int a2, .int a3], [], wT I R) o w := by
  unfold x139
  refine D.run 1 rfl ?_
  refine D.br rfl (by decide) rfl (fun hc => ?_) (fun hc => ?_)
  · refine D.run 1 rfl ?_
    exact fun h => by obtain ⟨rfl, rfl⟩ := hT _ (D.some h); exact Rn.ret rfl rfl rfl
  · refine D.run 4 rfl ?_
    refine D.ce rfl rfl rfl rfl (tsize_ok (by decide) (by first | rfl | decide)) ?_
    refine D.run 3 rfl ?_
    refine D.ce rfl rfl rfl rfl (tsize_ok (by decide) (by first | rfl | decide)) ?_
    refine D.run 1 rfl ?_
    refine D.br rfl (by decide) rfl (fun hc => ?_) (fun hc => ?_)
    · refine D.run 2 rfl ?_
      refine D.ce rfl rfl rfl rfl (tsize_ok (by decide) (by first | rfl | decide)) ?_
      refine D.run 3 rfl ?_
      have Kj49 : ∀ (q1 : Int32), Dq ((l139_65 a1 a2 a3 (I 72 3) q1 100000 0 (tresize I 72 ((I 72 3) + a2))).bind fun q2 => Lt (tset (tset (tset (tadd q2 70) 70 (tadr q2 70) 0 a1) 70 (tadr q2 70) 1 (I 72 3)) 70 (tadr q2 70) 2 a2) fun J5 => some ((tadr q2 70), (tset J5 70 (tadr q2 70) 3 a3))) T → Rn E 139 (49, [.ref 69, .int a1, .int a2, .int a3, .int (I 72 3), us, us], [.int q1], wT I R) o w := by
        intro q1
        refine D.run 6 rfl ?_
        refine D.ce rfl rfl rfl rfl (tresize_ok (by decide) (by first | rfl | decide) _) ?_
        refine D.run 2 rfl ?_
        refine D.bind (l139_65_ok  (fun q2 e3 he3 e4 he4 => ?_) 100000 _  _ )
        refine D.run 2 rfl ?_
        refine D.ce rfl rfl rfl rfl (tadd_ok (by decide) (by first | rfl | decide)) ?_
        refine D.st rfl (by decide) (ist_d rfl (by first | rfl | assumption) rfl) ?_
        refine D.run 5 rfl ?_
        refine D.ce rfl rfl rfl rfl (tset_ok (by decide) (by first | rfl | decide) _ _ _) ?_
        show _ → Rn E 139 (112, [.ref 69, .int a1, .int a2, .int a3, .int (I 72 3), e3, .int (tadr q2 70)], [], wT (tset (tadd q2 70) 70 (tadr q2 70) 0 a1) R) o w
        refine D.run 5 rfl ?_
        refine D.ce rfl rfl rfl rfl (tset_ok (by decide) (by first | rfl | decide) _ _ _) ?_
        refine D.run 5 rfl ?_
        refine D.ce rfl rfl rfl rfl (tset_ok (by decide) (by first | rfl | decide) _ _ _) ?_
        refine D.letS (fun J5 => ?_)
        show _ → Rn E 139 (135, [.ref 69, .int a1, .int a2, .int a3, .int (I 72 3), e3, .int (tadr q2 70)], [], wT J5 R) o w
        refine D.run 5 rfl ?_
        refine D.ce rfl rfl rfl rfl (tset_ok (by decide) (by first | rfl | decide) _ _ _) ?_
        refine D.run 1 rfl ?_
        exact fun h => by obtain ⟨rfl, rfl⟩ := hT _ (D.some h); exact Rn.ret rfl rfl rfl
      refine D.jn (fun T49 c49 => ?_)
      refine D.br rfl (by decide) rfl (fun hc => ?_) (fun hc => ?_)
      · refine D.run 2 rfl ?_
        exact fun h => Kj49 _   (c49 _ (D.some h))
      · refine D.run 1 rfl ?_
        exact fun h => Kj49 _   (c49 _ (D.some h))
    · refine D.run 1 rfl ?_
      exact fun h => by obtain ⟨rfl, rfl⟩ := hT _ (D.some h); exact Rn.ret rfl rfl rfl
set_option maxRecDepth 20000 in
theorem x139_ok {E : Xe} {R : Nat → Nat → Option Nat} {I : St} {a1 a2 a3 : Int32} {q : Int32 × St} (h : x139 I a1 a2 a3 = some q) : Rn E 139 (0, loc0 139 [.ref 69, .int a1, .int a2, .int a3], [], wT I R) (.returned (some (.int q.1))) (wT q.2 R) := x139_D  _ _ _ (T := fun r => r = q) (by rintro r rfl; exact ⟨rfl, rfl⟩) ⟨_, h, rfl⟩
/-- TaintHouse$Machine.raise(II)V -/
def x140 (I : St) (a1 a2 : Int32) : Option (St) := some (up2 (up2 (up2 I 68 12 1) 68 15 a1) 68 16 a2)
set_option maxRecDepth 20000 in
theorem x140_D {E : Xe} {R : Nat → Nat → Option Nat} {o : Outcome} {w : Wd} {T : (St) → Prop} {I : St} (a1 a2 : Int32) (hT : ∀ r, T r → o = .returned none ∧ w = wT r R) : Dq (x140 I a1 a2) T → Rn E 140 (0, loc0 140 [.ref 68, .int a1, .int a2], [], wT I R) o w := by
  unfold x140
  refine D.run 9 rfl ?_
  exact fun h => by obtain ⟨rfl, rfl⟩ := hT _ (D.some h); exact Rn.ret rfl rfl rfl
set_option maxRecDepth 20000 in
theorem x140_ok {E : Xe} {R : Nat → Nat → Option Nat} {I : St} {a1 a2 : Int32} {q : St} (h : x140 I a1 a2 = some q) : Rn E 140 (0, loc0 140 [.ref 68, .int a1, .int a2], [], wT I R) (.returned none) (wT q R) := x140_D  _ _ (T := fun r => r = q) (by rintro r rfl; exact ⟨rfl, rfl⟩) ⟨_, h, rfl⟩
/-- TaintHouse$Machine.combine(III)I -/
def x141 (I : St) (a0 a1 a2 : Int32) : Option (Int32) := if a0 = 8 then some (a1 + a2) else if a0 = 9 then some (a1 - a2) else if a0 = 10 then some (a1 * a2) else if a0 = 11 then if a2 = 0 then some 0 else if a2 = (-1) then some (-a1) else if a2 = 0 then none else some (a1 / a2) else if a0 = 12 then if a2 = 0 then some 0 else if a2 = (-1) then some 0 else if a2 = 0 then none else some (a1 - a1 / a2 * a2) else if a0 = 13 then some (a1 &&& a2) else if a0 = 14 then some (a1 ||| a2) else if a0 = 15 then some (a1 ^^^ a2) else if a0 = 16 then some (a1 <<< ((a2 &&& 31) &&& 31)) else if a0 = 17 then some (a1 >>> ((a2 &&& 31) &&& 31)) else some (ushr a1 (a2 &&& 31))
set_option maxRecDepth 20000 in
theorem x141_D {E : Xe} {R : Nat → Nat → Option Nat} {o : Outcome} {w : Wd} {T : (Int32) → Prop} {I : St} (a0 a1 a2 : Int32) (hT : ∀ r, T r → o = .returned (some (.int r)) ∧ w = wT I R) : Dq (x141 I a0 a1 a2) T → Rn E 141 (0, loc0 141 [.int a0, .int a1, .int a2], [], wT I R) o w := by
  unfold x141
  refine D.run 1 rfl ?_
  refine D.sw rfl (by decide) rfl ?_
  show _ → Rn E 141 (swT [(8, 56), (9, 60), (10, 64), (11, 68), (12, 90), (13, 107), (14, 111), (15, 115), (16, 119), (17, 126)] 133 _, _, _, _) _ _
  refine D.swc (fun hc => ?_) (fun hc => ?_)
  · refine D.run 3 rfl ?_
    exact fun h => by obtain ⟨rfl, rfl⟩ := hT _ (D.some h); exact Rn.ret rfl rfl rfl
  · refine D.swc (fun hc => ?_) (fun hc => ?_)
    · refine D.run 3 rfl ?_
      exact fun h => by obtain ⟨rfl, rfl⟩ := hT _ (D.some h); exact Rn.ret rfl rfl rfl
    · refine D.swc (fun hc => ?_) (fun hc => ?_)
      · refine D.run 3 rfl ?_
        exact fun h => by obtain ⟨rfl, rfl⟩ := hT _ (D.some h); exact Rn.ret rfl rfl rfl
      · refine D.swc (fun hc => ?_) (fun hc => ?_)
        · refine D.run 1 rfl ?_
          refine D.br rfl (by decide) rfl (fun hc => ?_) (fun hc => ?_)
          · refine D.run 2 rfl ?_
            exact fun h => by obtain ⟨rfl, rfl⟩ := hT _ (D.some h); exact Rn.ret rfl rfl rfl
          · refine D.run 2 rfl ?_
            refine D.br rfl (by decide) rfl (fun hc => ?_) (fun hc => ?_)
            · refine D.run 3 rfl ?_
              exact fun h => by obtain ⟨rfl, rfl⟩ := hT _ (D.some h); exact Rn.ret rfl rfl rfl
            · refine D.run 2 rfl ?_
              refine D.gn fun hg => ?_
              refine D.st rfl (by decide) (div_s hg) ?_
              exact fun h => by obtain ⟨rfl, rfl⟩ := hT _ (D.some h); exact Rn.ret rfl rfl rfl
        · refine D.swc (fun hc => ?_) (fun hc => ?_)
          · refine D.run 1 rfl ?_
            refine D.br rfl (by decide) rfl (fun hc => ?_) (fun hc => ?_)
            · refine D.run 2 rfl ?_
              exact fun h => by obtain ⟨rfl, rfl⟩ := hT _ (D.some h); exact Rn.ret rfl rfl rfl
            · refine D.run 2 rfl ?_
              refine D.br rfl (by decide) rfl (fun hc => ?_) (fun hc => ?_)
              · refine D.run 2 rfl ?_
                exact fun h => by obtain ⟨rfl, rfl⟩ := hT _ (D.some h); exact Rn.ret rfl rfl rfl
              · refine D.run 2 rfl ?_
                refine D.gn fun hg => ?_
                refine D.st rfl (by decide) (rem_s hg) ?_
                exact fun h => by obtain ⟨rfl, rfl⟩ := hT _ (D.some h); exact Rn.ret rfl rfl rfl
          · refine D.swc (fun hc => ?_) (fun hc => ?_)
            · refine D.run 3 rfl ?_
              exact fun h => by obtain ⟨rfl, rfl⟩ := hT _ (D.some h); exact Rn.ret rfl rfl rfl
            · refine D.swc (fun hc => ?_) (fun hc => ?_)
              · refine D.run 3 rfl ?_
                exact fun h => by obtain ⟨rfl, rfl⟩ := hT _ (D.some h); exact Rn.ret rfl rfl rfl
              · refine D.swc (fun hc => ?_) (fun hc => ?_)
                · refine D.run 3 rfl ?_
                  exact fun h => by obtain ⟨rfl, rfl⟩ := hT _ (D.some h); exact Rn.ret rfl rfl rfl
                · refine D.swc (fun hc => ?_) (fun hc => ?_)
                  · refine D.run 5 rfl ?_
                    exact fun h => by obtain ⟨rfl, rfl⟩ := hT _ (D.some h); exact Rn.ret rfl rfl rfl
                  · refine D.swc (fun hc => ?_) (fun hc => ?_)
                    · refine D.run 5 rfl ?_
                      exact fun h => by obtain ⟨rfl, rfl⟩ := hT _ (D.some h); exact Rn.ret rfl rfl rfl
                    · refine D.run 5 rfl ?_
                      exact fun h => by obtain ⟨rfl, rfl⟩ := hT _ (D.some h); exact Rn.ret rfl rfl rfl
set_option maxRecDepth 20000 in
theorem x141_ok {E : Xe} {R : Nat → Nat → Option Nat} {I : St} {a0 a1 a2 : Int32} {q : Int32} (h : x141 I a0 a1 a2 = some q) : Rn E 141 (0, loc0 141 [.int a0, .int a1, .int a2], [], wT I R) (.returned (some (.int q))) (wT I R) := x141_D  _ _ _ (T := fun r => r = q) (by rintro r rfl; exact ⟨rfl, rfl⟩) ⟨_, h, rfl⟩
/-- TaintHouse$Machine.compare(III)Z -/
def x143 (I : St) (a0 a1 a2 : Int32) : Int32 := if a0 = 0 then if a1 = a2 then 1 else 0 else if a0 = 1 then if a1 = a2 then 0 else 1 else if a0 = 2 then if a2 ≤ a1 then 0 else 1 else if a0 = 3 then if a1 < a2 then 0 else 1 else if a0 = 4 then if a1 ≤ a2 then 0 else 1 else if a2 < a1 then 0 else 1
set_option maxRecDepth 20000 in
theorem x143_ok {E : Xe} {R : Nat → Nat → Option Nat} {I : St} (a0 a1 a2 : Int32) : Rn E 143 (0, loc0 143 [.int a0, .int a1, .int a2], [], wT I R) (.returned (some (.int (x143 I a0 a1 a2)))) (wT I R) := by
  have H : ∀ (o : Outcome) (w : Wd) (T : Int32 → Prop), (∀ r, T r → o = .returned (some (.int r)) ∧ w = wT I R) → Dq (some (x143 I a0 a1 a2)) T → Rn E 143 (0, loc0 143 [.int a0, .int a1, .int a2], [], wT I R) o w := by
    intro o w T hT
    unfold x143
    refine D.run 1 rfl ?_
    refine D.sw rfl (by decide) rfl ?_
    show _ → Rn E 143 (swT [(0, 36), (1, 47), (2, 58), (3, 69), (4, 80)] 91 _, _, _, _) _ _
    refine D.swcp (fun hc => ?_) (fun hc => ?_)
    · refine D.run 2 rfl ?_
      refine D.brp rfl (by decide) rfl (fun hc => ?_) (fun hc => ?_)
      · refine D.run 2 rfl ?_
        exact fun h => by obtain ⟨rfl, rfl⟩ := hT _ (D.some h); exact Rn.ret rfl rfl (by first | rfl | (simp [rt1, rt]; done) | decide)
      · refine D.run 1 rfl ?_
        exact fun h => by obtain ⟨rfl, rfl⟩ := hT _ (D.some h); exact Rn.ret rfl rfl (by first | rfl | (simp [rt1, rt]; done) | decide)
    · refine D.swcp (fun hc => ?_) (fun hc => ?_)
      · refine D.run 2 rfl ?_
        refine D.brp rfl (by decide) rfl (fun hc => ?_) (fun hc => ?_)
        · refine D.run 1 rfl ?_
          exact fun h => by obtain ⟨rfl, rfl⟩ := hT _ (D.some h); exact Rn.ret rfl rfl (by first | rfl | (simp [rt1, rt]; done) | decide)
        · refine D.run 2 rfl ?_
          exact fun h => by obtain ⟨rfl, rfl⟩ := hT _ (D.some h); exact Rn.ret rfl rfl (by first | rfl | (simp [rt1, rt]; done) | decide)
      · refine D.swcp (fun hc => ?_) (fun hc => ?_)
        · refine D.run 2 rfl ?_
          refine D.brp rfl (by decide) rfl (fun hc => ?_) (fun hc => ?_)
          · refine D.run 1 rfl ?_
            exact fun h => by obtain ⟨rfl, rfl⟩ := hT _ (D.some h); exact Rn.ret rfl rfl (by first | rfl | (simp [rt1, rt]; done) | decide)
          · refine D.run 2 rfl ?_
            exact fun h => by obtain ⟨rfl, rfl⟩ := hT _ (D.some h); exact Rn.ret rfl rfl (by first | rfl | (simp [rt1, rt]; done) | decide)
        · refine D.swcp (fun hc => ?_) (fun hc => ?_)
          · refine D.run 2 rfl ?_
            refine D.brp rfl (by decide) rfl (fun hc => ?_) (fun hc => ?_)
            · refine D.run 1 rfl ?_
              exact fun h => by obtain ⟨rfl, rfl⟩ := hT _ (D.some h); exact Rn.ret rfl rfl (by first | rfl | (simp [rt1, rt]; done) | decide)
            · refine D.run 2 rfl ?_
              exact fun h => by obtain ⟨rfl, rfl⟩ := hT _ (D.some h); exact Rn.ret rfl rfl (by first | rfl | (simp [rt1, rt]; done) | decide)
          · refine D.swcp (fun hc => ?_) (fun hc => ?_)
            · refine D.run 2 rfl ?_
              refine D.brp rfl (by decide) rfl (fun hc => ?_) (fun hc => ?_)
              · refine D.run 1 rfl ?_
                exact fun h => by obtain ⟨rfl, rfl⟩ := hT _ (D.some h); exact Rn.ret rfl rfl (by first | rfl | (simp [rt1, rt]; done) | decide)
              · refine D.run 2 rfl ?_
                exact fun h => by obtain ⟨rfl, rfl⟩ := hT _ (D.some h); exact Rn.ret rfl rfl (by first | rfl | (simp [rt1, rt]; done) | decide)
            · refine D.run 2 rfl ?_
              refine D.brp rfl (by decide) rfl (fun hc => ?_) (fun hc => ?_)
              · refine D.run 1 rfl ?_
                exact fun h => by obtain ⟨rfl, rfl⟩ := hT _ (D.some h); exact Rn.ret rfl rfl (by first | rfl | (simp [rt1, rt]; done) | decide)
              · refine D.run 2 rfl ?_
                exact fun h => by obtain ⟨rfl, rfl⟩ := hT _ (D.some h); exact Rn.ret rfl rfl (by first | rfl | (simp [rt1, rt]; done) | decide)
  exact H _ _ (fun r => r = x143 I a0 a1 a2) (by rintro r rfl; exact ⟨rfl, rfl⟩) ⟨_, rfl, rfl⟩
/-- TaintHouse$Heap.write(IIII)V -/
def x146 (I : St) (a1 a2 a3 a4 : Int32) : Option (St) := some (tset2 I 72 ((tget I 70 a1 1) + a2) a3 a4)
set_option maxRecDepth 20000 in
theorem x146_D {E : Xe} {R : Nat → Nat → Option Nat} {o : Outcome} {w : Wd} {T : (St) → Prop} {I : St} (a1 a2 a3 a4 : Int32) (hT : ∀ r, T r → o = .returned none ∧ w = wT r R) : Dq (x146 I a1 a2 a3 a4) T → Rn E 146 (0, loc0 146 [.ref 69, .int a1, .int a2, .int a3, .int a4], [], wT I R) o w := by
  unfold x146
  refine D.run 6 rfl ?_
  refine D.ce rfl rfl rfl rfl (tget_ok (by decide) (by first | rfl | decide) _ _) ?_
  refine D.run 4 rfl ?_
  refine D.ce rfl rfl rfl rfl (tsetP_ok (by decide) (by first | rfl | decide) (by decide) _ _ _) ?_
  exact fun h => by obtain ⟨rfl, rfl⟩ := hT _ (D.some h); exact Rn.ret rfl rfl rfl
set_option maxRecDepth 20000 in
theorem x146_ok {E : Xe} {R : Nat → Nat → Option Nat} {I : St} {a1 a2 a3 a4 : Int32} {q : St} (h : x146 I a1 a2 a3 a4 = some q) : Rn E 146 (0, loc0 146 [.ref 69, .int a1, .int a2, .int a3, .int a4], [], wT I R) (.returned none) (wT q R) := x146_D  _ _ _ _ (T := fun r => r = q) (by rintro r rfl; exact ⟨rfl, rfl⟩) ⟨_, h, rfl⟩
/-- TaintHouse$Heap.classOf(I)I -/
def x149 (I : St) (a1 : Int32) : Int32 := (tget I 70 a1 0)
set_option maxRecDepth 20000 in
theorem x149_ok {E : Xe} {R : Nat → Nat → Option Nat} {I : St} (a1 : Int32) : Rn E 149 (0, loc0 149 [.ref 69, .int a1], [], wT I R) (.returned (some (.int (x149 I a1)))) (wT I R) := by
  have H : ∀ (o : Outcome) (w : Wd) (T : Int32 → Prop), (∀ r, T r → o = .returned (some (.int r)) ∧ w = wT I R) → Dq (some (x149 I a1)) T → Rn E 149 (0, loc0 149 [.ref 69, .int a1], [], wT I R) o w := by
    intro o w T hT
    unfold x149
    refine D.run 4 rfl ?_
    refine D.ce rfl rfl rfl rfl (tget_ok (by decide) (by first | rfl | decide) _ _) ?_
    exact fun h => by obtain ⟨rfl, rfl⟩ := hT _ (D.some h); exact Rn.ret rfl rfl rfl
  exact H _ _ (fun r => r = x149 I a1) (by rintro r rfl; exact ⟨rfl, rfl⟩) ⟨_, rfl, rfl⟩
/-- TaintHouse$Program.isOf(II)Z -/
def l150_13 (P : Nat) (b2 : Int32) : Nat → Int32 → Int32 → St → Option ((Unit) ⊕ (Int32))
  | 0, _, _, _ => none
  | n + 1, b3, b4, I => if 19 ≤ b4 then some (.inl ()) else if b3 = (-1) then some (.inl ()) else if b3 = b2 then some (.inr 1) else l150_13 P b2 n (tget I (P + 1) b3 0) (b4 + 1) I
set_option maxRecDepth 20000 in
theorem l150_13_ok {E : Xe} {R : Nat → Nat → Option Nat} {P : Nat} {I0 : St} {o : Outcome} {w : Wd} {T : ((Unit) ⊕ (Int32)) → Prop} {b2 : Int32} (hP : P = 3 ∨ P = 18) (hT : ∀ r, T (.inr r) → o = .returned (some (.int r)) ∧ w = wT I0 R) (K : ∀ (q : Unit) (e1 : Value) (_ : is1 e1 = true) (e2 : Value) (_ : is1 e2 = true) (e3 : Value) (_ : is1 e3 = true) (e4 : Value) (_ : is1 e4 = true), T (.inl q) → Rn E 150 (48, [.ref P, e1, e2, e3, e4], [], wT I0 R) o w) : ∀ (n : Nat) (b3 : Int32) (b4 : Int32) (d1 : Value), is1 d1 = true → Dq (l150_13 P b2 n b3 b4 I0) T → Rn E 150 (13, [.ref P, d1, .int b2, .int b3, .int b4], [], wT I0 R) o w := by
  rcases hP with rfl | rfl
  all_goals
    intro n
    induction n with
    | zero => intro b3 b4 d1 hd1; exact D.none
    | succ n ih =>
      intro b3 b4 d1 hd1
      rw [l150_13]
      refine D.run 2 rfl ?_
      refine D.br rfl (by decide) rfl (fun hc => ?_) (fun hc => ?_)
      · exact fun h => D.to h (K _ _ (by first | rfl | assumption) _ (by first | rfl | assumption) _ (by first | rfl | assumption) _ (by first | rfl | assumption))
      · refine D.run 2 rfl ?_
        refine D.br rfl (by decide) rfl (fun hc => ?_) (fun hc => ?_)
        · exact fun h => D.to h (K _ _ (by first | rfl | assumption) _ (by first | rfl | assumption) _ (by first | rfl | assumption) _ (by first | rfl | assumption))
        · refine D.run 2 rfl ?_
          refine D.br rfl (by decide) rfl (fun hc => ?_) (fun hc => ?_)
          · refine D.run 1 rfl ?_
            exact fun h => by obtain ⟨rfl, rfl⟩ := hT _ (D.some h); exact Rn.ret rfl rfl (by first | rfl | (simp [rt1, rt]; done) | decide)
          · refine D.run 4 rfl ?_
            refine D.ce rfl rfl rfl rfl (tget_ok (by decide) (by first | rfl | decide) _ _) ?_
            refine D.run 3 rfl ?_
            exact ih _ _ _  (by first | rfl | assumption)
def x150 (P : Nat) (I : St) (a1 a2 : Int32) : Option (Int32) := (if 0 ≤ a1 then some a1 else some 0).bind fun (q1 : Int32) => (l150_13 P a2 100000 q1 0 I).bind (Sum.elim (fun q2 => some 0) (fun r => some r))
set_option maxRecDepth 20000 in
theorem x150_D {E : Xe} {R : Nat → Nat → Option Nat} {P : Nat} {o : Outcome} {w : Wd} {T : (Int32) → Prop} {I : St} (hP : P = 3 ∨ P = 18) (a1 a2 : Int32) (hT : ∀ r, T r → o = .returned (some (.int r)) ∧ w = wT I R) : Dq (x150 P I a1 a2) T → Rn E 150 (0, loc0 150 [.ref P, .int a1, .int a2], [], wT I R) o w := by
  unfold x150
  rcases hP with rfl | rfl
  · refine D.run 1 rfl ?_
    have Kj9 : ∀ (q1 : Int32), Dq ((l150_13 3 a2 100000 q1 0 I).bind (Sum.elim (fun q2 => some 0) (fun r => some r))) T → Rn E 150 (9, [.ref 3, .int a1, .int a2, us, us], [.int q1], wT I R) o w := by
      intro q1
      refine D.run 3 rfl ?_
      refine D.bind (l150_13_ok (by decide) (fun r h => hT _ (D.some h)) (fun q2 e3 he3 e4 he4 e5 he5 e6 he6 => ?_) 100000 _ _ _  (by first | rfl | assumption))
      refine D.inl ?_
      refine D.run 1 rfl ?_
      exact fun h => by obtain ⟨rfl, rfl⟩ := hT _ (D.some h); exact Rn.ret rfl rfl (by first | rfl | (simp [rt1, rt]; done) | decide)
    refine D.jn (fun T9 c9 => ?_)
    refine D.br rfl (by decide) rfl (fun hc => ?_) (fun hc => ?_)
    · refine D.run 1 rfl ?_
      exact fun h => Kj9 _   (c9 _ (D.some h))
    · refine D.run 2 rfl ?_
      exact fun h => Kj9 _   (c9 _ (D.some h))
  · refine D.run 1 rfl ?_
    have Kj9 : ∀ (q1 : Int32), Dq ((l150_13 18 a2 100000 q1 0 I).bind (Sum.elim (fun q2 => some 0) (fun r => some r))) T → Rn E 150 (9, [.ref 18, .int a1, .int a2, us, us], [.int q1], wT I R) o w := by
      intro q1
      refine D.run 3 rfl ?_
      refine D.bind (l150_13_ok (by decide) (fun r h => hT _ (D.some h)) (fun q2 e3 he3 e4 he4 e5 he5 e6 he6 => ?_) 100000 _ _ _  (by first | rfl | assumption))
      refine D.inl ?_
      refine D.run 1 rfl ?_
      exact fun h => by obtain ⟨rfl, rfl⟩ := hT _ (D.some h); exact Rn.ret rfl rfl (by first | rfl | (simp [rt1, rt]; done) | decide)
    refine D.jn (fun T9 c9 => ?_)
    refine D.br rfl (by decide) rfl (fun hc => ?_) (fun hc => ?_)
    · refine D.run 1 rfl ?_
      exact fun h => Kj9 _   (c9 _ (D.some h))
    · refine D.run 2 rfl ?_
      exact fun h => Kj9 _   (c9 _ (D.some h))
set_option maxRecDepth 20000 in
theorem x150_ok {E : Xe} {R : Nat → Nat → Option Nat} {P : Nat} {I : St} (hP : P = 3 ∨ P = 18) {a1 a2 : Int32} {q : Int32} (h : x150 P I a1 a2 = some q) : Rn E 150 (0, loc0 150 [.ref P, .int a1, .int a2], [], wT I R) (.returned (some (.int q))) (wT I R) := x150_D hP _ _ (T := fun r => r = q) (by rintro r rfl; exact ⟨rfl, rfl⟩) ⟨_, h, rfl⟩
/-- TaintHouse$Heap.valueAt(II)I -/
def x151 (I : St) (a1 a2 : Int32) : Int32 := (tget I 72 ((tget I 70 a1 1) + a2) 0)
set_option maxRecDepth 20000 in
theorem x151_ok {E : Xe} {R : Nat → Nat → Option Nat} {I : St} (a1 a2 : Int32) : Rn E 151 (0, loc0 151 [.ref 69, .int a1, .int a2], [], wT I R) (.returned (some (.int (x151 I a1 a2)))) (wT I R) := by
  have H : ∀ (o : Outcome) (w : Wd) (T : Int32 → Prop), (∀ r, T r → o = .returned (some (.int r)) ∧ w = wT I R) → Dq (some (x151 I a1 a2)) T → Rn E 151 (0, loc0 151 [.ref 69, .int a1, .int a2], [], wT I R) o w := by
    intro o w T hT
    unfold x151
    refine D.run 6 rfl ?_
    refine D.ce rfl rfl rfl rfl (tget_ok (by decide) (by first | rfl | decide) _ _) ?_
    refine D.run 3 rfl ?_
    refine D.ce rfl rfl rfl rfl (tget_ok (by decide) (by first | rfl | decide) _ _) ?_
    exact fun h => by obtain ⟨rfl, rfl⟩ := hT _ (D.some h); exact Rn.ret rfl rfl rfl
  exact H _ _ (fun r => r = x151 I a1 a2) (by rintro r rfl; exact ⟨rfl, rfl⟩) ⟨_, rfl, rfl⟩
/-- TaintHouse$Heap.marksAt(II)I -/
def x152 (I : St) (a1 a2 : Int32) : Int32 := (tget I 72 ((tget I 70 a1 1) + a2) 1)
set_option maxRecDepth 20000 in
theorem x152_ok {E : Xe} {R : Nat → Nat → Option Nat} {I : St} (a1 a2 : Int32) : Rn E 152 (0, loc0 152 [.ref 69, .int a1, .int a2], [], wT I R) (.returned (some (.int (x152 I a1 a2)))) (wT I R) := by
  have H : ∀ (o : Outcome) (w : Wd) (T : Int32 → Prop), (∀ r, T r → o = .returned (some (.int r)) ∧ w = wT I R) → Dq (some (x152 I a1 a2)) T → Rn E 152 (0, loc0 152 [.ref 69, .int a1, .int a2], [], wT I R) o w := by
    intro o w T hT
    unfold x152
    refine D.run 6 rfl ?_
    refine D.ce rfl rfl rfl rfl (tget_ok (by decide) (by first | rfl | decide) _ _) ?_
    refine D.run 3 rfl ?_
    refine D.ce rfl rfl rfl rfl (tget_ok (by decide) (by first | rfl | decide) _ _) ?_
    exact fun h => by obtain ⟨rfl, rfl⟩ := hT _ (D.some h); exact Rn.ret rfl rfl rfl
  exact H _ _ (fun r => r = x152 I a1 a2) (by rintro r rfl; exact ⟨rfl, rfl⟩) ⟨_, rfl, rfl⟩
/-- TaintHouse$Machine.flowing(II)I -/
def x153 (I : St) (a1 a2 : Int32) : Int32 := if ((I 61 0) &&& a1) = 0 then 0 else a2
set_option maxRecDepth 20000 in
theorem x153_ok {E : Xe} {R : Nat → Nat → Option Nat} {I : St} (a1 a2 : Int32) : Rn E 153 (0, loc0 153 [.ref 68, .int a1, .int a2], [], wT I R) (.returned (some (.int (x153 I a1 a2)))) (wT I R) := by
  have H : ∀ (o : Outcome) (w : Wd) (T : Int32 → Prop), (∀ r, T r → o = .returned (some (.int r)) ∧ w = wT I R) → Dq (some (x153 I a1 a2)) T → Rn E 153 (0, loc0 153 [.ref 68, .int a1, .int a2], [], wT I R) o w := by
    intro o w T hT
    unfold x153
    refine D.run 5 rfl ?_
    refine D.brp rfl (by decide) rfl (fun hc => ?_) (fun hc => ?_)
    · refine D.run 1 rfl ?_
      exact fun h => by obtain ⟨rfl, rfl⟩ := hT _ (D.some h); exact Rn.ret rfl rfl rfl
    · refine D.run 2 rfl ?_
      exact fun h => by obtain ⟨rfl, rfl⟩ := hT _ (D.some h); exact Rn.ret rfl rfl rfl
  exact H _ _ (fun r => r = x153 I a1 a2) (by rintro r rfl; exact ⟨rfl, rfl⟩) ⟨_, rfl, rfl⟩
/-- TaintHouse$Heap.lengthOf(I)I -/
def x159 (I : St) (a1 : Int32) : Int32 := (tget I 70 a1 2)
set_option maxRecDepth 20000 in
theorem x159_ok {E : Xe} {R : Nat → Nat → Option Nat} {I : St} (a1 : Int32) : Rn E 159 (0, loc0 159 [.ref 69, .int a1], [], wT I R) (.returned (some (.int (x159 I a1)))) (wT I R) := by
  have H : ∀ (o : Outcome) (w : Wd) (T : Int32 → Prop), (∀ r, T r → o = .returned (some (.int r)) ∧ w = wT I R) → Dq (some (x159 I a1)) T → Rn E 159 (0, loc0 159 [.ref 69, .int a1], [], wT I R) o w := by
    intro o w T hT
    unfold x159
    refine D.run 4 rfl ?_
    refine D.ce rfl rfl rfl rfl (tget_ok (by decide) (by first | rfl | decide) _ _) ?_
    exact fun h => by obtain ⟨rfl, rfl⟩ := hT _ (D.some h); exact Rn.ret rfl rfl rfl
  exact H _ _ (fun r => r = x159 I a1) (by rintro r rfl; exact ⟨rfl, rfl⟩) ⟨_, rfl, rfl⟩
/-- TaintHouse$Heap.lengthMarksOf(I)I -/
def x162 (I : St) (a1 : Int32) : Int32 := (tget I 70 a1 3)
set_option maxRecDepth 20000 in
theorem x162_ok {E : Xe} {R : Nat → Nat → Option Nat} {I : St} (a1 : Int32) : Rn E 162 (0, loc0 162 [.ref 69, .int a1], [], wT I R) (.returned (some (.int (x162 I a1)))) (wT I R) := by
  have H : ∀ (o : Outcome) (w : Wd) (T : Int32 → Prop), (∀ r, T r → o = .returned (some (.int r)) ∧ w = wT I R) → Dq (some (x162 I a1)) T → Rn E 162 (0, loc0 162 [.ref 69, .int a1], [], wT I R) o w := by
    intro o w T hT
    unfold x162
    refine D.run 4 rfl ?_
    refine D.ce rfl rfl rfl rfl (tget_ok (by decide) (by first | rfl | decide) _ _) ?_
    exact fun h => by obtain ⟨rfl, rfl⟩ := hT _ (D.some h); exact Rn.ret rfl rfl rfl
  exact H _ _ (fun r => r = x162 I a1) (by rintro r rfl; exact ⟨rfl, rfl⟩) ⟨_, rfl, rfl⟩
/-- TaintHouse$Machine.enter(II)V -/
def l164_103 (b2 : Int32) (b3 : Int32) : Nat → Int32 → St → Option (St)
  | 0, _, _ => none
  | n + 1, b4, I => if b2 ≤ b4 then some I else l164_103 b2 b3 n (b4 + 1) (tset2 I 80 (x128 I b4) (tget I 80 (b3 + b4) 0) (tget I 80 (b3 + b4) 1))
set_option maxRecDepth 20000 in
theorem l164_103_ok {E : Xe} {R : Nat → Nat → Option Nat} {o : Outcome} {w : Wd} {T : (St) → Prop} {b2 : Int32} {b3 : Int32} (K : ∀ (q : St) (e1 : Value) (_ : is1 e1 = true) (e2 : Value) (_ : is1 e2 = true) (e3 : Value) (_ : is1 e3 = true) (e4 : Value) (_ : is1 e4 = true), T q → Rn E 164 (152, [.ref 68, e1, e2, e3, e4], [], wT q R) o w) : ∀ (n : Nat) (b4 : Int32) (d1 : Value) (I : St), is1 d1 = true → Dq (l164_103 b2 b3 n b4 I) T → Rn E 164 (103, [.ref 68, d1, .int b2, .int b3, .int b4], [], wT I R) o w := by
  intro n
  induction n with
  | zero => intro b4 d1 I hd1; exact D.none
  | succ n ih =>
    intro b4 d1 I hd1
    rw [l164_103]
    refine D.run 2 rfl ?_
    refine D.br rfl (by decide) rfl (fun hc => ?_) (fun hc => ?_)
    · exact fun h => D.to h (K _ _ (by first | rfl | assumption) _ (by first | rfl | assumption) _ (by first | rfl | assumption) _ (by first | rfl | assumption))
    · refine D.run 4 rfl ?_
      refine D.ce rfl rfl rfl rfl (x128_ok _) ?_
      refine D.run 6 rfl ?_
      refine D.ce rfl rfl rfl rfl (tget_ok (by decide) (by first | rfl | decide) _ _) ?_
      refine D.run 6 rfl ?_
      refine D.ce rfl rfl rfl rfl (tget_ok (by decide) (by first | rfl | decide) _ _) ?_
      show _ → Rn E 164 (143, [.ref 68, d1, .int b2, .int b3, .int b4], [.int (tget I 80 (b3 + b4) 1), .int (tget I 80 (b3 + b4) 0), .int (x128 I b4), .ref 80], wT I R) o w
      refine D.ce rfl rfl rfl rfl (tsetP_ok (by decide) (by first | rfl | decide) (by decide) _ _ _) ?_
      refine D.run 2 rfl ?_
      exact ih _ _ _ (by first | rfl | assumption)
def x164 (I : St) (a1 a2 : Int32) : Option (St) := if ((I 68 7) + 1) < 24 then Lt (tset (tset I 78 (I 68 7) 0 (I 68 8)) 78 ((tset I 78 (I 68 7) 0 (I 68 8)) 68 7) 1 ((tset I 78 (I 68 7) 0 (I 68 8)) 68 9)) fun J1 => Lt (up2 (tset J1 78 (J1 68 7) 2 ((J1 68 11) - a2)) 68 7 (((tset J1 78 (J1 68 7) 2 ((J1 68 11) - a2)) 68 7) + 1)) fun J2 => (l164_103 a2 (x132 I (a2 - 1)) 100000 0 (up2 (up2 (up2 J2 68 8 a1) 68 11 0) 68 10 0)).bind fun q3 => some q3 else some (up2 I 68 14 5)
set_option maxRecDepth 20000 in
theorem x164_D {E : Xe} {R : Nat → Nat → Option Nat} {o : Outcome} {w : Wd} {T : (St) → Prop} {I : St} (a1 a2 : Int32) (hT : ∀ r, T r → o = .returned none ∧ w = wT r R) : Dq (x164 I a1 a2) T → Rn E 164 (0, loc0 164 [.ref 68, .int a1, .int a2], [], wT I R) o w := by
  unfold x164
  refine D.run 5 rfl ?_
  refine D.br rfl (by decide) rfl (fun hc => ?_) (fun hc => ?_)
  · refine D.run 4 rfl ?_
    refine D.ce rfl rfl rfl rfl (x132_ok _) ?_
    refine D.run 8 rfl ?_
    refine D.ce rfl rfl rfl rfl (tset_ok (by decide) (by first | rfl | decide) _ _ _) ?_
    refine D.run 7 rfl ?_
    refine D.ce rfl rfl rfl rfl (tset_ok (by decide) (by first | rfl | decide) _ _ _) ?_
    refine D.letS (fun J1 => ?_)
    show _ → Rn E 164 (57, [.ref 68, .int a1, .int a2, .int (x132 I (a2 - 1)), us], [], wT J1 R) o w
    refine D.run 9 rfl ?_
    refine D.ce rfl rfl rfl rfl (tset_ok (by decide) (by first | rfl | decide) _ _ _) ?_
    refine D.run 6 rfl ?_
    refine D.letS (fun J2 => ?_)
    refine D.run 11 rfl ?_
    refine D.bind (l164_103_ok  (fun q3 e4 he4 e5 he5 e6 he6 e7 he7 => ?_) 100000 _ _ _ (by first | rfl | assumption))
    exact fun h => by obtain ⟨rfl, rfl⟩ := hT _ (D.some h); exact Rn.ret rfl rfl rfl
  · refine D.run 3 rfl ?_
    exact fun h => by obtain ⟨rfl, rfl⟩ := hT _ (D.some h); exact Rn.ret rfl rfl rfl
set_option maxRecDepth 20000 in
theorem x164_ok {E : Xe} {R : Nat → Nat → Option Nat} {I : St} {a1 a2 : Int32} {q : St} (h : x164 I a1 a2 = some q) : Rn E 164 (0, loc0 164 [.ref 68, .int a1, .int a2], [], wT I R) (.returned none) (wT q R) := x164_D  _ _ (T := fun r => r = q) (by rintro r rfl; exact ⟨rfl, rfl⟩) ⟨_, h, rfl⟩
/-- TaintHouse$Machine.backToCaller()V -/
def x167 (I : St) : Option (St) := Lt (up2 (up2 I 68 7 ((I 68 7) - 1)) 68 8 (tget (up2 I 68 7 ((I 68 7) - 1)) 78 ((I 68 7) - 1) 0)) fun J1 => Lt (up2 (up2 J1 68 9 (tget J1 78 (J1 68 7) 1)) 68 11 (tget (up2 J1 68 9 (tget J1 78 (J1 68 7) 1)) 78 (J1 68 7) 2)) fun J2 => some J2
set_option maxRecDepth 20000 in
theorem x167_D {E : Xe} {R : Nat → Nat → Option Nat} {o : Outcome} {w : Wd} {T : (St) → Prop} {I : St} (hT : ∀ r, T r → o = .returned none ∧ w = wT r R) : Dq (x167 I) T → Rn E 167 (0, loc0 167 [.ref 68], [], wT I R) o w := by
  unfold x167
  refine D.run 12 rfl ?_
  refine D.ce rfl rfl rfl rfl (tget_ok (by decide) (by first | rfl | decide) _ _) ?_
  refine D.run 1 rfl ?_
  refine D.letS (fun J1 => ?_)
  refine D.run 6 rfl ?_
  refine D.ce rfl rfl rfl rfl (tget_ok (by decide) (by first | rfl | decide) _ _) ?_
  show _ → Rn E 167 (39, [.ref 68], [.int (tget J1 78 (J1 68 7) 1), .ref 68], wT J1 R) o w
  refine D.run 7 rfl ?_
  refine D.ce rfl rfl rfl rfl (tget_ok (by decide) (by first | rfl | decide) _ _) ?_
  refine D.run 1 rfl ?_
  refine D.letS (fun J2 => ?_)
  exact fun h => by obtain ⟨rfl, rfl⟩ := hT _ (D.some h); exact Rn.ret rfl rfl rfl
set_option maxRecDepth 20000 in
theorem x167_ok {E : Xe} {R : Nat → Nat → Option Nat} {I : St} {q : St} (h : x167 I = some q) : Rn E 167 (0, loc0 167 [.ref 68], [], wT I R) (.returned none) (wT q R) := x167_D  (T := fun r => r = q) (by rintro r rfl; exact ⟨rfl, rfl⟩) ⟨_, h, rfl⟩
/-- TaintHouse$Machine.tell(III)V -/
def x169 (I : St) (a1 a2 a3 : Int32) : Option (St) := if (tadr I 76) = (-1) then some (up2 (tadd I 76) 68 14 7) else (if ((tget (tadd I 76) 62 a1 0) &&& a3) = 0 then some 0 else some 1).bind fun (q1 : Int32) => Lt (tset (tset (tset (tadd I 76) 76 (tadr I 76) 0 a1) 76 (tadr I 76) 1 a2) 76 (tadr I 76) 2 a3) fun J2 => some (up2 (tset J2 76 (tadr I 76) 3 q1) 68 18 (((tset J2 76 (tadr I 76) 3 q1) 68 18) + q1))
set_option maxRecDepth 20000 in
theorem x169_D {E : Xe} {R : Nat → Nat → Option Nat} {o : Outcome} {w : Wd} {T : (St) → Prop} {I : St} (a1 a2 a3 : Int32) (hT : ∀ r, T r → o = .returned none ∧ w = wT r R) : Dq (x169 I a1 a2 a3) T → Rn E 169 (0, loc0 169 [.ref 68, .int a1, .int a2, .int a3], [], wT I R) o w := by
  unfold x169
  refine D.run 2 rfl ?_
  refine D.ce rfl rfl rfl rfl (tadd_ok (by decide) (by first | rfl | decide)) ?_
  refine D.run 3 rfl ?_
  refine D.br rfl (by decide) rfl (fun hc => ?_) (fun hc => ?_)
  · refine D.run 3 rfl ?_
    exact fun h => by obtain ⟨rfl, rfl⟩ := hT _ (D.some h); exact Rn.ret rfl rfl rfl
  · refine D.run 5 rfl ?_
    refine D.ce rfl rfl rfl rfl (tget_ok (by decide) (by first | rfl | decide) _ _) ?_
    refine D.run 2 rfl ?_
    have Kj44 : ∀ (q1 : Int32), Dq (Lt (tset (tset (tset (tadd I 76) 76 (tadr I 76) 0 a1) 76 (tadr I 76) 1 a2) 76 (tadr I 76) 2 a3) fun J2 => some (up2 (tset J2 76 (tadr I 76) 3 q1) 68 18 (((tset J2 76 (tadr I 76) 3 q1) 68 18) + q1))) T → Rn E 169 (44, [.ref 68, .int a1, .int a2, .int a3, .int (tadr I 76), us], [.int q1], wT (tadd I 76) R) o w := by
      intro q1
      refine D.run 6 rfl ?_
      refine D.ce rfl rfl rfl rfl (tset_ok (by decide) (by first | rfl | decide) _ _ _) ?_
      refine D.run 5 rfl ?_
      refine D.ce rfl rfl rfl rfl (tset_ok (by decide) (by first | rfl | decide) _ _ _) ?_
      refine D.run 5 rfl ?_
      refine D.ce rfl rfl rfl rfl (tset_ok (by decide) (by first | rfl | decide) _ _ _) ?_
      refine D.letS (fun J2 => ?_)
      show _ → Rn E 169 (79, [.ref 68, .int a1, .int a2, .int a3, .int (tadr I 76), .int q1], [], wT J2 R) o w
      refine D.run 5 rfl ?_
      refine D.ce rfl rfl rfl rfl (tset_ok (by decide) (by first | rfl | decide) _ _ _) ?_
      refine D.run 6 rfl ?_
      exact fun h => by obtain ⟨rfl, rfl⟩ := hT _ (D.some h); exact Rn.ret rfl rfl rfl
    refine D.jn (fun T44 c44 => ?_)
    refine D.br rfl (by decide) rfl (fun hc => ?_) (fun hc => ?_)
    · refine D.run 1 rfl ?_
      exact fun h => Kj44 _   (c44 _ (D.some h))
    · refine D.run 2 rfl ?_
      exact fun h => Kj44 _   (c44 _ (D.some h))
set_option maxRecDepth 20000 in
theorem x169_ok {E : Xe} {R : Nat → Nat → Option Nat} {I : St} {a1 a2 a3 : Int32} {q : St} (h : x169 I a1 a2 a3 = some q) : Rn E 169 (0, loc0 169 [.ref 68, .int a1, .int a2, .int a3], [], wT I R) (.returned none) (wT q R) := x169_D  _ _ _ (T := fun r => r = q) (by rintro r rfl; exact ⟨rfl, rfl⟩) ⟨_, h, rfl⟩
