/-! FUNCTIONS OF METHODS, by program (wip/gen/all.py): 272 273 274 275 4 21 35 43 59 66 68 69 73 77 79 80 82 88 -/
/-- TaintHouseModel.stat(II)I -/
def x272 (Q : Nat) (I : St) (a1 a2 : Int32) : Option (Int32) := if (I 82 33) = 0 then some (-1) else if a1 < 0 then some (-1) else if (I Q 6) ≤ a1 then some (-1) else if a2 < 0 then some (-1) else if a2 ≤ 1 then if a2 = 1 then if inb a1 16 then some (I 188 a1.toNatClampNeg) else none else if inb a1 16 then if (I (Q + 14) a1.toNatClampNeg) = 2 then if inb a1 16 then some ((I 187 a1.toNatClampNeg) - 1) else none else if inb a1 16 then some (I 187 a1.toNatClampNeg) else none else none else some (-1)
set_option maxRecDepth 20000 in
theorem x272_D {E : Xe} {R : Nat → Nat → Option Nat} {Q : Nat} {o : Outcome} {w : Wd} {T : (Int32) → Prop} {I : St} (hQ : Q = 85 ∨ Q = 126) (h82_3 : R 82 3 = some Q) (a1 a2 : Int32) (hT : ∀ r, T r → o = .returned (some (.int r)) ∧ w = wT I R) : Dq (x272 Q I a1 a2) T → Rn E 272 (0, loc0 272 [.ref 82, .int a1, .int a2], [], wT I R) o w := by
  unfold x272
  rcases hQ with rfl | rfl
  · refine D.run 2 rfl ?_
    refine D.br rfl (by decide) rfl (fun hc => ?_) (fun hc => ?_)
    · refine D.run 1 rfl ?_
      exact fun h => by obtain ⟨rfl, rfl⟩ := hT _ (D.some h); exact Rn.ret rfl rfl rfl
    · refine D.run 1 rfl ?_
      refine D.br rfl (by decide) rfl (fun hc => ?_) (fun hc => ?_)
      · refine D.run 1 rfl ?_
        exact fun h => by obtain ⟨rfl, rfl⟩ := hT _ (D.some h); exact Rn.ret rfl rfl rfl
      · refine D.run 2 rfl ?_
        refine D.st rfl (by decide) (gf_1 h82_3) ?_
        refine D.run 1 rfl ?_
        refine D.br rfl (by decide) rfl (fun hc => ?_) (fun hc => ?_)
        · refine D.run 1 rfl ?_
          exact fun h => by obtain ⟨rfl, rfl⟩ := hT _ (D.some h); exact Rn.ret rfl rfl rfl
        · refine D.run 1 rfl ?_
          refine D.br rfl (by decide) rfl (fun hc => ?_) (fun hc => ?_)
          · refine D.run 1 rfl ?_
            exact fun h => by obtain ⟨rfl, rfl⟩ := hT _ (D.some h); exact Rn.ret rfl rfl rfl
          · refine D.run 2 rfl ?_
            refine D.br rfl (by decide) rfl (fun hc => ?_) (fun hc => ?_)
            · refine D.run 2 rfl ?_
              refine D.br rfl (by decide) rfl (fun hc => ?_) (fun hc => ?_)
              · refine D.run 3 rfl ?_
                refine D.gd fun hg => ?_
                refine D.st rfl (by decide) (al_i (by decide) (by first | rfl | decide) hg.1 hg.2) ?_
                exact fun h => by obtain ⟨rfl, rfl⟩ := hT _ (D.some h); exact Rn.ret rfl rfl rfl
              · refine D.run 1 rfl ?_
                refine D.st rfl (by decide) (gf_1 h82_3) ?_
                refine D.run 2 rfl ?_
                refine D.gd fun hg => ?_
                refine D.st rfl (by decide) (al_i (by decide) (by first | rfl | decide) hg.1 hg.2) ?_
                show _ → Rn E 272 (54, [.ref 82, .int a1, .int a2], [.int (I (85 + 14) a1.toNatClampNeg)], wT I R) o w
                refine D.run 1 rfl ?_
                refine D.br rfl (by decide) rfl (fun hc => ?_) (fun hc => ?_)
                · refine D.run 3 rfl ?_
                  refine D.gd fun hg => ?_
                  refine D.st rfl (by decide) (al_i (by decide) (by first | rfl | decide) hg.1 hg.2) ?_
                  refine D.run 3 rfl ?_
                  exact fun h => by obtain ⟨rfl, rfl⟩ := hT _ (D.some h); exact Rn.ret rfl rfl rfl
                · refine D.run 3 rfl ?_
                  refine D.gd fun hg => ?_
                  refine D.st rfl (by decide) (al_i (by decide) (by first | rfl | decide) hg.1 hg.2) ?_
                  exact fun h => by obtain ⟨rfl, rfl⟩ := hT _ (D.some h); exact Rn.ret rfl rfl rfl
            · refine D.run 1 rfl ?_
              exact fun h => by obtain ⟨rfl, rfl⟩ := hT _ (D.some h); exact Rn.ret rfl rfl rfl
  · refine D.run 2 rfl ?_
    refine D.br rfl (by decide) rfl (fun hc => ?_) (fun hc => ?_)
    · refine D.run 1 rfl ?_
      exact fun h => by obtain ⟨rfl, rfl⟩ := hT _ (D.some h); exact Rn.ret rfl rfl rfl
    · refine D.run 1 rfl ?_
      refine D.br rfl (by decide) rfl (fun hc => ?_) (fun hc => ?_)
      · refine D.run 1 rfl ?_
        exact fun h => by obtain ⟨rfl, rfl⟩ := hT _ (D.some h); exact Rn.ret rfl rfl rfl
      · refine D.run 2 rfl ?_
        refine D.st rfl (by decide) (gf_1 h82_3) ?_
        refine D.run 1 rfl ?_
        refine D.br rfl (by decide) rfl (fun hc => ?_) (fun hc => ?_)
        · refine D.run 1 rfl ?_
          exact fun h => by obtain ⟨rfl, rfl⟩ := hT _ (D.some h); exact Rn.ret rfl rfl rfl
        · refine D.run 1 rfl ?_
          refine D.br rfl (by decide) rfl (fun hc => ?_) (fun hc => ?_)
          · refine D.run 1 rfl ?_
            exact fun h => by obtain ⟨rfl, rfl⟩ := hT _ (D.some h); exact Rn.ret rfl rfl rfl
          · refine D.run 2 rfl ?_
            refine D.br rfl (by decide) rfl (fun hc => ?_) (fun hc => ?_)
            · refine D.run 2 rfl ?_
              refine D.br rfl (by decide) rfl (fun hc => ?_) (fun hc => ?_)
              · refine D.run 3 rfl ?_
                refine D.gd fun hg => ?_
                refine D.st rfl (by decide) (al_i (by decide) (by first | rfl | decide) hg.1 hg.2) ?_
                exact fun h => by obtain ⟨rfl, rfl⟩ := hT _ (D.some h); exact Rn.ret rfl rfl rfl
              · refine D.run 1 rfl ?_
                refine D.st rfl (by decide) (gf_1 h82_3) ?_
                refine D.run 2 rfl ?_
                refine D.gd fun hg => ?_
                refine D.st rfl (by decide) (al_i (by decide) (by first | rfl | decide) hg.1 hg.2) ?_
                show _ → Rn E 272 (54, [.ref 82, .int a1, .int a2], [.int (I (126 + 14) a1.toNatClampNeg)], wT I R) o w
                refine D.run 1 rfl ?_
                refine D.br rfl (by decide) rfl (fun hc => ?_) (fun hc => ?_)
                · refine D.run 3 rfl ?_
                  refine D.gd fun hg => ?_
                  refine D.st rfl (by decide) (al_i (by decide) (by first | rfl | decide) hg.1 hg.2) ?_
                  refine D.run 3 rfl ?_
                  exact fun h => by obtain ⟨rfl, rfl⟩ := hT _ (D.some h); exact Rn.ret rfl rfl rfl
                · refine D.run 3 rfl ?_
                  refine D.gd fun hg => ?_
                  refine D.st rfl (by decide) (al_i (by decide) (by first | rfl | decide) hg.1 hg.2) ?_
                  exact fun h => by obtain ⟨rfl, rfl⟩ := hT _ (D.some h); exact Rn.ret rfl rfl rfl
            · refine D.run 1 rfl ?_
              exact fun h => by obtain ⟨rfl, rfl⟩ := hT _ (D.some h); exact Rn.ret rfl rfl rfl
set_option maxRecDepth 20000 in
theorem x272_ok {E : Xe} {R : Nat → Nat → Option Nat} {Q : Nat} {I : St} (hQ : Q = 85 ∨ Q = 126) (h82_3 : R 82 3 = some Q) {a1 a2 : Int32} {q : Int32} (h : x272 Q I a1 a2 = some q) : Rn E 272 (0, loc0 272 [.ref 82, .int a1, .int a2], [], wT I R) (.returned (some (.int q))) (wT I R) := x272_D hQ h82_3 _ _ (T := fun r => r = q) (by rintro r rfl; exact ⟨rfl, rfl⟩) ⟨_, h, rfl⟩
/-- TaintHouseModel.type(II)I -/
def l273_22 (Q : Nat) (b1 : Int32) (b2 : Int32) : Nat → Int32 → Int32 → St → Option (Int32)
  | 0, _, _, _ => none
  | n + 1, b3, b4, I => if (I Q 8) ≤ b4 then some b3 else if inb b4 24 then if (I (Q + 15) b4.toNatClampNeg) = b1 then l273_22 Q b1 b2 n (b3 + 1) (b4 + 1) I else l273_22 Q b1 b2 n (b3 + 0) (b4 + 1) I else none
set_option maxRecDepth 20000 in
theorem l273_22_ok {E : Xe} {R : Nat → Nat → Option Nat} {Q : Nat} {I0 : St} {o : Outcome} {w : Wd} {T : (Int32) → Prop} {b1 : Int32} {b2 : Int32} (hQ : Q = 85 ∨ Q = 126) (h82_3 : R 82 3 = some Q) (K : ∀ (q : Int32) (e4 : Value) (_ : is1 e4 = true), T q → Rn E 273 (62, [.ref 82, .int b1, .int b2, .int q, e4], [], wT I0 R) o w) : ∀ (n : Nat) (b3 : Int32) (b4 : Int32), Dq (l273_22 Q b1 b2 n b3 b4 I0) T → Rn E 273 (22, [.ref 82, .int b1, .int b2, .int b3, .int b4], [], wT I0 R) o w := by
  rcases hQ with rfl | rfl
  · intro n
    induction n with
    | zero => intro b3 b4; exact D.none
    | succ n ih =>
      intro b3 b4
      rw [l273_22]
      refine D.run 2 rfl ?_
      refine D.st rfl (by decide) (gf_1 h82_3) ?_
      refine D.run 1 rfl ?_
      refine D.br rfl (by decide) rfl (fun hc => ?_) (fun hc => ?_)
      · exact fun h => D.to h (K _ _ (by first | rfl | assumption))
      · refine D.run 2 rfl ?_
        refine D.st rfl (by decide) (gf_1 h82_3) ?_
        refine D.run 2 rfl ?_
        refine D.gd fun hg => ?_
        refine D.st rfl (by decide) (al_i (by decide) (by first | rfl | decide) hg.1 hg.2) ?_
        show _ → Rn E 273 (45, [.ref 82, .int b1, .int b2, .int b3, .int b4], [.int (I0 (85 + 15) b4.toNatClampNeg), .int b3], wT I0 R) o w
        refine D.run 1 rfl ?_
        refine D.br rfl (by decide) rfl (fun hc => ?_) (fun hc => ?_)
        · refine D.run 6 rfl ?_
          exact ih _ _  
        · refine D.run 5 rfl ?_
          exact ih _ _  
  · intro n
    induction n with
    | zero => intro b3 b4; exact D.none
    | succ n ih =>
      intro b3 b4
      rw [l273_22]
      refine D.run 2 rfl ?_
      refine D.st rfl (by decide) (gf_1 h82_3) ?_
      refine D.run 1 rfl ?_
      refine D.br rfl (by decide) rfl (fun hc => ?_) (fun hc => ?_)
      · exact fun h => D.to h (K _ _ (by first | rfl | assumption))
      · refine D.run 2 rfl ?_
        refine D.st rfl (by decide) (gf_1 h82_3) ?_
        refine D.run 2 rfl ?_
        refine D.gd fun hg => ?_
        refine D.st rfl (by decide) (al_i (by decide) (by first | rfl | decide) hg.1 hg.2) ?_
        show _ → Rn E 273 (45, [.ref 82, .int b1, .int b2, .int b3, .int b4], [.int (I0 (126 + 15) b4.toNatClampNeg), .int b3], wT I0 R) o w
        refine D.run 1 rfl ?_
        refine D.br rfl (by decide) rfl (fun hc => ?_) (fun hc => ?_)
        · refine D.run 6 rfl ?_
          exact ih _ _  
        · refine D.run 5 rfl ?_
          exact ih _ _  
def x273 (Q : Nat) (I : St) (a1 a2 : Int32) : Option (Int32) := if a1 < 0 then some (-1) else if a1 < (I Q 5) then (l273_22 Q a1 a2 100000 0 0 I).bind fun q1 => if a2 = 0 then if inb a1 19 then some (I (Q + 8) a1.toNatClampNeg) else none else if a2 = 1 then (x252 Q I a1).bind fun q3 => some q3 else if a2 = 2 then some q1 else some (-1) else some (-1)
set_option maxRecDepth 20000 in
theorem x273_D {E : Xe} {R : Nat → Nat → Option Nat} {Q : Nat} {o : Outcome} {w : Wd} {T : (Int32) → Prop} {I : St} (hQ : Q = 85 ∨ Q = 126) (h82_3 : R 82 3 = some Q) (a1 a2 : Int32) (hT : ∀ r, T r → o = .returned (some (.int r)) ∧ w = wT I R) : Dq (x273 Q I a1 a2) T → Rn E 273 (0, loc0 273 [.ref 82, .int a1, .int a2], [], wT I R) o w := by
  unfold x273
  rcases hQ with rfl | rfl
  · refine D.run 1 rfl ?_
    refine D.br rfl (by decide) rfl (fun hc => ?_) (fun hc => ?_)
    · refine D.run 1 rfl ?_
      exact fun h => by obtain ⟨rfl, rfl⟩ := hT _ (D.some h); exact Rn.ret rfl rfl rfl
    · refine D.run 2 rfl ?_
      refine D.st rfl (by decide) (gf_1 h82_3) ?_
      refine D.run 1 rfl ?_
      refine D.br rfl (by decide) rfl (fun hc => ?_) (fun hc => ?_)
      · refine D.run 4 rfl ?_
        refine D.bind (l273_22_ok (by decide) h82_3 (fun q1 e2 he2 => ?_) 100000 _ _   )
        refine D.run 1 rfl ?_
        refine D.br rfl (by decide) rfl (fun hc => ?_) (fun hc => ?_)
        · refine D.run 1 rfl ?_
          refine D.st rfl (by decide) (gf_1 h82_3) ?_
          refine D.run 2 rfl ?_
          refine D.gd fun hg => ?_
          refine D.st rfl (by decide) (al_i (by decide) (by first | rfl | decide) hg.1 hg.2) ?_
          show _ → Rn E 273 (75, [.ref 82, .int a1, .int a2, .int q1, e2], [.int (I (85 + 8) a1.toNatClampNeg)], wT I R) o w
          refine D.run 1 rfl ?_
          exact fun h => by obtain ⟨rfl, rfl⟩ := hT _ (D.some h); exact Rn.ret rfl rfl rfl
        · refine D.run 2 rfl ?_
          refine D.br rfl (by decide) rfl (fun hc => ?_) (fun hc => ?_)
          · refine D.run 2 rfl ?_
            refine D.call rfl rfl rfl rfl (fun q h => x252_ok (by decide) h82_3 h) (fun q3 => ?_)
            refine D.run 1 rfl ?_
            exact fun h => by obtain ⟨rfl, rfl⟩ := hT _ (D.some h); exact Rn.ret rfl rfl rfl
          · refine D.run 2 rfl ?_
            refine D.br rfl (by decide) rfl (fun hc => ?_) (fun hc => ?_)
            · refine D.run 2 rfl ?_
              exact fun h => by obtain ⟨rfl, rfl⟩ := hT _ (D.some h); exact Rn.ret rfl rfl rfl
            · refine D.run 1 rfl ?_
              exact fun h => by obtain ⟨rfl, rfl⟩ := hT _ (D.some h); exact Rn.ret rfl rfl rfl
      · refine D.run 1 rfl ?_
        exact fun h => by obtain ⟨rfl, rfl⟩ := hT _ (D.some h); exact Rn.ret rfl rfl rfl
  · refine D.run 1 rfl ?_
    refine D.br rfl (by decide) rfl (fun hc => ?_) (fun hc => ?_)
    · refine D.run 1 rfl ?_
      exact fun h => by obtain ⟨rfl, rfl⟩ := hT _ (D.some h); exact Rn.ret rfl rfl rfl
    · refine D.run 2 rfl ?_
      refine D.st rfl (by decide) (gf_1 h82_3) ?_
      refine D.run 1 rfl ?_
      refine D.br rfl (by decide) rfl (fun hc => ?_) (fun hc => ?_)
      · refine D.run 4 rfl ?_
        refine D.bind (l273_22_ok (by decide) h82_3 (fun q1 e2 he2 => ?_) 100000 _ _   )
        refine D.run 1 rfl ?_
        refine D.br rfl (by decide) rfl (fun hc => ?_) (fun hc => ?_)
        · refine D.run 1 rfl ?_
          refine D.st rfl (by decide) (gf_1 h82_3) ?_
          refine D.run 2 rfl ?_
          refine D.gd fun hg => ?_
          refine D.st rfl (by decide) (al_i (by decide) (by first | rfl | decide) hg.1 hg.2) ?_
          show _ → Rn E 273 (75, [.ref 82, .int a1, .int a2, .int q1, e2], [.int (I (126 + 8) a1.toNatClampNeg)], wT I R) o w
          refine D.run 1 rfl ?_
          exact fun h => by obtain ⟨rfl, rfl⟩ := hT _ (D.some h); exact Rn.ret rfl rfl rfl
        · refine D.run 2 rfl ?_
          refine D.br rfl (by decide) rfl (fun hc => ?_) (fun hc => ?_)
          · refine D.run 2 rfl ?_
            refine D.call rfl rfl rfl rfl (fun q h => x252_ok (by decide) h82_3 h) (fun q3 => ?_)
            refine D.run 1 rfl ?_
            exact fun h => by obtain ⟨rfl, rfl⟩ := hT _ (D.some h); exact Rn.ret rfl rfl rfl
          · refine D.run 2 rfl ?_
            refine D.br rfl (by decide) rfl (fun hc => ?_) (fun hc => ?_)
            · refine D.run 2 rfl ?_
              exact fun h => by obtain ⟨rfl, rfl⟩ := hT _ (D.some h); exact Rn.ret rfl rfl rfl
            · refine D.run 1 rfl ?_
              exact fun h => by obtain ⟨rfl, rfl⟩ := hT _ (D.some h); exact Rn.ret rfl rfl rfl
      · refine D.run 1 rfl ?_
        exact fun h => by obtain ⟨rfl, rfl⟩ := hT _ (D.some h); exact Rn.ret rfl rfl rfl
set_option maxRecDepth 20000 in
theorem x273_ok {E : Xe} {R : Nat → Nat → Option Nat} {Q : Nat} {I : St} (hQ : Q = 85 ∨ Q = 126) (h82_3 : R 82 3 = some Q) {a1 a2 : Int32} {q : Int32} (h : x273 Q I a1 a2 = some q) : Rn E 273 (0, loc0 273 [.ref 82, .int a1, .int a2], [], wT I R) (.returned (some (.int q))) (wT I R) := x273_D hQ h82_3 _ _ (T := fun r => r = q) (by rintro r rfl; exact ⟨rfl, rfl⟩) ⟨_, h, rfl⟩
/-- TaintHouseModel.method(II)I -/
def x274 (Q : Nat) (I : St) (a1 a2 : Int32) : Option (Int32) := if a1 < 0 then some (-1) else if a1 < (I Q 8) then if a2 = 0 then if inb a1 24 then some (I (Q + 15) a1.toNatClampNeg) else none else if a2 = 1 then if inb a1 24 then some (I (Q + 18) a1.toNatClampNeg) else none else if a2 = 2 then if inb a1 24 then some (I (Q + 20) a1.toNatClampNeg) else none else if a2 = 3 then if inb a1 24 then if (I (Q + 25) a1.toNatClampNeg) = 0 then some 0 else some 1 else none else if a2 = 4 then if inb a1 24 then some (I (Q + 22) a1.toNatClampNeg) else none else if a2 = 5 then if inb a1 24 then some (I (Q + 24) a1.toNatClampNeg) else none else some (-1) else some (-1)
set_option maxRecDepth 20000 in
theorem x274_D {E : Xe} {R : Nat → Nat → Option Nat} {Q : Nat} {o : Outcome} {w : Wd} {T : (Int32) → Prop} {I : St} (hQ : Q = 85 ∨ Q = 126) (h82_3 : R 82 3 = some Q) (a1 a2 : Int32) (hT : ∀ r, T r → o = .returned (some (.int r)) ∧ w = wT I R) : Dq (x274 Q I a1 a2) T → Rn E 274 (0, loc0 274 [.ref 82, .int a1, .int a2], [], wT I R) o w := by
  unfold x274
  rcases hQ with rfl | rfl
  · refine D.run 1 rfl ?_
    refine D.br rfl (by decide) rfl (fun hc => ?_) (fun hc => ?_)
    · refine D.run 1 rfl ?_
      exact fun h => by obtain ⟨rfl, rfl⟩ := hT _ (D.some h); exact Rn.ret rfl rfl rfl
    · refine D.run 2 rfl ?_
      refine D.st rfl (by decide) (gf_1 h82_3) ?_
      refine D.run 1 rfl ?_
      refine D.br rfl (by decide) rfl (fun hc => ?_) (fun hc => ?_)
      · refine D.run 1 rfl ?_
        refine D.sw rfl (by decide) rfl ?_
        show _ → Rn E 274 (swT [(0, 56), (1, 66), (2, 76), (3, 86), (4, 104), (5, 114)] 124 _, _, _, _) _ _
        refine D.swc (fun hc => ?_) (fun hc => ?_)
        · refine D.run 1 rfl ?_
          refine D.st rfl (by decide) (gf_1 h82_3) ?_
          refine D.run 2 rfl ?_
          refine D.gd fun hg => ?_
          refine D.st rfl (by decide) (al_i (by decide) (by first | rfl | decide) hg.1 hg.2) ?_
          show _ → Rn E 274 (65, [.ref 82, .int a1, .int a2], [.int (I (85 + 15) a1.toNatClampNeg)], wT I R) o w
          exact fun h => by obtain ⟨rfl, rfl⟩ := hT _ (D.some h); exact Rn.ret rfl rfl rfl
        · refine D.swc (fun hc => ?_) (fun hc => ?_)
          · refine D.run 1 rfl ?_
            refine D.st rfl (by decide) (gf_1 h82_3) ?_
            refine D.run 2 rfl ?_
            refine D.gd fun hg => ?_
            refine D.st rfl (by decide) (al_i (by decide) (by first | rfl | decide) hg.1 hg.2) ?_
            show _ → Rn E 274 (75, [.ref 82, .int a1, .int a2], [.int (I (85 + 18) a1.toNatClampNeg)], wT I R) o w
            exact fun h => by obtain ⟨rfl, rfl⟩ := hT _ (D.some h); exact Rn.ret rfl rfl rfl
          · refine D.swc (fun hc => ?_) (fun hc => ?_)
            · refine D.run 1 rfl ?_
              refine D.st rfl (by decide) (gf_1 h82_3) ?_
              refine D.run 2 rfl ?_
              refine D.gd fun hg => ?_
              refine D.st rfl (by decide) (al_i (by decide) (by first | rfl | decide) hg.1 hg.2) ?_
              show _ → Rn E 274 (85, [.ref 82, .int a1, .int a2], [.int (I (85 + 20) a1.toNatClampNeg)], wT I R) o w
              exact fun h => by obtain ⟨rfl, rfl⟩ := hT _ (D.some h); exact Rn.ret rfl rfl rfl
            · refine D.swc (fun hc => ?_) (fun hc => ?_)
              · refine D.run 1 rfl ?_
                refine D.st rfl (by decide) (gf_1 h82_3) ?_
                refine D.run 2 rfl ?_
                refine D.gd fun hg => ?_
                refine D.st rfl (by decide) (al_b (by decide) (by first | rfl | decide) hg.1 hg.2) ?_
                show _ → Rn E 274 (95, [.ref 82, .int a1, .int a2], [.int (I (85 + 25) a1.toNatClampNeg)], wT I R) o w
                refine D.br rfl (by decide) rfl (fun hc => ?_) (fun hc => ?_)
                · refine D.run 1 rfl ?_
                  exact fun h => by obtain ⟨rfl, rfl⟩ := hT _ (D.some h); exact Rn.ret rfl rfl rfl
                · refine D.run 2 rfl ?_
                  exact fun h => by obtain ⟨rfl, rfl⟩ := hT _ (D.some h); exact Rn.ret rfl rfl rfl
              · refine D.swc (fun hc => ?_) (fun hc => ?_)
                · refine D.run 1 rfl ?_
                  refine D.st rfl (by decide) (gf_1 h82_3) ?_
                  refine D.run 2 rfl ?_
                  refine D.gd fun hg => ?_
                  refine D.st rfl (by decide) (al_i (by decide) (by first | rfl | decide) hg.1 hg.2) ?_
                  show _ → Rn E 274 (113, [.ref 82, .int a1, .int a2], [.int (I (85 + 22) a1.toNatClampNeg)], wT I R) o w
                  exact fun h => by obtain ⟨rfl, rfl⟩ := hT _ (D.some h); exact Rn.ret rfl rfl rfl
                · refine D.swc (fun hc => ?_) (fun hc => ?_)
                  · refine D.run 1 rfl ?_
                    refine D.st rfl (by decide) (gf_1 h82_3) ?_
                    refine D.run 2 rfl ?_
                    refine D.gd fun hg => ?_
                    refine D.st rfl (by decide) (al_i (by decide) (by first | rfl | decide) hg.1 hg.2) ?_
                    show _ → Rn E 274 (123, [.ref 82, .int a1, .int a2], [.int (I (85 + 24) a1.toNatClampNeg)], wT I R) o w
                    exact fun h => by obtain ⟨rfl, rfl⟩ := hT _ (D.some h); exact Rn.ret rfl rfl rfl
                  · refine D.run 1 rfl ?_
                    exact fun h => by obtain ⟨rfl, rfl⟩ := hT _ (D.some h); exact Rn.ret rfl rfl rfl
      · refine D.run 1 rfl ?_
        exact fun h => by obtain ⟨rfl, rfl⟩ := hT _ (D.some h); exact Rn.ret rfl rfl rfl
  · refine D.run 1 rfl ?_
    refine D.br rfl (by decide) rfl (fun hc => ?_) (fun hc => ?_)
    · refine D.run 1 rfl ?_
      exact fun h => by obtain ⟨rfl, rfl⟩ := hT _ (D.some h); exact Rn.ret rfl rfl rfl
    · refine D.run 2 rfl ?_
      refine D.st rfl (by decide) (gf_1 h82_3) ?_
      refine D.run 1 rfl ?_
      refine D.br rfl (by decide) rfl (fun hc => ?_) (fun hc => ?_)
      · refine D.run 1 rfl ?_
        refine D.sw rfl (by decide) rfl ?_
        show _ → Rn E 274 (swT [(0, 56), (1, 66), (2, 76), (3, 86), (4, 104), (5, 114)] 124 _, _, _, _) _ _
        refine D.swc (fun hc => ?_) (fun hc => ?_)
        · refine D.run 1 rfl ?_
          refine D.st rfl (by decide) (gf_1 h82_3) ?_
          refine D.run 2 rfl ?_
          refine D.gd fun hg => ?_
          refine D.st rfl (by decide) (al_i (by decide) (by first | rfl | decide) hg.1 hg.2) ?_
          show _ → Rn E 274 (65, [.ref 82, .int a1, .int a2], [.int (I (126 + 15) a1.toNatClampNeg)], wT I R) o w
          exact fun h => by obtain ⟨rfl, rfl⟩ := hT _ (D.some h); exact Rn.ret rfl rfl rfl
        · refine D.swc (fun hc => ?_) (fun hc => ?_)
          · refine D.run 1 rfl ?_
            refine D.st rfl (by decide) (gf_1 h82_3) ?_
            refine D.run 2 rfl ?_
            refine D.gd fun hg => ?_
            refine D.st rfl (by decide) (al_i (by decide) (by first | rfl | decide) hg.1 hg.2) ?_
            show _ → Rn E 274 (75, [.ref 82, .int a1, .int a2], [.int (I (126 + 18) a1.toNatClampNeg)], wT I R) o w
            exact fun h => by obtain ⟨rfl, rfl⟩ := hT _ (D.some h); exact Rn.ret rfl rfl rfl
          · refine D.swc (fun hc => ?_) (fun hc => ?_)
            · refine D.run 1 rfl ?_
              refine D.st rfl (by decide) (gf_1 h82_3) ?_
              refine D.run 2 rfl ?_
              refine D.gd fun hg => ?_
              refine D.st rfl (by decide) (al_i (by decide) (by first | rfl | decide) hg.1 hg.2) ?_
              show _ → Rn E 274 (85, [.ref 82, .int a1, .int a2], [.int (I (126 + 20) a1.toNatClampNeg)], wT I R) o w
              exact fun h => by obtain ⟨rfl, rfl⟩ := hT _ (D.some h); exact Rn.ret rfl rfl rfl
            · refine D.swc (fun hc => ?_) (fun hc => ?_)
              · refine D.run 1 rfl ?_
                refine D.st rfl (by decide) (gf_1 h82_3) ?_
                refine D.run 2 rfl ?_
                refine D.gd fun hg => ?_
                refine D.st rfl (by decide) (al_b (by decide) (by first | rfl | decide) hg.1 hg.2) ?_
                show _ → Rn E 274 (95, [.ref 82, .int a1, .int a2], [.int (I (126 + 25) a1.toNatClampNeg)], wT I R) o w
                refine D.br rfl (by decide) rfl (fun hc => ?_) (fun hc => ?_)
                · refine D.run 1 rfl ?_
                  exact fun h => by obtain ⟨rfl, rfl⟩ := hT _ (D.some h); exact Rn.ret rfl rfl rfl
                · refine D.run 2 rfl ?_
                  exact fun h => by obtain ⟨rfl, rfl⟩ := hT _ (D.some h); exact Rn.ret rfl rfl rfl
              · refine D.swc (fun hc => ?_) (fun hc => ?_)
                · refine D.run 1 rfl ?_
                  refine D.st rfl (by decide) (gf_1 h82_3) ?_
                  refine D.run 2 rfl ?_
                  refine D.gd fun hg => ?_
                  refine D.st rfl (by decide) (al_i (by decide) (by first | rfl | decide) hg.1 hg.2) ?_
                  show _ → Rn E 274 (113, [.ref 82, .int a1, .int a2], [.int (I (126 + 22) a1.toNatClampNeg)], wT I R) o w
                  exact fun h => by obtain ⟨rfl, rfl⟩ := hT _ (D.some h); exact Rn.ret rfl rfl rfl
                · refine D.swc (fun hc => ?_) (fun hc => ?_)
                  · refine D.run 1 rfl ?_
                    refine D.st rfl (by decide) (gf_1 h82_3) ?_
                    refine D.run 2 rfl ?_
                    refine D.gd fun hg => ?_
                    refine D.st rfl (by decide) (al_i (by decide) (by first | rfl | decide) hg.1 hg.2) ?_
                    show _ → Rn E 274 (123, [.ref 82, .int a1, .int a2], [.int (I (126 + 24) a1.toNatClampNeg)], wT I R) o w
                    exact fun h => by obtain ⟨rfl, rfl⟩ := hT _ (D.some h); exact Rn.ret rfl rfl rfl
                  · refine D.run 1 rfl ?_
                    exact fun h => by obtain ⟨rfl, rfl⟩ := hT _ (D.some h); exact Rn.ret rfl rfl rfl
      · refine D.run 1 rfl ?_
        exact fun h => by obtain ⟨rfl, rfl⟩ := hT _ (D.some h); exact Rn.ret rfl rfl rfl
set_option maxRecDepth 20000 in
theorem x274_ok {E : Xe} {R : Nat → Nat → Option Nat} {Q : Nat} {I : St} (hQ : Q = 85 ∨ Q = 126) (h82_3 : R 82 3 = some Q) {a1 a2 : Int32} {q : Int32} (h : x274 Q I a1 a2 = some q) : Rn E 274 (0, loc0 274 [.ref 82, .int a1, .int a2], [], wT I R) (.returned (some (.int q))) (wT I R) := x274_D hQ h82_3 _ _ (T := fun r => r = q) (by rintro r rfl; exact ⟨rfl, rfl⟩) ⟨_, h, rfl⟩
/-- TaintHouseModel.count(I)I -/
def x275 (Q : Nat) (I : St) (a1 : Int32) : Int32 := if a1 = 0 then (I Q 5) else if a1 = 1 then (I Q 8) else if a1 = 2 then (I Q 6) else if a1 = 3 then (I 82 6) else if a1 = 4 then (I 82 1) else (-1)
set_option maxRecDepth 20000 in
theorem x275_ok {E : Xe} {R : Nat → Nat → Option Nat} {Q : Nat} {I : St} (hQ : Q = 85 ∨ Q = 126) (h82_3 : R 82 3 = some Q) (a1 : Int32) : Rn E 275 (0, loc0 275 [.ref 82, .int a1], [], wT I R) (.returned (some (.int (x275 Q I a1)))) (wT I R) := by
  have H : ∀ (o : Outcome) (w : Wd) (T : Int32 → Prop), (∀ r, T r → o = .returned (some (.int r)) ∧ w = wT I R) → Dq (some (x275 Q I a1)) T → Rn E 275 (0, loc0 275 [.ref 82, .int a1], [], wT I R) o w := by
    intro o w T hT
    unfold x275
    rcases hQ with rfl | rfl
    all_goals
      refine D.run 1 rfl ?_
      refine D.sw rfl (by decide) rfl ?_
      show _ → Rn E 275 (swT [(0, 36), (1, 44), (2, 52), (3, 60), (4, 65)] 70 _, _, _, _) _ _
      refine D.swcp (fun hc => ?_) (fun hc => ?_)
      · refine D.run 1 rfl ?_
        refine D.st rfl (by decide) (gf_1 h82_3) ?_
        refine D.run 1 rfl ?_
        exact fun h => by obtain ⟨rfl, rfl⟩ := hT _ (D.some h); exact Rn.ret rfl rfl rfl
      · refine D.swcp (fun hc => ?_) (fun hc => ?_)
        · refine D.run 1 rfl ?_
          refine D.st rfl (by decide) (gf_1 h82_3) ?_
          refine D.run 1 rfl ?_
          exact fun h => by obtain ⟨rfl, rfl⟩ := hT _ (D.some h); exact Rn.ret rfl rfl rfl
        · refine D.swcp (fun hc => ?_) (fun hc => ?_)
          · refine D.run 1 rfl ?_
            refine D.st rfl (by decide) (gf_1 h82_3) ?_
            refine D.run 1 rfl ?_
            exact fun h => by obtain ⟨rfl, rfl⟩ := hT _ (D.some h); exact Rn.ret rfl rfl rfl
          · refine D.swcp (fun hc => ?_) (fun hc => ?_)
            · refine D.run 2 rfl ?_
              exact fun h => by obtain ⟨rfl, rfl⟩ := hT _ (D.some h); exact Rn.ret rfl rfl rfl
            · refine D.swcp (fun hc => ?_) (fun hc => ?_)
              · refine D.run 2 rfl ?_
                exact fun h => by obtain ⟨rfl, rfl⟩ := hT _ (D.some h); exact Rn.ret rfl rfl rfl
              · refine D.run 1 rfl ?_
                exact fun h => by obtain ⟨rfl, rfl⟩ := hT _ (D.some h); exact Rn.ret rfl rfl rfl
  exact H _ _ (fun r => r = x275 Q I a1) (by rintro r rfl; exact ⟨rfl, rfl⟩) ⟨_, rfl, rfl⟩
/-- TaintHouse$Program.reset()V -/
def l4_50 (P : Nat) : Nat → Int32 → St → Option (St)
  | 0, _, _ => none
  | n + 1, b1, I => if 7 ≤ b1 then some I else (x6 P I (68 + b1)).bind fun q2 => (if b1 = 0 then some (-1) else if b1 = 1 then some 0 else some 1).bind fun (q3 : Int32) => l4_50 P n (b1 + 1) (tset q2.2 (P + 1) b1 0 q3)
set_option maxRecDepth 20000 in
theorem l4_50_ok {E : Xe} {R : Nat → Nat → Option Nat} {P : Nat} {o : Outcome} {w : Wd} {T : (St) → Prop} (hP : P = 3 ∨ P = 18) (K : ∀ (q : St) (e1 : Value) (_ : is1 e1 = true), T q → Rn E 4 (98, [.ref P, e1], [], wT q R) o w) : ∀ (n : Nat) (b1 : Int32) (I : St), Dq (l4_50 P n b1 I) T → Rn E 4 (50, [.ref P, .int b1], [], wT I R) o w := by
  rcases hP with rfl | rfl
  · intro n
    induction n with
    | zero => intro b1 I; exact D.none
    | succ n ih =>
      intro b1 I
      rw [l4_50]
      refine D.run 2 rfl ?_
      refine D.br rfl (by decide) rfl (fun hc => ?_) (fun hc => ?_)
      · exact fun h => D.to h (K _ _ (by first | rfl | assumption))
      · refine D.run 4 rfl ?_
        refine D.call rfl rfl rfl rfl (fun q h => x6_ok (by decide) h) (fun q2 => ?_)
        refine D.run 6 rfl ?_
        have Kj89 : ∀ (q3 : Int32), Dq (l4_50 3 n (b1 + 1) (tset q2.2 (3 + 1) b1 0 q3)) T → Rn E 4 (89, [.ref 3, .int b1], [.int q3, .int 0, .int b1, .ref (3 + 1)], wT q2.2 R) o w := by
          intro q3
          refine D.ce rfl rfl rfl rfl (tset_ok (by decide) (by first | rfl | decide) _ _ _) ?_
          refine D.run 2 rfl ?_
          exact ih _ _ 
        refine D.jn (fun T89 c89 => ?_)
        refine D.br rfl (by decide) rfl (fun hc => ?_) (fun hc => ?_)
        · refine D.run 2 rfl ?_
          exact fun h => Kj89 _   (c89 _ (D.some h))
        · refine D.run 2 rfl ?_
          refine D.br rfl (by decide) rfl (fun hc => ?_) (fun hc => ?_)
          · refine D.run 2 rfl ?_
            exact fun h => Kj89 _   (c89 _ (D.some h))
          · refine D.run 1 rfl ?_
            exact fun h => Kj89 _   (c89 _ (D.some h))
  · intro n
    induction n with
    | zero => intro b1 I; exact D.none
    | succ n ih =>
      intro b1 I
      rw [l4_50]
      refine D.run 2 rfl ?_
      refine D.br rfl (by decide) rfl (fun hc => ?_) (fun hc => ?_)
      · exact fun h => D.to h (K _ _ (by first | rfl | assumption))
      · refine D.run 4 rfl ?_
        refine D.call rfl rfl rfl rfl (fun q h => x6_ok (by decide) h) (fun q2 => ?_)
        refine D.run 6 rfl ?_
        have Kj89 : ∀ (q3 : Int32), Dq (l4_50 18 n (b1 + 1) (tset q2.2 (18 + 1) b1 0 q3)) T → Rn E 4 (89, [.ref 18, .int b1], [.int q3, .int 0, .int b1, .ref (18 + 1)], wT q2.2 R) o w := by
          intro q3
          refine D.ce rfl rfl rfl rfl (tset_ok (by decide) (by first | rfl | decide) _ _ _) ?_
          refine D.run 2 rfl ?_
          exact ih _ _ 
        refine D.jn (fun T89 c89 => ?_)
        refine D.br rfl (by decide) rfl (fun hc => ?_) (fun hc => ?_)
        · refine D.run 2 rfl ?_
          exact fun h => Kj89 _   (c89 _ (D.some h))
        · refine D.run 2 rfl ?_
          refine D.br rfl (by decide) rfl (fun hc => ?_) (fun hc => ?_)
          · refine D.run 2 rfl ?_
            exact fun h => Kj89 _   (c89 _ (D.some h))
          · refine D.run 1 rfl ?_
            exact fun h => Kj89 _   (c89 _ (D.some h))
def x4 (P : Nat) (I : St) : Option (St) := Lt (tresize (tresize (tresize (tresize (tresize I (P + 3) 0) (P + 5) 0) (P + 7) 0) (P + 9) 0) (P + 11) 0) fun J1 => (l4_50 P 100000 0 (tresize J1 (P + 1) 0)).bind fun q4 => some q4
set_option maxRecDepth 20000 in
theorem x4_D {E : Xe} {R : Nat → Nat → Option Nat} {P : Nat} {o : Outcome} {w : Wd} {T : (St) → Prop} {I : St} (hP : P = 3 ∨ P = 18) (hT : ∀ r, T r → o = .returned none ∧ w = wT r R) : Dq (x4 P I) T → Rn E 4 (0, loc0 4 [.ref P], [], wT I R) o w := by
  unfold x4
  rcases hP with rfl | rfl
  · refine D.run 3 rfl ?_
    refine D.ce rfl rfl rfl rfl (tresize_ok (by decide) (by first | rfl | decide) _) ?_
    refine D.run 3 rfl ?_
    refine D.ce rfl rfl rfl rfl (tresize_ok (by decide) (by first | rfl | decide) _) ?_
    refine D.run 3 rfl ?_
    refine D.ce rfl rfl rfl rfl (tresize_ok (by decide) (by first | rfl | decide) _) ?_
    show _ → Rn E 4 (24, [.ref 3, us], [], wT (tresize (tresize (tresize I (3 + 3) 0) (3 + 5) 0) (3 + 7) 0) R) o w
    refine D.run 3 rfl ?_
    refine D.ce rfl rfl rfl rfl (tresize_ok (by decide) (by first | rfl | decide) _) ?_
    refine D.run 3 rfl ?_
    refine D.ce rfl rfl rfl rfl (tresize_ok (by decide) (by first | rfl | decide) _) ?_
    refine D.letS (fun J1 => ?_)
    show _ → Rn E 4 (40, [.ref 3, us], [], wT J1 R) o w
    refine D.run 3 rfl ?_
    refine D.ce rfl rfl rfl rfl (tresize_ok (by decide) (by first | rfl | decide) _) ?_
    refine D.run 2 rfl ?_
    refine D.bind (l4_50_ok (by decide) (fun q4 e5 he5 => ?_) 100000 _  _ )
    exact fun h => by obtain ⟨rfl, rfl⟩ := hT _ (D.some h); exact Rn.ret rfl rfl rfl
  · refine D.run 3 rfl ?_
    refine D.ce rfl rfl rfl rfl (tresize_ok (by decide) (by first | rfl | decide) _) ?_
    refine D.run 3 rfl ?_
    refine D.ce rfl rfl rfl rfl (tresize_ok (by decide) (by first | rfl | decide) _) ?_
    refine D.run 3 rfl ?_
    refine D.ce rfl rfl rfl rfl (tresize_ok (by decide) (by first | rfl | decide) _) ?_
    show _ → Rn E 4 (24, [.ref 18, us], [], wT (tresize (tresize (tresize I (18 + 3) 0) (18 + 5) 0) (18 + 7) 0) R) o w
    refine D.run 3 rfl ?_
    refine D.ce rfl rfl rfl rfl (tresize_ok (by decide) (by first | rfl | decide) _) ?_
    refine D.run 3 rfl ?_
    refine D.ce rfl rfl rfl rfl (tresize_ok (by decide) (by first | rfl | decide) _) ?_
    refine D.letS (fun J1 => ?_)
    show _ → Rn E 4 (40, [.ref 18, us], [], wT J1 R) o w
    refine D.run 3 rfl ?_
    refine D.ce rfl rfl rfl rfl (tresize_ok (by decide) (by first | rfl | decide) _) ?_
    refine D.run 2 rfl ?_
    refine D.bind (l4_50_ok (by decide) (fun q4 e5 he5 => ?_) 100000 _  _ )
    exact fun h => by obtain ⟨rfl, rfl⟩ := hT _ (D.some h); exact Rn.ret rfl rfl rfl
set_option maxRecDepth 20000 in
theorem x4_ok {E : Xe} {R : Nat → Nat → Option Nat} {P : Nat} {I : St} (hP : P = 3 ∨ P = 18) {q : St} (h : x4 P I = some q) : Rn E 4 (0, loc0 4 [.ref P], [], wT I R) (.returned none) (wT q R) := x4_D hP (T := fun r => r = q) (by rintro r rfl; exact ⟨rfl, rfl⟩) ⟨_, h, rfl⟩
/-- TaintHouse.feed(IIIII)Z -/
def x21 (I : St) (a1 a2 a3 a4 a5 : Int32) : Option (Int32 × St) := if ((I 1 3) + 20) ≤ 4000 then (x22 I a1).bind fun q1 => (x22 q1 a2).bind fun q2 => (x22 q2 a3).bind fun q3 => (x22 q3 a4).bind fun q4 => (x22 q4 a5).bind fun q5 => some (1, q5) else some (0, I)
set_option maxRecDepth 20000 in
theorem x21_D {E : Xe} {R : Nat → Nat → Option Nat} {o : Outcome} {w : Wd} {T : (Int32 × St) → Prop} {I : St} (a1 a2 a3 a4 a5 : Int32) (hT : ∀ r, T r → o = .returned (some (.int r.1)) ∧ w = wT r.2 R) : Dq (x21 I a1 a2 a3 a4 a5) T → Rn E 21 (0, loc0 21 [.ref 0, .int a1, .int a2, .int a3, .int a4, .int a5], [], wT I R) o w := by
  unfold x21
  refine D.run 2 rfl ?_
  refine D.ce rfl rfl rfl rfl (tsize_ok (by decide) (by first | rfl | decide)) ?_
  refine D.run 3 rfl ?_
  refine D.br rfl (by decide) rfl (fun hc => ?_) (fun hc => ?_)
  · refine D.run 2 rfl ?_
    refine D.call rfl rfl rfl rfl (fun q h => x22_ok h) (fun q1 => ?_)
    refine D.run 2 rfl ?_
    refine D.call rfl rfl rfl rfl (fun q h => x22_ok h) (fun q2 => ?_)
    refine D.run 2 rfl ?_
    refine D.call rfl rfl rfl rfl (fun q h => x22_ok h) (fun q3 => ?_)
    show _ → Rn E 21 (33, [.ref 0, .int a1, .int a2, .int a3, .int a4, .int a5], [], wT q3 R) o w
    refine D.run 2 rfl ?_
    refine D.call rfl rfl rfl rfl (fun q h => x22_ok h) (fun q4 => ?_)
    refine D.run 2 rfl ?_
    refine D.call rfl rfl rfl rfl (fun q h => x22_ok h) (fun q5 => ?_)
    refine D.run 1 rfl ?_
    exact fun h => by obtain ⟨rfl, rfl⟩ := hT _ (D.some h); exact Rn.ret rfl rfl (by first | rfl | (simp [rt1, rt]; done) | decide)
  · refine D.run 1 rfl ?_
    exact fun h => by obtain ⟨rfl, rfl⟩ := hT _ (D.some h); exact Rn.ret rfl rfl (by first | rfl | (simp [rt1, rt]; done) | decide)
set_option maxRecDepth 20000 in
theorem x21_ok {E : Xe} {R : Nat → Nat → Option Nat} {I : St} {a1 a2 a3 a4 a5 : Int32} {q : Int32 × St} (h : x21 I a1 a2 a3 a4 a5 = some q) : Rn E 21 (0, loc0 21 [.ref 0, .int a1, .int a2, .int a3, .int a4, .int a5], [], wT I R) (.returned (some (.int q.1))) (wT q.2 R) := x21_D  _ _ _ _ _ (T := fun r => r = q) (by rintro r rfl; exact ⟨rfl, rfl⟩) ⟨_, h, rfl⟩
/-- TaintHouse$Names.finish()I -/
def l35_46 (b1 : Int32) (b2 : Int32) (b3 : Int32) : Nat → Int32 → Int32 → St → Option ((Unit) ⊕ (Int32 × St))
  | 0, _, _, _ => none
  | n + 1, b4, b5, I => if b4 = (-1) then some (.inl ()) else if (I 37 3) ≤ b5 then some (.inl ()) else (x37 I b4 b1).bind fun q1 => if q1 = 0 then l35_46 b1 b2 b3 n (tget I 37 b4 5) (b5 + 1) I else some (.inr (b4, (tresize I 39 (I 36 3))))
set_option maxRecDepth 20000 in
theorem l35_46_ok {E : Xe} {R : Nat → Nat → Option Nat} {I0 : St} {o : Outcome} {w : Wd} {T : ((Unit) ⊕ (Int32 × St)) → Prop} {b1 : Int32} {b2 : Int32} {b3 : Int32} (hT : ∀ r, T (.inr r) → o = .returned (some (.int r.1)) ∧ w = wT r.2 R) (K : ∀ (q : Unit) (e4 : Value) (_ : is1 e4 = true) (e5 : Value) (_ : is1 e5 = true), T (.inl q) → Rn E 35 (106, [.ref 36, .int b1, .int b2, .int b3, e4, e5], [], wT I0 R) o w) : ∀ (n : Nat) (b4 : Int32) (b5 : Int32), Dq (l35_46 b1 b2 b3 n b4 b5 I0) T → Rn E 35 (46, [.ref 36, .int b1, .int b2, .int b3, .int b4, .int b5], [], wT I0 R) o w := by
  intro n
  induction n with
  | zero => intro b4 b5; exact D.none
  | succ n ih =>
    intro b4 b5
    rw [l35_46]
    refine D.run 2 rfl ?_
    refine D.br rfl (by decide) rfl (fun hc => ?_) (fun hc => ?_)
    · exact fun h => D.to h (K _ _ (by first | rfl | assumption) _ (by first | rfl | assumption))
    · refine D.run 3 rfl ?_
      refine D.ce rfl rfl rfl rfl (tsize_ok (by decide) (by first | rfl | decide)) ?_
      refine D.br rfl (by decide) rfl (fun hc => ?_) (fun hc => ?_)
      · exact fun h => D.to h (K _ _ (by first | rfl | assumption) _ (by first | rfl | assumption))
      · refine D.run 3 rfl ?_
        refine D.call rfl rfl rfl rfl (fun q h => x37_ok h) (fun q1 => ?_)
        refine D.br rfl (by decide) rfl (fun hc => ?_) (fun hc => ?_)
        · refine D.run 4 rfl ?_
          refine D.ce rfl rfl rfl rfl (tget_ok (by decide) (by first | rfl | decide) _ _) ?_
          refine D.run 3 rfl ?_
          exact ih _ _  
        · refine D.run 4 rfl ?_
          refine D.ce rfl rfl rfl rfl (tresize_ok (by decide) (by first | rfl | decide) _) ?_
          refine D.run 1 rfl ?_
          exact fun h => by obtain ⟨rfl, rfl⟩ := hT _ (D.some h); exact Rn.ret rfl rfl rfl
def x35 (I : St) : Option (Int32 × St) := (l35_46 ((I 39 3) - (I 36 3)) (((I 36 4) ^^^ (ushr (I 36 4) 8)) &&& 255) (tget I 41 (((I 36 4) ^^^ (ushr (I 36 4) 8)) &&& 255) 0) 100000 (tget I 41 (((I 36 4) ^^^ (ushr (I 36 4) 8)) &&& 255) 0) 0 I).bind (Sum.elim (fun q2 => Lt (tset (tset (tset (tadd I 37) 37 (tadr I 37) 0 (-1)) 37 (tadr I 37) 1 (-1)) 37 (tadr I 37) 3 ((tset (tset (tadd I 37) 37 (tadr I 37) 0 (-1)) 37 (tadr I 37) 1 (-1)) 36 3)) fun J5 => Lt (tset (tset J5 37 (tadr I 37) 4 ((I 39 3) - (I 36 3))) 37 (tadr I 37) 5 (tget I 41 (((I 36 4) ^^^ (ushr (I 36 4) 8)) &&& 255) 0)) fun J6 => some ((tadr I 37), (tset J6 41 (((I 36 4) ^^^ (ushr (I 36 4) 8)) &&& 255) 0 (tadr I 37)))) (fun r => some r))
set_option maxRecDepth 20000 in
theorem x35_D {E : Xe} {R : Nat → Nat → Option Nat} {o : Outcome} {w : Wd} {T : (Int32 × St) → Prop} {I : St} (hT : ∀ r, T r → o = .returned (some (.int r.1)) ∧ w = wT r.2 R) : Dq (x35 I) T → Rn E 35 (0, loc0 35 [.ref 36], [], wT I R) o w := by
  unfold x35
  refine D.run 2 rfl ?_
  refine D.ce rfl rfl rfl rfl (tsize_ok (by decide) (by first | rfl | decide)) ?_
  refine D.run 18 rfl ?_
  refine D.ce rfl rfl rfl rfl (tget_ok (by decide) (by first | rfl | decide) _ _) ?_
  refine D.run 5 rfl ?_
  refine D.bind (l35_46_ok  (fun r h => hT _ (D.some h)) (fun q2 e3 he3 e4 he4 => ?_) 100000 _ _   )
  refine D.inl ?_
  refine D.run 2 rfl ?_
  refine D.ce rfl rfl rfl rfl (tadd_ok (by decide) (by first | rfl | decide)) ?_
  refine D.run 6 rfl ?_
  refine D.ce rfl rfl rfl rfl (tset_ok (by decide) (by first | rfl | decide) _ _ _) ?_
  refine D.run 5 rfl ?_
  refine D.ce rfl rfl rfl rfl (tset_ok (by decide) (by first | rfl | decide) _ _ _) ?_
  show _ → Rn E 35 (137, [.ref 36, .int ((I 39 3) - (I 36 3)), .int (((I 36 4) ^^^ (ushr (I 36 4) 8)) &&& 255), .int (tget I 41 (((I 36 4) ^^^ (ushr (I 36 4) 8)) &&& 255) 0), .int (tadr I 37), e4], [], wT (tset (tset (tadd I 37) 37 (tadr I 37) 0 (-1)) 37 (tadr I 37) 1 (-1)) R) o w
  refine D.run 6 rfl ?_
  refine D.ce rfl rfl rfl rfl (tset_ok (by decide) (by first | rfl | decide) _ _ _) ?_
  refine D.letS (fun J5 => ?_)
  refine D.run 5 rfl ?_
  refine D.ce rfl rfl rfl rfl (tset_ok (by decide) (by first | rfl | decide) _ _ _) ?_
  show _ → Rn E 35 (162, [.ref 36, .int ((I 39 3) - (I 36 3)), .int (((I 36 4) ^^^ (ushr (I 36 4) 8)) &&& 255), .int (tget I 41 (((I 36 4) ^^^ (ushr (I 36 4) 8)) &&& 255) 0), .int (tadr I 37), e4], [], wT (tset J5 37 (tadr I 37) 4 ((I 39 3) - (I 36 3))) R) o w
  refine D.run 5 rfl ?_
  refine D.ce rfl rfl rfl rfl (tset_ok (by decide) (by first | rfl | decide) _ _ _) ?_
  refine D.letS (fun J6 => ?_)
  refine D.run 5 rfl ?_
  refine D.ce rfl rfl rfl rfl (tset_ok (by decide) (by first | rfl | decide) _ _ _) ?_
  show _ → Rn E 35 (184, [.ref 36, .int ((I 39 3) - (I 36 3)), .int (((I 36 4) ^^^ (ushr (I 36 4) 8)) &&& 255), .int (tget I 41 (((I 36 4) ^^^ (ushr (I 36 4) 8)) &&& 255) 0), .int (tadr I 37), e4], [], wT (tset J6 41 (((I 36 4) ^^^ (ushr (I 36 4) 8)) &&& 255) 0 (tadr I 37)) R) o w
  refine D.run 1 rfl ?_
  exact fun h => by obtain ⟨rfl, rfl⟩ := hT _ (D.some h); exact Rn.ret rfl rfl rfl
set_option maxRecDepth 20000 in
theorem x35_ok {E : Xe} {R : Nat → Nat → Option Nat} {I : St} {q : Int32 × St} (h : x35 I = some q) : Rn E 35 (0, loc0 35 [.ref 36], [], wT I R) (.returned (some (.int q.1))) (wT q.2 R) := x35_D  (T := fun r => r = q) (by rintro r rfl; exact ⟨rfl, rfl⟩) ⟨_, h, rfl⟩
/-- TaintHouse$Lexer.scanName(II)I -/
def l43_9 (b1 : Int32) (b2 : Int32) : Nat → Int32 → St → Option (Int32 × St)
  | 0, _, _ => none
  | n + 1, b3, I => if b2 ≤ b3 then some (b3, I) else if (x42 I (x39 I b3)) = 0 then if (x44 I (x39 I b3)) = 0 then some (b3, I) else (x38 I (x39 I b3)).bind fun q2 => l43_9 b1 b2 n (b3 + 1) q2 else (x38 I (x39 I b3)).bind fun q3 => l43_9 b1 b2 n (b3 + 1) q3
set_option maxRecDepth 20000 in
theorem l43_9_ok {E : Xe} {R : Nat → Nat → Option Nat} {o : Outcome} {w : Wd} {T : (Int32 × St) → Prop} {b1 : Int32} {b2 : Int32} (K : ∀ (q : Int32 × St) (e2 : Value) (_ : is1 e2 = true) (e4 : Value) (_ : is1 e4 = true), T q → Rn E 43 (54, [.ref 33, .int b1, e2, .int q.1, e4], [], wT q.2 R) o w) : ∀ (n : Nat) (b3 : Int32) (d4 : Value) (I : St), is1 d4 = true → Dq (l43_9 b1 b2 n b3 I) T → Rn E 43 (9, [.ref 33, .int b1, .int b2, .int b3, d4], [], wT I R) o w := by
  intro n
  induction n with
  | zero => intro b3 d4 I hd4; exact D.none
  | succ n ih =>
    intro b3 d4 I hd4
    rw [l43_9]
    refine D.run 2 rfl ?_
    refine D.br rfl (by decide) rfl (fun hc => ?_) (fun hc => ?_)
    · exact fun h => D.to h (K _ _ (by first | rfl | assumption) _ (by first | rfl | assumption))
    · refine D.run 2 rfl ?_
      refine D.ce rfl rfl rfl rfl (x39_ok _) ?_
      refine D.ce rfl rfl rfl rfl (x42_ok _) ?_
      refine D.br rfl (by decide) rfl (fun hc => ?_) (fun hc => ?_)
      · refine D.run 2 rfl ?_
        refine D.ce rfl rfl rfl rfl (x39_ok _) ?_
        refine D.ce rfl rfl rfl rfl (x44_ok _) ?_
        refine D.br rfl (by decide) rfl (fun hc => ?_) (fun hc => ?_)
        · exact fun h => D.to h (K _ _ (by first | rfl | assumption) _ (by first | rfl | assumption))
        · refine D.run 4 rfl ?_
          refine D.ce rfl rfl rfl rfl (x39_ok _) ?_
          refine D.call rfl rfl rfl rfl (fun q h => x38_ok h) (fun q2 => ?_)
          refine D.run 2 rfl ?_
          exact ih _ _ _ (by first | rfl | assumption)
      · refine D.run 4 rfl ?_
        refine D.ce rfl rfl rfl rfl (x39_ok _) ?_
        refine D.call rfl rfl rfl rfl (fun q h => x38_ok h) (fun q3 => ?_)
        refine D.run 2 rfl ?_
        exact ih _ _ _ (by first | rfl | assumption)
def x43 (I : St) (a1 a2 : Int32) : Option (Int32 × St) := (x29 I).bind fun q1 => (l43_9 a1 a2 100000 a1 q1).bind fun q4 => (x35 q4.2).bind fun q7 => if (q4.1 - a1) ≤ 12 then (if 68 ≤ q7.1 then some 1 else some 3).bind fun (q8 : Int32) => (x45 q7.2 q8 a1 q7.1).bind fun q9 => some (q4.1, q9) else (x45 q7.2 2 a1 0).bind fun q10 => some (q4.1, q10)
set_option maxRecDepth 20000 in
theorem x43_D {E : Xe} {R : Nat → Nat → Option Nat} {o : Outcome} {w : Wd} {T : (Int32 × St) → Prop} {I : St} (a1 a2 : Int32) (hT : ∀ r, T r → o = .returned (some (.int r.1)) ∧ w = wT r.2 R) : Dq (x43 I a1 a2) T → Rn E 43 (0, loc0 43 [.ref 33, .int a1, .int a2], [], wT I R) o w := by
  unfold x43
  refine D.run 4 rfl ?_
  refine D.call rfl rfl rfl rfl (fun q h => x29_ok h) (fun q1 => ?_)
  refine D.bind (l43_9_ok  (fun q4 e5 he5 e6 he6 => ?_) 100000 _ _ _ (by first | rfl | assumption))
  refine D.run 2 rfl ?_
  refine D.call rfl rfl rfl rfl (fun q h => x35_ok h) (fun q7 => ?_)
  refine D.run 5 rfl ?_
  refine D.br rfl (by decide) rfl (fun hc => ?_) (fun hc => ?_)
  · refine D.run 3 rfl ?_
    have Kj94 : ∀ (q8 : Int32), Dq ((x45 q7.2 q8 a1 q7.1).bind fun q9 => some (q4.1, q9)) T → Rn E 43 (94, [.ref 33, .int a1, e5, .int q4.1, .int q7.1], [.int q8, .ref 33], wT q7.2 R) o w := by
      intro q8
      refine D.run 2 rfl ?_
      refine D.call rfl rfl rfl rfl (fun q h => x45_ok h) (fun q9 => ?_)
      refine D.run 1 rfl ?_
      exact fun h => by obtain ⟨rfl, rfl⟩ := hT _ (D.some h); exact Rn.ret rfl rfl rfl
    refine D.jn (fun T94 c94 => ?_)
    refine D.br rfl (by decide) rfl (fun hc => ?_) (fun hc => ?_)
    · refine D.run 1 rfl ?_
      exact fun h => Kj94 _   (c94 _ (D.some h))
    · refine D.run 2 rfl ?_
      exact fun h => Kj94 _   (c94 _ (D.some h))
  · refine D.run 4 rfl ?_
    refine D.call rfl rfl rfl rfl (fun q h => x45_ok h) (fun q10 => ?_)
    refine D.run 2 rfl ?_
    exact fun h => by obtain ⟨rfl, rfl⟩ := hT _ (D.some h); exact Rn.ret rfl rfl rfl
set_option maxRecDepth 20000 in
theorem x43_ok {E : Xe} {R : Nat → Nat → Option Nat} {I : St} {a1 a2 : Int32} {q : Int32 × St} (h : x43 I a1 a2 = some q) : Rn E 43 (0, loc0 43 [.ref 33, .int a1, .int a2], [], wT I R) (.returned (some (.int q.1))) (wT q.2 R) := x43_D  _ _ (T := fun r => r = q) (by rintro r rfl; exact ⟨rfl, rfl⟩) ⟨_, h, rfl⟩
/-- TaintHouse$Parser.takeName()I -/
def x59 (I : St) : Option (Int32 × St) := if (x56 I) = 2 then some ((-1), (up2 I 56 5 ((x60 I) + 12))) else if (x56 I) = 1 then some ((tget (up2 (up2 I 56 6 (x60 I)) 56 3 ((I 56 3) + 1)) 34 (((I 56 3) + 1) - 1) 2), (up2 (up2 I 56 6 (x60 I)) 56 3 ((I 56 3) + 1))) else (x58 I).bind fun q1 => some ((-1), q1)
set_option maxRecDepth 20000 in
theorem x59_D {E : Xe} {R : Nat → Nat → Option Nat} {o : Outcome} {w : Wd} {T : (Int32 × St) → Prop} {I : St} (hT : ∀ r, T r → o = .returned (some (.int r.1)) ∧ w = wT r.2 R) : Dq (x59 I) T → Rn E 59 (0, loc0 59 [.ref 56], [], wT I R) o w := by
  unfold x59
  refine D.run 1 rfl ?_
  refine D.ce rfl rfl rfl rfl (x56_ok) ?_
  refine D.run 1 rfl ?_
  refine D.br rfl (by decide) rfl (fun hc => ?_) (fun hc => ?_)
  · refine D.run 2 rfl ?_
    refine D.ce rfl rfl rfl rfl (x60_ok) ?_
    refine D.run 4 rfl ?_
    exact fun h => by obtain ⟨rfl, rfl⟩ := hT _ (D.some h); exact Rn.ret rfl rfl rfl
  · refine D.run 1 rfl ?_
    refine D.ce rfl rfl rfl rfl (x56_ok) ?_
    refine D.run 1 rfl ?_
    refine D.br rfl (by decide) rfl (fun hc => ?_) (fun hc => ?_)
    · refine D.run 2 rfl ?_
      refine D.ce rfl rfl rfl rfl (x60_ok) ?_
      refine D.run 14 rfl ?_
      refine D.ce rfl rfl rfl rfl (tget_ok (by decide) (by first | rfl | decide) _ _) ?_
      exact fun h => by obtain ⟨rfl, rfl⟩ := hT _ (D.some h); exact Rn.ret rfl rfl rfl
    · refine D.run 1 rfl ?_
      refine D.call rfl rfl rfl rfl (fun q h => x58_ok h) (fun q1 => ?_)
      refine D.run 1 rfl ?_
      exact fun h => by obtain ⟨rfl, rfl⟩ := hT _ (D.some h); exact Rn.ret rfl rfl rfl
set_option maxRecDepth 20000 in
theorem x59_ok {E : Xe} {R : Nat → Nat → Option Nat} {I : St} {q : Int32 × St} (h : x59 I = some q) : Rn E 59 (0, loc0 59 [.ref 56], [], wT I R) (.returned (some (.int q.1))) (wT q.2 R) := x59_D  (T := fun r => r = q) (by rintro r rfl; exact ⟨rfl, rfl⟩) ⟨_, h, rfl⟩
/-- TaintHouse$Parser.startMember(LTaintHouse$Table;I)I -/
def x66 (k : Nat) (P : Nat) (I : St) (a2 : Int32) : Option (Int32 × St) := (x59 (up2 I 56 3 ((I 56 3) + 1))).bind fun q1 => Lt (tset (tset (tset (tadd q1.2 k) k (tadr q1.2 k) 0 (x65 P (tadd q1.2 k))) k (tadr q1.2 k) 1 q1.1) k (tadr q1.2 k) 2 a2) fun J2 => Lt (tset (tset (tset (tadd J2 46) 46 (tadr J2 46) 2 (x65 P (tadd J2 46))) 46 (tadr J2 46) 0 q1.1) 46 (tadr J2 46) 1 ((tset (tset (tadd J2 46) 46 (tadr J2 46) 2 (x65 P (tadd J2 46))) 46 (tadr J2 46) 0 q1.1) 56 6)) fun J3 => some ((tadr q1.2 k), J3)
set_option maxRecDepth 20000 in
theorem x66_D {E : Xe} {R : Nat → Nat → Option Nat} {k : Nat} {P : Nat} {o : Outcome} {w : Wd} {T : (Int32 × St) → Prop} {I : St} (hP : P = 3 ∨ P = 18) (hk : k = P + 3 ∨ k = P + 5 ∨ k = P + 7) (h56_2 : R 56 2 = some P) (a2 : Int32) (hT : ∀ r, T r → o = .returned (some (.int r.1)) ∧ w = wT r.2 R) : Dq (x66 k P I a2) T → Rn E 66 (0, loc0 66 [.ref 56, .ref k, .int a2], [], wT I R) o w := by
  unfold x66
  rcases hP with rfl | rfl <;> rcases hk with rfl | rfl | rfl
  · refine D.run 7 rfl ?_
    refine D.call rfl rfl rfl rfl (fun q h => x59_ok h) (fun q1 => ?_)
    refine D.run 2 rfl ?_
    refine D.ce rfl rfl rfl rfl (tadd_ok (by decide) (by first | rfl | decide)) ?_
    refine D.run 5 rfl ?_
    refine D.ce rfl rfl rfl rfl (x65_ok (by decide) h56_2) ?_
    show _ → Rn E 66 (29, [.ref 56, .ref (3 + 3), .int a2, .int q1.1, .int (tadr q1.2 (3 + 3)), us], [.int (x65 3 (tadd q1.2 (3 + 3))), .int 0, .int (tadr q1.2 (3 + 3)), .ref (3 + 3)], wT (tadd q1.2 (3 + 3)) R) o w
    refine D.ce rfl rfl rfl rfl (tset_ok (by decide) (by first | rfl | decide) _ _ _) ?_
    refine D.run 4 rfl ?_
    refine D.ce rfl rfl rfl rfl (tset_ok (by decide) (by first | rfl | decide) _ _ _) ?_
    refine D.run 4 rfl ?_
    refine D.ce rfl rfl rfl rfl (tset_ok (by decide) (by first | rfl | decide) _ _ _) ?_
    refine D.letS (fun J2 => ?_)
    show _ → Rn E 66 (48, [.ref 56, .ref (3 + 3), .int a2, .int q1.1, .int (tadr q1.2 (3 + 3)), us], [], wT J2 R) o w
    refine D.run 3 rfl ?_
    refine D.ce rfl rfl rfl rfl (tadd_ok (by decide) (by first | rfl | decide)) ?_
    refine D.run 7 rfl ?_
    refine D.ce rfl rfl rfl rfl (x65_ok (by decide) h56_2) ?_
    refine D.ce rfl rfl rfl rfl (tset_ok (by decide) (by first | rfl | decide) _ _ _) ?_
    show _ → Rn E 66 (77, [.ref 56, .ref (3 + 3), .int a2, .int q1.1, .int (tadr q1.2 (3 + 3)), .int (tadr J2 46)], [], wT (tset (tadd J2 46) 46 (tadr J2 46) 2 (x65 3 (tadd J2 46))) R) o w
    refine D.run 6 rfl ?_
    refine D.ce rfl rfl rfl rfl (tset_ok (by decide) (by first | rfl | decide) _ _ _) ?_
    refine D.run 7 rfl ?_
    refine D.ce rfl rfl rfl rfl (tset_ok (by decide) (by first | rfl | decide) _ _ _) ?_
    refine D.letS (fun J3 => ?_)
    show _ → Rn E 66 (108, [.ref 56, .ref (3 + 3), .int a2, .int q1.1, .int (tadr q1.2 (3 + 3)), .int (tadr J2 46)], [], wT J3 R) o w
    refine D.run 1 rfl ?_
    exact fun h => by obtain ⟨rfl, rfl⟩ := hT _ (D.some h); exact Rn.ret rfl rfl rfl
  · refine D.run 7 rfl ?_
    refine D.call rfl rfl rfl rfl (fun q h => x59_ok h) (fun q1 => ?_)
    refine D.run 2 rfl ?_
    refine D.ce rfl rfl rfl rfl (tadd_ok (by decide) (by first | rfl | decide)) ?_
    refine D.run 5 rfl ?_
    refine D.ce rfl rfl rfl rfl (x65_ok (by decide) h56_2) ?_
    show _ → Rn E 66 (29, [.ref 56, .ref (3 + 5), .int a2, .int q1.1, .int (tadr q1.2 (3 + 5)), us], [.int (x65 3 (tadd q1.2 (3 + 5))), .int 0, .int (tadr q1.2 (3 + 5)), .ref (3 + 5)], wT (tadd q1.2 (3 + 5)) R) o w
    refine D.ce rfl rfl rfl rfl (tset_ok (by decide) (by first | rfl | decide) _ _ _) ?_
    refine D.run 4 rfl ?_
    refine D.ce rfl rfl rfl rfl (tset_ok (by decide) (by first | rfl | decide) _ _ _) ?_
    refine D.run 4 rfl ?_
    refine D.ce rfl rfl rfl rfl (tset_ok (by decide) (by first | rfl | decide) _ _ _) ?_
    refine D.letS (fun J2 => ?_)
    show _ → Rn E 66 (48, [.ref 56, .ref (3 + 5), .int a2, .int q1.1, .int (tadr q1.2 (3 + 5)), us], [], wT J2 R) o w
    refine D.run 3 rfl ?_
    refine D.ce rfl rfl rfl rfl (tadd_ok (by decide) (by first | rfl | decide)) ?_
    refine D.run 7 rfl ?_
    refine D.ce rfl rfl rfl rfl (x65_ok (by decide) h56_2) ?_
    refine D.ce rfl rfl rfl rfl (tset_ok (by decide) (by first | rfl | decide) _ _ _) ?_
    show _ → Rn E 66 (77, [.ref 56, .ref (3 + 5), .int a2, .int q1.1, .int (tadr q1.2 (3 + 5)), .int (tadr J2 46)], [], wT (tset (tadd J2 46) 46 (tadr J2 46) 2 (x65 3 (tadd J2 46))) R) o w
    refine D.run 6 rfl ?_
    refine D.ce rfl rfl rfl rfl (tset_ok (by decide) (by first | rfl | decide) _ _ _) ?_
    refine D.run 7 rfl ?_
    refine D.ce rfl rfl rfl rfl (tset_ok (by decide) (by first | rfl | decide) _ _ _) ?_
    refine D.letS (fun J3 => ?_)
    show _ → Rn E 66 (108, [.ref 56, .ref (3 + 5), .int a2, .int q1.1, .int (tadr q1.2 (3 + 5)), .int (tadr J2 46)], [], wT J3 R) o w
    refine D.run 1 rfl ?_
    exact fun h => by obtain ⟨rfl, rfl⟩ := hT _ (D.some h); exact Rn.ret rfl rfl rfl
  · refine D.run 7 rfl ?_
    refine D.call rfl rfl rfl rfl (fun q h => x59_ok h) (fun q1 => ?_)
    refine D.run 2 rfl ?_
    refine D.ce rfl rfl rfl rfl (tadd_ok (by decide) (by first | rfl | decide)) ?_
    refine D.run 5 rfl ?_
    refine D.ce rfl rfl rfl rfl (x65_ok (by decide) h56_2) ?_
    show _ → Rn E 66 (29, [.ref 56, .ref (3 + 7), .int a2, .int q1.1, .int (tadr q1.2 (3 + 7)), us], [.int (x65 3 (tadd q1.2 (3 + 7))), .int 0, .int (tadr q1.2 (3 + 7)), .ref (3 + 7)], wT (tadd q1.2 (3 + 7)) R) o w
    refine D.ce rfl rfl rfl rfl (tset_ok (by decide) (by first | rfl | decide) _ _ _) ?_
    refine D.run 4 rfl ?_
    refine D.ce rfl rfl rfl rfl (tset_ok (by decide) (by first | rfl | decide) _ _ _) ?_
    refine D.run 4 rfl ?_
    refine D.ce rfl rfl rfl rfl (tset_ok (by decide) (by first | rfl | decide) _ _ _) ?_
    refine D.letS (fun J2 => ?_)
    show _ → Rn E 66 (48, [.ref 56, .ref (3 + 7), .int a2, .int q1.1, .int (tadr q1.2 (3 + 7)), us], [], wT J2 R) o w
    refine D.run 3 rfl ?_
    refine D.ce rfl rfl rfl rfl (tadd_ok (by decide) (by first | rfl | decide)) ?_
    refine D.run 7 rfl ?_
    refine D.ce rfl rfl rfl rfl (x65_ok (by decide) h56_2) ?_
    refine D.ce rfl rfl rfl rfl (tset_ok (by decide) (by first | rfl | decide) _ _ _) ?_
    show _ → Rn E 66 (77, [.ref 56, .ref (3 + 7), .int a2, .int q1.1, .int (tadr q1.2 (3 + 7)), .int (tadr J2 46)], [], wT (tset (tadd J2 46) 46 (tadr J2 46) 2 (x65 3 (tadd J2 46))) R) o w
    refine D.run 6 rfl ?_
    refine D.ce rfl rfl rfl rfl (tset_ok (by decide) (by first | rfl | decide) _ _ _) ?_
    refine D.run 7 rfl ?_
    refine D.ce rfl rfl rfl rfl (tset_ok (by decide) (by first | rfl | decide) _ _ _) ?_
    refine D.letS (fun J3 => ?_)
    show _ → Rn E 66 (108, [.ref 56, .ref (3 + 7), .int a2, .int q1.1, .int (tadr q1.2 (3 + 7)), .int (tadr J2 46)], [], wT J3 R) o w
    refine D.run 1 rfl ?_
    exact fun h => by obtain ⟨rfl, rfl⟩ := hT _ (D.some h); exact Rn.ret rfl rfl rfl
  · refine D.run 7 rfl ?_
    refine D.call rfl rfl rfl rfl (fun q h => x59_ok h) (fun q1 => ?_)
    refine D.run 2 rfl ?_
    refine D.ce rfl rfl rfl rfl (tadd_ok (by decide) (by first | rfl | decide)) ?_
    refine D.run 5 rfl ?_
    refine D.ce rfl rfl rfl rfl (x65_ok (by decide) h56_2) ?_
    show _ → Rn E 66 (29, [.ref 56, .ref (18 + 3), .int a2, .int q1.1, .int (tadr q1.2 (18 + 3)), us], [.int (x65 18 (tadd q1.2 (18 + 3))), .int 0, .int (tadr q1.2 (18 + 3)), .ref (18 + 3)], wT (tadd q1.2 (18 + 3)) R) o w
    refine D.ce rfl rfl rfl rfl (tset_ok (by decide) (by first | rfl | decide) _ _ _) ?_
    refine D.run 4 rfl ?_
    refine D.ce rfl rfl rfl rfl (tset_ok (by decide) (by first | rfl | decide) _ _ _) ?_
    refine D.run 4 rfl ?_
    refine D.ce rfl rfl rfl rfl (tset_ok (by decide) (by first | rfl | decide) _ _ _) ?_
    refine D.letS (fun J2 => ?_)
    show _ → Rn E 66 (48, [.ref 56, .ref (18 + 3), .int a2, .int q1.1, .int (tadr q1.2 (18 + 3)), us], [], wT J2 R) o w
    refine D.run 3 rfl ?_
    refine D.ce rfl rfl rfl rfl (tadd_ok (by decide) (by first | rfl | decide)) ?_
    refine D.run 7 rfl ?_
    refine D.ce rfl rfl rfl rfl (x65_ok (by decide) h56_2) ?_
    refine D.ce rfl rfl rfl rfl (tset_ok (by decide) (by first | rfl | decide) _ _ _) ?_
    show _ → Rn E 66 (77, [.ref 56, .ref (18 + 3), .int a2, .int q1.1, .int (tadr q1.2 (18 + 3)), .int (tadr J2 46)], [], wT (tset (tadd J2 46) 46 (tadr J2 46) 2 (x65 18 (tadd J2 46))) R) o w
    refine D.run 6 rfl ?_
    refine D.ce rfl rfl rfl rfl (tset_ok (by decide) (by first | rfl | decide) _ _ _) ?_
    refine D.run 7 rfl ?_
    refine D.ce rfl rfl rfl rfl (tset_ok (by decide) (by first | rfl | decide) _ _ _) ?_
    refine D.letS (fun J3 => ?_)
    show _ → Rn E 66 (108, [.ref 56, .ref (18 + 3), .int a2, .int q1.1, .int (tadr q1.2 (18 + 3)), .int (tadr J2 46)], [], wT J3 R) o w
    refine D.run 1 rfl ?_
    exact fun h => by obtain ⟨rfl, rfl⟩ := hT _ (D.some h); exact Rn.ret rfl rfl rfl
  · refine D.run 7 rfl ?_
    refine D.call rfl rfl rfl rfl (fun q h => x59_ok h) (fun q1 => ?_)
    refine D.run 2 rfl ?_
    refine D.ce rfl rfl rfl rfl (tadd_ok (by decide) (by first | rfl | decide)) ?_
    refine D.run 5 rfl ?_
    refine D.ce rfl rfl rfl rfl (x65_ok (by decide) h56_2) ?_
    show _ → Rn E 66 (29, [.ref 56, .ref (18 + 5), .int a2, .int q1.1, .int (tadr q1.2 (18 + 5)), us], [.int (x65 18 (tadd q1.2 (18 + 5))), .int 0, .int (tadr q1.2 (18 + 5)), .ref (18 + 5)], wT (tadd q1.2 (18 + 5)) R) o w
    refine D.ce rfl rfl rfl rfl (tset_ok (by decide) (by first | rfl | decide) _ _ _) ?_
    refine D.run 4 rfl ?_
    refine D.ce rfl rfl rfl rfl (tset_ok (by decide) (by first | rfl | decide) _ _ _) ?_
    refine D.run 4 rfl ?_
    refine D.ce rfl rfl rfl rfl (tset_ok (by decide) (by first | rfl | decide) _ _ _) ?_
    refine D.letS (fun J2 => ?_)
    show _ → Rn E 66 (48, [.ref 56, .ref (18 + 5), .int a2, .int q1.1, .int (tadr q1.2 (18 + 5)), us], [], wT J2 R) o w
    refine D.run 3 rfl ?_
    refine D.ce rfl rfl rfl rfl (tadd_ok (by decide) (by first | rfl | decide)) ?_
    refine D.run 7 rfl ?_
    refine D.ce rfl rfl rfl rfl (x65_ok (by decide) h56_2) ?_
    refine D.ce rfl rfl rfl rfl (tset_ok (by decide) (by first | rfl | decide) _ _ _) ?_
    show _ → Rn E 66 (77, [.ref 56, .ref (18 + 5), .int a2, .int q1.1, .int (tadr q1.2 (18 + 5)), .int (tadr J2 46)], [], wT (tset (tadd J2 46) 46 (tadr J2 46) 2 (x65 18 (tadd J2 46))) R) o w
    refine D.run 6 rfl ?_
    refine D.ce rfl rfl rfl rfl (tset_ok (by decide) (by first | rfl | decide) _ _ _) ?_
    refine D.run 7 rfl ?_
    refine D.ce rfl rfl rfl rfl (tset_ok (by decide) (by first | rfl | decide) _ _ _) ?_
    refine D.letS (fun J3 => ?_)
    show _ → Rn E 66 (108, [.ref 56, .ref (18 + 5), .int a2, .int q1.1, .int (tadr q1.2 (18 + 5)), .int (tadr J2 46)], [], wT J3 R) o w
    refine D.run 1 rfl ?_
    exact fun h => by obtain ⟨rfl, rfl⟩ := hT _ (D.some h); exact Rn.ret rfl rfl rfl
  · refine D.run 7 rfl ?_
    refine D.call rfl rfl rfl rfl (fun q h => x59_ok h) (fun q1 => ?_)
    refine D.run 2 rfl ?_
    refine D.ce rfl rfl rfl rfl (tadd_ok (by decide) (by first | rfl | decide)) ?_
    refine D.run 5 rfl ?_
    refine D.ce rfl rfl rfl rfl (x65_ok (by decide) h56_2) ?_
    show _ → Rn E 66 (29, [.ref 56, .ref (18 + 7), .int a2, .int q1.1, .int (tadr q1.2 (18 + 7)), us], [.int (x65 18 (tadd q1.2 (18 + 7))), .int 0, .int (tadr q1.2 (18 + 7)), .ref (18 + 7)], wT (tadd q1.2 (18 + 7)) R) o w
    refine D.ce rfl rfl rfl rfl (tset_ok (by decide) (by first | rfl | decide) _ _ _) ?_
    refine D.run 4 rfl ?_
    refine D.ce rfl rfl rfl rfl (tset_ok (by decide) (by first | rfl | decide) _ _ _) ?_
    refine D.run 4 rfl ?_
    refine D.ce rfl rfl rfl rfl (tset_ok (by decide) (by first | rfl | decide) _ _ _) ?_
    refine D.letS (fun J2 => ?_)
    show _ → Rn E 66 (48, [.ref 56, .ref (18 + 7), .int a2, .int q1.1, .int (tadr q1.2 (18 + 7)), us], [], wT J2 R) o w
    refine D.run 3 rfl ?_
    refine D.ce rfl rfl rfl rfl (tadd_ok (by decide) (by first | rfl | decide)) ?_
    refine D.run 7 rfl ?_
    refine D.ce rfl rfl rfl rfl (x65_ok (by decide) h56_2) ?_
    refine D.ce rfl rfl rfl rfl (tset_ok (by decide) (by first | rfl | decide) _ _ _) ?_
    show _ → Rn E 66 (77, [.ref 56, .ref (18 + 7), .int a2, .int q1.1, .int (tadr q1.2 (18 + 7)), .int (tadr J2 46)], [], wT (tset (tadd J2 46) 46 (tadr J2 46) 2 (x65 18 (tadd J2 46))) R) o w
    refine D.run 6 rfl ?_
    refine D.ce rfl rfl rfl rfl (tset_ok (by decide) (by first | rfl | decide) _ _ _) ?_
    refine D.run 7 rfl ?_
    refine D.ce rfl rfl rfl rfl (tset_ok (by decide) (by first | rfl | decide) _ _ _) ?_
    refine D.letS (fun J3 => ?_)
    show _ → Rn E 66 (108, [.ref 56, .ref (18 + 7), .int a2, .int q1.1, .int (tadr q1.2 (18 + 7)), .int (tadr J2 46)], [], wT J3 R) o w
    refine D.run 1 rfl ?_
    exact fun h => by obtain ⟨rfl, rfl⟩ := hT _ (D.some h); exact Rn.ret rfl rfl rfl
set_option maxRecDepth 20000 in
theorem x66_ok {E : Xe} {R : Nat → Nat → Option Nat} {k : Nat} {P : Nat} {I : St} (hP : P = 3 ∨ P = 18) (hk : k = P + 3 ∨ k = P + 5 ∨ k = P + 7) (h56_2 : R 56 2 = some P) {a2 : Int32} {q : Int32 × St} (h : x66 k P I a2 = some q) : Rn E 66 (0, loc0 66 [.ref 56, .ref k, .int a2], [], wT I R) (.returned (some (.int q.1))) (wT q.2 R) := x66_D hP hk h56_2 _ (T := fun r => r = q) (by rintro r rfl; exact ⟨rfl, rfl⟩) ⟨_, h, rfl⟩
/-- TaintHouse$Parser.readStatic()V -/
def x68 (P : Nat) (I : St) : Option (St) := if (I (P + 5) 3) < 16 then (x66 (P + 5) P I 0).bind fun q1 => (x67 q1.2 0).bind fun q2 => (x62 (tset q2.2 (P + 5) q1.1 3 q2.1) 59).bind fun q3 => some q3 else (x58 I).bind fun q4 => some q4
set_option maxRecDepth 20000 in
theorem x68_D {E : Xe} {R : Nat → Nat → Option Nat} {P : Nat} {o : Outcome} {w : Wd} {T : (St) → Prop} {I : St} (hP : P = 3 ∨ P = 18) (h56_2 : R 56 2 = some P) (hT : ∀ r, T r → o = .returned none ∧ w = wT r R) : Dq (x68 P I) T → Rn E 68 (0, loc0 68 [.ref 56], [], wT I R) o w := by
  unfold x68
  rcases hP with rfl | rfl
  · refine D.run 1 rfl ?_
    refine D.st rfl (by decide) (gf_1 h56_2) ?_
    refine D.run 1 rfl ?_
    refine D.ce rfl rfl rfl rfl (tsize_ok (by decide) (by first | rfl | decide)) ?_
    refine D.run 1 rfl ?_
    refine D.br rfl (by decide) rfl (fun hc => ?_) (fun hc => ?_)
    · refine D.run 2 rfl ?_
      refine D.st rfl (by decide) (gf_1 h56_2) ?_
      refine D.run 2 rfl ?_
      refine D.call rfl rfl rfl rfl (fun q h => x66_ok (by decide) (by decide) h56_2 h) (fun q1 => ?_)
      refine D.run 2 rfl ?_
      refine D.st rfl (by decide) (gf_1 h56_2) ?_
      show _ → Rn E 68 (37, [.ref 56, .int q1.1], [.ref 3], wT q1.2 R) o w
      refine D.run 5 rfl ?_
      refine D.call rfl rfl rfl rfl (fun q h => x67_ok h) (fun q2 => ?_)
      refine D.ce rfl rfl rfl rfl (tset_ok (by decide) (by first | rfl | decide) _ _ _) ?_
      refine D.run 2 rfl ?_
      refine D.call rfl rfl rfl rfl (fun q h => x62_ok h) (fun q3 => ?_)
      show _ → Rn E 68 (56, [.ref 56, .int q1.1], [], wT q3 R) o w
      exact fun h => by obtain ⟨rfl, rfl⟩ := hT _ (D.some h); exact Rn.ret rfl rfl rfl
    · refine D.run 1 rfl ?_
      refine D.call rfl rfl rfl rfl (fun q h => x58_ok h) (fun q4 => ?_)
      exact fun h => by obtain ⟨rfl, rfl⟩ := hT _ (D.some h); exact Rn.ret rfl rfl rfl
  · refine D.run 1 rfl ?_
    refine D.st rfl (by decide) (gf_1 h56_2) ?_
    refine D.run 1 rfl ?_
    refine D.ce rfl rfl rfl rfl (tsize_ok (by decide) (by first | rfl | decide)) ?_
    refine D.run 1 rfl ?_
    refine D.br rfl (by decide) rfl (fun hc => ?_) (fun hc => ?_)
    · refine D.run 2 rfl ?_
      refine D.st rfl (by decide) (gf_1 h56_2) ?_
      refine D.run 2 rfl ?_
      refine D.call rfl rfl rfl rfl (fun q h => x66_ok (by decide) (by decide) h56_2 h) (fun q1 => ?_)
      refine D.run 2 rfl ?_
      refine D.st rfl (by decide) (gf_1 h56_2) ?_
      show _ → Rn E 68 (37, [.ref 56, .int q1.1], [.ref 18], wT q1.2 R) o w
      refine D.run 5 rfl ?_
      refine D.call rfl rfl rfl rfl (fun q h => x67_ok h) (fun q2 => ?_)
      refine D.ce rfl rfl rfl rfl (tset_ok (by decide) (by first | rfl | decide) _ _ _) ?_
      refine D.run 2 rfl ?_
      refine D.call rfl rfl rfl rfl (fun q h => x62_ok h) (fun q3 => ?_)
      show _ → Rn E 68 (56, [.ref 56, .int q1.1], [], wT q3 R) o w
      exact fun h => by obtain ⟨rfl, rfl⟩ := hT _ (D.some h); exact Rn.ret rfl rfl rfl
    · refine D.run 1 rfl ?_
      refine D.call rfl rfl rfl rfl (fun q h => x58_ok h) (fun q4 => ?_)
      exact fun h => by obtain ⟨rfl, rfl⟩ := hT _ (D.some h); exact Rn.ret rfl rfl rfl
set_option maxRecDepth 20000 in
theorem x68_ok {E : Xe} {R : Nat → Nat → Option Nat} {P : Nat} {I : St} (hP : P = 3 ∨ P = 18) (h56_2 : R 56 2 = some P) {q : St} (h : x68 P I = some q) : Rn E 68 (0, loc0 68 [.ref 56], [], wT I R) (.returned none) (wT q R) := x68_D hP h56_2 (T := fun r => r = q) (by rintro r rfl; exact ⟨rfl, rfl⟩) ⟨_, h, rfl⟩
/-- TaintHouse$Parser.readMethodHead(I)V -/
def x69 (P : Nat) (I : St) (a1 : Int32) : Option (St) := if (I (P + 7) 3) < 24 then (x66 (P + 7) P (tset I (P + 1) (x65 P I) 5 ((tget I (P + 1) (x65 P I) 5) + 1)) a1).bind fun q1 => Lt (tset (tset (tadd q1.2 48) 48 q1.1 0 ((tadd q1.2 48) 56 6)) 48 q1.1 2 ((tset (tadd q1.2 48) 48 q1.1 0 ((tadd q1.2 48) 56 6)) 50 3)) fun J2 => (x70 P (tset J2 48 q1.1 3 0) q1.1).bind fun q3 => (x67 q3 1).bind fun q4 => Lt (tset (tset q4.2 (P + 7) q1.1 3 q4.1) (P + 7) q1.1 5 ((tset q4.2 (P + 7) q1.1 3 q4.1) (P + 9) 3)) fun J5 => Lt (tset (tset (tset J5 (P + 7) q1.1 6 0) (P + 7) q1.1 7 ((tset J5 (P + 7) q1.1 6 0) (P + 11) 3)) (P + 7) q1.1 8 0) fun J6 => (x62 (tset J6 (P + 7) q1.1 9 0) 123).bind fun q7 => some (up2 q7 56 4 2) else (x58 I).bind fun q8 => some q8
set_option maxRecDepth 20000 in
theorem x69_D {E : Xe} {R : Nat → Nat → Option Nat} {P : Nat} {o : Outcome} {w : Wd} {T : (St) → Prop} {I : St} (hP : P = 3 ∨ P = 18) (h56_2 : R 56 2 = some P) (a1 : Int32) (hT : ∀ r, T r → o = .returned none ∧ w = wT r R) : Dq (x69 P I a1) T → Rn E 69 (0, loc0 69 [.ref 56, .int a1], [], wT I R) o w := by
  unfold x69
  rcases hP with rfl | rfl
  · refine D.run 1 rfl ?_
    refine D.st rfl (by decide) (gf_1 h56_2) ?_
    refine D.run 1 rfl ?_
    refine D.ce rfl rfl rfl rfl (tsize_ok (by decide) (by first | rfl | decide)) ?_
    refine D.run 1 rfl ?_
    refine D.br rfl (by decide) rfl (fun hc => ?_) (fun hc => ?_)
    · refine D.run 1 rfl ?_
      refine D.st rfl (by decide) (gf_1 h56_2) ?_
      refine D.run 3 rfl ?_
      refine D.st rfl (by decide) (gf_1 h56_2) ?_
      refine D.run 2 rfl ?_
      refine D.ce rfl rfl rfl rfl (x65_ok (by decide) h56_2) ?_
      show _ → Rn E 69 (39, [.ref 56, .int a1, .ref (3 + 7), us, us], [.int (x65 3 I), .ref (3 + 1)], wT I R) o w
      refine D.run 1 rfl ?_
      refine D.ce rfl rfl rfl rfl (tget_ok (by decide) (by first | rfl | decide) _ _) ?_
      refine D.run 2 rfl ?_
      refine D.st rfl (by decide) (gf_1 h56_2) ?_
      refine D.run 2 rfl ?_
      refine D.ce rfl rfl rfl rfl (x65_ok (by decide) h56_2) ?_
      show _ → Rn E 69 (55, [.ref 56, .int a1, .ref (3 + 7), .int (tget I (3 + 1) (x65 3 I) 5), us], [.int (x65 3 I), .ref (3 + 1)], wT I R) o w
      refine D.run 4 rfl ?_
      refine D.ce rfl rfl rfl rfl (tset_ok (by decide) (by first | rfl | decide) _ _ _) ?_
      refine D.run 3 rfl ?_
      refine D.call rfl rfl rfl rfl (fun q h => x66_ok (by decide) (by decide) h56_2 h) (fun q1 => ?_)
      refine D.run 4 rfl ?_
      refine D.ce rfl rfl rfl rfl (tadd_ok (by decide) (by first | rfl | decide)) ?_
      show _ → Rn E 69 (80, [.ref 56, .int a1, .ref (3 + 7), .int (tget I (3 + 1) (x65 3 I) 5), .int q1.1], [.int (tadr q1.2 48)], wT (tadd q1.2 48) R) o w
      refine D.run 8 rfl ?_
      refine D.ce rfl rfl rfl rfl (tset_ok (by decide) (by first | rfl | decide) _ _ _) ?_
      refine D.run 8 rfl ?_
      refine D.ce rfl rfl rfl rfl (tsize_ok (by decide) (by first | rfl | decide)) ?_
      refine D.ce rfl rfl rfl rfl (tset_ok (by decide) (by first | rfl | decide) _ _ _) ?_
      refine D.letS (fun J2 => ?_)
      show _ → Rn E 69 (121, [.ref 56, .int a1, .ref (3 + 7), .int (tget I (3 + 1) (x65 3 I) 5), .int q1.1], [], wT J2 R) o w
      refine D.run 6 rfl ?_
      refine D.ce rfl rfl rfl rfl (tset_ok (by decide) (by first | rfl | decide) _ _ _) ?_
      refine D.run 2 rfl ?_
      refine D.call rfl rfl rfl rfl (fun q h => x70_ok (by decide) h56_2 h) (fun q3 => ?_)
      refine D.run 5 rfl ?_
      refine D.call rfl rfl rfl rfl (fun q h => x67_ok h) (fun q4 => ?_)
      show _ → Rn E 69 (150, [.ref 56, .int a1, .ref (3 + 7), .int (tget I (3 + 1) (x65 3 I) 5), .int q1.1], [.int q4.1, .int 3, .int q1.1, .ref (3 + 7)], wT q4.2 R) o w
      refine D.ce rfl rfl rfl rfl (tset_ok (by decide) (by first | rfl | decide) _ _ _) ?_
      refine D.run 4 rfl ?_
      refine D.st rfl (by decide) (gf_1 h56_2) ?_
      refine D.run 1 rfl ?_
      refine D.ce rfl rfl rfl rfl (tsize_ok (by decide) (by first | rfl | decide)) ?_
      show _ → Rn E 69 (167, [.ref 56, .int a1, .ref (3 + 7), .int (tget I (3 + 1) (x65 3 I) 5), .int q1.1], [.int ((tset q4.2 (3 + 7) q1.1 3 q4.1) (3 + 9) 3), .int 5, .int q1.1, .ref (3 + 7)], wT (tset q4.2 (3 + 7) q1.1 3 q4.1) R) o w
      refine D.ce rfl rfl rfl rfl (tset_ok (by decide) (by first | rfl | decide) _ _ _) ?_
      refine D.letS (fun J5 => ?_)
      refine D.run 4 rfl ?_
      refine D.ce rfl rfl rfl rfl (tset_ok (by decide) (by first | rfl | decide) _ _ _) ?_
      refine D.run 4 rfl ?_
      refine D.st rfl (by decide) (gf_1 h56_2) ?_
      show _ → Rn E 69 (188, [.ref 56, .int a1, .ref (3 + 7), .int (tget I (3 + 1) (x65 3 I) 5), .int q1.1], [.ref 3, .int 7, .int q1.1, .ref (3 + 7)], wT (tset J5 (3 + 7) q1.1 6 0) R) o w
      refine D.run 1 rfl ?_
      refine D.ce rfl rfl rfl rfl (tsize_ok (by decide) (by first | rfl | decide)) ?_
      refine D.ce rfl rfl rfl rfl (tset_ok (by decide) (by first | rfl | decide) _ _ _) ?_
      refine D.run 4 rfl ?_
      refine D.ce rfl rfl rfl rfl (tset_ok (by decide) (by first | rfl | decide) _ _ _) ?_
      refine D.letS (fun J6 => ?_)
      show _ → Rn E 69 (206, [.ref 56, .int a1, .ref (3 + 7), .int (tget I (3 + 1) (x65 3 I) 5), .int q1.1], [], wT J6 R) o w
      refine D.run 4 rfl ?_
      refine D.ce rfl rfl rfl rfl (tset_ok (by decide) (by first | rfl | decide) _ _ _) ?_
      refine D.run 2 rfl ?_
      refine D.call rfl rfl rfl rfl (fun q h => x62_ok h) (fun q7 => ?_)
      refine D.run 3 rfl ?_
      exact fun h => by obtain ⟨rfl, rfl⟩ := hT _ (D.some h); exact Rn.ret rfl rfl rfl
    · refine D.run 1 rfl ?_
      refine D.call rfl rfl rfl rfl (fun q h => x58_ok h) (fun q8 => ?_)
      exact fun h => by obtain ⟨rfl, rfl⟩ := hT _ (D.some h); exact Rn.ret rfl rfl rfl
  · refine D.run 1 rfl ?_
    refine D.st rfl (by decide) (gf_1 h56_2) ?_
    refine D.run 1 rfl ?_
    refine D.ce rfl rfl rfl rfl (tsize_ok (by decide) (by first | rfl | decide)) ?_
    refine D.run 1 rfl ?_
    refine D.br rfl (by decide) rfl (fun hc => ?_) (fun hc => ?_)
    · refine D.run 1 rfl ?_
      refine D.st rfl (by decide) (gf_1 h56_2) ?_
      refine D.run 3 rfl ?_
      refine D.st rfl (by decide) (gf_1 h56_2) ?_
      refine D.run 2 rfl ?_
      refine D.ce rfl rfl rfl rfl (x65_ok (by decide) h56_2) ?_
      show _ → Rn E 69 (39, [.ref 56, .int a1, .ref (18 + 7), us, us], [.int (x65 18 I), .ref (18 + 1)], wT I R) o w
      refine D.run 1 rfl ?_
      refine D.ce rfl rfl rfl rfl (tget_ok (by decide) (by first | rfl | decide) _ _) ?_
      refine D.run 2 rfl ?_
      refine D.st rfl (by decide) (gf_1 h56_2) ?_
      refine D.run 2 rfl ?_
      refine D.ce rfl rfl rfl rfl (x65_ok (by decide) h56_2) ?_
      show _ → Rn E 69 (55, [.ref 56, .int a1, .ref (18 + 7), .int (tget I (18 + 1) (x65 18 I) 5), us], [.int (x65 18 I), .ref (18 + 1)], wT I R) o w
      refine D.run 4 rfl ?_
      refine D.ce rfl rfl rfl rfl (tset_ok (by decide) (by first | rfl | decide) _ _ _) ?_
      refine D.run 3 rfl ?_
      refine D.call rfl rfl rfl rfl (fun q h => x66_ok (by decide) (by decide) h56_2 h) (fun q1 => ?_)
      refine D.run 4 rfl ?_
      refine D.ce rfl rfl rfl rfl (tadd_ok (by decide) (by first | rfl | decide)) ?_
      show _ → Rn E 69 (80, [.ref 56, .int a1, .ref (18 + 7), .int (tget I (18 + 1) (x65 18 I) 5), .int q1.1], [.int (tadr q1.2 48)], wT (tadd q1.2 48) R) o w
      refine D.run 8 rfl ?_
      refine D.ce rfl rfl rfl rfl (tset_ok (by decide) (by first | rfl | decide) _ _ _) ?_
      refine D.run 8 rfl ?_
      refine D.ce rfl rfl rfl rfl (tsize_ok (by decide) (by first | rfl | decide)) ?_
      refine D.ce rfl rfl rfl rfl (tset_ok (by decide) (by first | rfl | decide) _ _ _) ?_
      refine D.letS (fun J2 => ?_)
      show _ → Rn E 69 (121, [.ref 56, .int a1, .ref (18 + 7), .int (tget I (18 + 1) (x65 18 I) 5), .int q1.1], [], wT J2 R) o w
      refine D.run 6 rfl ?_
      refine D.ce rfl rfl rfl rfl (tset_ok (by decide) (by first | rfl | decide) _ _ _) ?_
      refine D.run 2 rfl ?_
      refine D.call rfl rfl rfl rfl (fun q h => x70_ok (by decide) h56_2 h) (fun q3 => ?_)
      refine D.run 5 rfl ?_
      refine D.call rfl rfl rfl rfl (fun q h => x67_ok h) (fun q4 => ?_)
      show _ → Rn E 69 (150, [.ref 56, .int a1, .ref (18 + 7), .int (tget I (18 + 1) (x65 18 I) 5), .int q1.1], [.int q4.1, .int 3, .int q1.1, .ref (18 + 7)], wT q4.2 R) o w
      refine D.ce rfl rfl rfl rfl (tset_ok (by decide) (by first | rfl | decide) _ _ _) ?_
      refine D.run 4 rfl ?_
      refine D.st rfl (by decide) (gf_1 h56_2) ?_
      refine D.run 1 rfl ?_
      refine D.ce rfl rfl rfl rfl (tsize_ok (by decide) (by first | rfl | decide)) ?_
      show _ → Rn E 69 (167, [.ref 56, .int a1, .ref (18 + 7), .int (tget I (18 + 1) (x65 18 I) 5), .int q1.1], [.int ((tset q4.2 (18 + 7) q1.1 3 q4.1) (18 + 9) 3), .int 5, .int q1.1, .ref (18 + 7)], wT (tset q4.2 (18 + 7) q1.1 3 q4.1) R) o w
      refine D.ce rfl rfl rfl rfl (tset_ok (by decide) (by first | rfl | decide) _ _ _) ?_
      refine D.letS (fun J5 => ?_)
      refine D.run 4 rfl ?_
      refine D.ce rfl rfl rfl rfl (tset_ok (by decide) (by first | rfl | decide) _ _ _) ?_
      refine D.run 4 rfl ?_
      refine D.st rfl (by decide) (gf_1 h56_2) ?_
      show _ → Rn E 69 (188, [.ref 56, .int a1, .ref (18 + 7), .int (tget I (18 + 1) (x65 18 I) 5), .int q1.1], [.ref 18, .int 7, .int q1.1, .ref (18 + 7)], wT (tset J5 (18 + 7) q1.1 6 0) R) o w
      refine D.run 1 rfl ?_
      refine D.ce rfl rfl rfl rfl (tsize_ok (by decide) (by first | rfl | decide)) ?_
      refine D.ce rfl rfl rfl rfl (tset_ok (by decide) (by first | rfl | decide) _ _ _) ?_
      refine D.run 4 rfl ?_
      refine D.ce rfl rfl rfl rfl (tset_ok (by decide) (by first | rfl | decide) _ _ _) ?_
      refine D.letS (fun J6 => ?_)
      show _ → Rn E 69 (206, [.ref 56, .int a1, .ref (18 + 7), .int (tget I (18 + 1) (x65 18 I) 5), .int q1.1], [], wT J6 R) o w
      refine D.run 4 rfl ?_
      refine D.ce rfl rfl rfl rfl (tset_ok (by decide) (by first | rfl | decide) _ _ _) ?_
      refine D.run 2 rfl ?_
      refine D.call rfl rfl rfl rfl (fun q h => x62_ok h) (fun q7 => ?_)
      refine D.run 3 rfl ?_
      exact fun h => by obtain ⟨rfl, rfl⟩ := hT _ (D.some h); exact Rn.ret rfl rfl rfl
    · refine D.run 1 rfl ?_
      refine D.call rfl rfl rfl rfl (fun q h => x58_ok h) (fun q8 => ?_)
      exact fun h => by obtain ⟨rfl, rfl⟩ := hT _ (D.some h); exact Rn.ret rfl rfl rfl
set_option maxRecDepth 20000 in
theorem x69_ok {E : Xe} {R : Nat → Nat → Option Nat} {P : Nat} {I : St} (hP : P = 3 ∨ P = 18) (h56_2 : R 56 2 = some P) {a1 : Int32} {q : St} (h : x69 P I a1 = some q) : Rn E 69 (0, loc0 69 [.ref 56, .int a1], [], wT I R) (.returned none) (wT q R) := x69_D hP h56_2 _ (T := fun r => r = q) (by rintro r rfl; exact ⟨rfl, rfl⟩) ⟨_, h, rfl⟩
/-- TaintHouse$Parser.readTry()V -/
def l73_81 (P : Nat) (b2 : Int32) : Nat → Int32 → St → Option (St)
  | 0, _, _ => none
  | n + 1, b3, I => if 3 < b3 then some I else (x59 I).bind fun q2 => l73_81 P b2 n (b3 + 1) (tset (tset q2.2 (P + 11) b2 b3 q2.1) 54 b2 b3 ((tset q2.2 (P + 11) b2 b3 q2.1) 56 6))
set_option maxRecDepth 20000 in
theorem l73_81_ok {E : Xe} {R : Nat → Nat → Option Nat} {P : Nat} {o : Outcome} {w : Wd} {T : (St) → Prop} {b2 : Int32} (hP : P = 3 ∨ P = 18) (h56_2 : R 56 2 = some P) (K : ∀ (q : St) (e1 : Value) (_ : is1 e1 = true) (e2 : Value) (_ : is1 e2 = true) (e3 : Value) (_ : is1 e3 = true), T q → Rn E 73 (124, [.ref 56, e1, e2, e3], [], wT q R) o w) : ∀ (n : Nat) (b3 : Int32) (d1 : Value) (I : St), is1 d1 = true → Dq (l73_81 P b2 n b3 I) T → Rn E 73 (81, [.ref 56, d1, .int b2, .int b3], [], wT I R) o w := by
  rcases hP with rfl | rfl
  · intro n
    induction n with
    | zero => intro b3 d1 I hd1; exact D.none
    | succ n ih =>
      intro b3 d1 I hd1
      rw [l73_81]
      refine D.run 2 rfl ?_
      refine D.br rfl (by decide) rfl (fun hc => ?_) (fun hc => ?_)
      · exact fun h => D.to h (K _ _ (by first | rfl | assumption) _ (by first | rfl | assumption) _ (by first | rfl | assumption))
      · refine D.run 1 rfl ?_
        refine D.st rfl (by decide) (gf_1 h56_2) ?_
        refine D.run 4 rfl ?_
        refine D.call rfl rfl rfl rfl (fun q h => x59_ok h) (fun q2 => ?_)
        refine D.ce rfl rfl rfl rfl (tset_ok (by decide) (by first | rfl | decide) _ _ _) ?_
        show _ → Rn E 73 (102, [.ref 56, d1, .int b2, .int b3], [], wT (tset q2.2 (3 + 11) b2 b3 q2.1) R) o w
        refine D.run 7 rfl ?_
        refine D.ce rfl rfl rfl rfl (tset_ok (by decide) (by first | rfl | decide) _ _ _) ?_
        refine D.run 2 rfl ?_
        exact ih _ _ _ (by first | rfl | assumption)
  · intro n
    induction n with
    | zero => intro b3 d1 I hd1; exact D.none
    | succ n ih =>
      intro b3 d1 I hd1
      rw [l73_81]
      refine D.run 2 rfl ?_
      refine D.br rfl (by decide) rfl (fun hc => ?_) (fun hc => ?_)
      · exact fun h => D.to h (K _ _ (by first | rfl | assumption) _ (by first | rfl | assumption) _ (by first | rfl | assumption))
      · refine D.run 1 rfl ?_
        refine D.st rfl (by decide) (gf_1 h56_2) ?_
        refine D.run 4 rfl ?_
        refine D.call rfl rfl rfl rfl (fun q h => x59_ok h) (fun q2 => ?_)
        refine D.ce rfl rfl rfl rfl (tset_ok (by decide) (by first | rfl | decide) _ _ _) ?_
        show _ → Rn E 73 (102, [.ref 56, d1, .int b2, .int b3], [], wT (tset q2.2 (18 + 11) b2 b3 q2.1) R) o w
        refine D.run 7 rfl ?_
        refine D.ce rfl rfl rfl rfl (tset_ok (by decide) (by first | rfl | decide) _ _ _) ?_
        refine D.run 2 rfl ?_
        exact ih _ _ _ (by first | rfl | assumption)
def x73 (P : Nat) (I : St) : Option (St) := if (tget I (P + 7) (x72 P I) 8) < 8 then Lt (up2 (tset I (P + 7) (x72 P I) 8 ((tget I (P + 7) (x72 P I) 8) + 1)) 56 3 (((tset I (P + 7) (x72 P I) 8 ((tget I (P + 7) (x72 P I) 8) + 1)) 56 3) + 1)) fun J1 => (l73_81 P (tadr J1 (P + 11)) 100000 0 (tadd (tadd J1 (P + 11)) 54)).bind fun q3 => (x62 q3 59).bind fun q7 => some q7 else (x58 I).bind fun q8 => some q8
set_option maxRecDepth 20000 in
theorem x73_D {E : Xe} {R : Nat → Nat → Option Nat} {P : Nat} {o : Outcome} {w : Wd} {T : (St) → Prop} {I : St} (hP : P = 3 ∨ P = 18) (h56_2 : R 56 2 = some P) (hT : ∀ r, T r → o = .returned none ∧ w = wT r R) : Dq (x73 P I) T → Rn E 73 (0, loc0 73 [.ref 56], [], wT I R) o w := by
  unfold x73
  rcases hP with rfl | rfl
  · refine D.run 1 rfl ?_
    refine D.st rfl (by decide) (gf_1 h56_2) ?_
    refine D.run 2 rfl ?_
    refine D.ce rfl rfl rfl rfl (x72_ok (by decide) h56_2) ?_
    refine D.run 1 rfl ?_
    refine D.ce rfl rfl rfl rfl (tget_ok (by decide) (by first | rfl | decide) _ _) ?_
    show _ → Rn E 73 (16, [.ref 56, us, us, us], [.int (tget I (3 + 7) (x72 3 I) 8)], wT I R) o w
    refine D.run 3 rfl ?_
    refine D.br rfl (by decide) rfl (fun hc => ?_) (fun hc => ?_)
    · refine D.run 1 rfl ?_
      refine D.st rfl (by decide) (gf_1 h56_2) ?_
      refine D.run 2 rfl ?_
      refine D.ce rfl rfl rfl rfl (x72_ok (by decide) h56_2) ?_
      refine D.run 4 rfl ?_
      refine D.ce rfl rfl rfl rfl (tset_ok (by decide) (by first | rfl | decide) _ _ _) ?_
      show _ → Rn E 73 (47, [.ref 56, .int (tget I (3 + 7) (x72 3 I) 8), us, us], [], wT (tset I (3 + 7) (x72 3 I) 8 ((tget I (3 + 7) (x72 3 I) 8) + 1)) R) o w
      refine D.run 6 rfl ?_
      refine D.letS (fun J1 => ?_)
      refine D.run 1 rfl ?_
      refine D.st rfl (by decide) (gf_1 h56_2) ?_
      refine D.run 1 rfl ?_
      refine D.ce rfl rfl rfl rfl (tadd_ok (by decide) (by first | rfl | decide)) ?_
      show _ → Rn E 73 (67, [.ref 56, .int (tget I (3 + 7) (x72 3 I) 8), us, us], [.int (tadr J1 (3 + 11))], wT (tadd J1 (3 + 11)) R) o w
      refine D.run 4 rfl ?_
      refine D.ce rfl rfl rfl rfl (tadd_ok (by decide) (by first | rfl | decide)) ?_
      refine D.run 3 rfl ?_
      refine D.bind (l73_81_ok (by decide) h56_2 (fun q3 e4 he4 e5 he5 e6 he6 => ?_) 100000 _ _ _ (by first | rfl | assumption))
      refine D.run 2 rfl ?_
      refine D.call rfl rfl rfl rfl (fun q h => x62_ok h) (fun q7 => ?_)
      exact fun h => by obtain ⟨rfl, rfl⟩ := hT _ (D.some h); exact Rn.ret rfl rfl rfl
    · refine D.run 1 rfl ?_
      refine D.call rfl rfl rfl rfl (fun q h => x58_ok h) (fun q8 => ?_)
      exact fun h => by obtain ⟨rfl, rfl⟩ := hT _ (D.some h); exact Rn.ret rfl rfl rfl
  · refine D.run 1 rfl ?_
    refine D.st rfl (by decide) (gf_1 h56_2) ?_
    refine D.run 2 rfl ?_
    refine D.ce rfl rfl rfl rfl (x72_ok (by decide) h56_2) ?_
    refine D.run 1 rfl ?_
    refine D.ce rfl rfl rfl rfl (tget_ok (by decide) (by first | rfl | decide) _ _) ?_
    show _ → Rn E 73 (16, [.ref 56, us, us, us], [.int (tget I (18 + 7) (x72 18 I) 8)], wT I R) o w
    refine D.run 3 rfl ?_
    refine D.br rfl (by decide) rfl (fun hc => ?_) (fun hc => ?_)
    · refine D.run 1 rfl ?_
      refine D.st rfl (by decide) (gf_1 h56_2) ?_
      refine D.run 2 rfl ?_
      refine D.ce rfl rfl rfl rfl (x72_ok (by decide) h56_2) ?_
      refine D.run 4 rfl ?_
      refine D.ce rfl rfl rfl rfl (tset_ok (by decide) (by first | rfl | decide) _ _ _) ?_
      show _ → Rn E 73 (47, [.ref 56, .int (tget I (18 + 7) (x72 18 I) 8), us, us], [], wT (tset I (18 + 7) (x72 18 I) 8 ((tget I (18 + 7) (x72 18 I) 8) + 1)) R) o w
      refine D.run 6 rfl ?_
      refine D.letS (fun J1 => ?_)
      refine D.run 1 rfl ?_
      refine D.st rfl (by decide) (gf_1 h56_2) ?_
      refine D.run 1 rfl ?_
      refine D.ce rfl rfl rfl rfl (tadd_ok (by decide) (by first | rfl | decide)) ?_
      show _ → Rn E 73 (67, [.ref 56, .int (tget I (18 + 7) (x72 18 I) 8), us, us], [.int (tadr J1 (18 + 11))], wT (tadd J1 (18 + 11)) R) o w
      refine D.run 4 rfl ?_
      refine D.ce rfl rfl rfl rfl (tadd_ok (by decide) (by first | rfl | decide)) ?_
      refine D.run 3 rfl ?_
      refine D.bind (l73_81_ok (by decide) h56_2 (fun q3 e4 he4 e5 he5 e6 he6 => ?_) 100000 _ _ _ (by first | rfl | assumption))
      refine D.run 2 rfl ?_
      refine D.call rfl rfl rfl rfl (fun q h => x62_ok h) (fun q7 => ?_)
      exact fun h => by obtain ⟨rfl, rfl⟩ := hT _ (D.some h); exact Rn.ret rfl rfl rfl
    · refine D.run 1 rfl ?_
      refine D.call rfl rfl rfl rfl (fun q h => x58_ok h) (fun q8 => ?_)
      exact fun h => by obtain ⟨rfl, rfl⟩ := hT _ (D.some h); exact Rn.ret rfl rfl rfl
set_option maxRecDepth 20000 in
theorem x73_ok {E : Xe} {R : Nat → Nat → Option Nat} {P : Nat} {I : St} (hP : P = 3 ∨ P = 18) (h56_2 : R 56 2 = some P) {q : St} (h : x73 P I = some q) : Rn E 73 (0, loc0 73 [.ref 56], [], wT I R) (.returned none) (wT q R) := x73_D hP h56_2 (T := fun r => r = q) (by rintro r rfl; exact ⟨rfl, rfl⟩) ⟨_, h, rfl⟩
/-- TaintHouse$Parser.takeSigned(I)I -/
def x77 (I : St) (a1 : Int32) : Option (Int32 × St) := if (x61 I 45) = 0 then (x78 I a1).bind fun q1 => some (q1.1, q1.2) else if a1 = 2147483647 then if (x56 (up2 I 56 3 ((I 56 3) + 1))) = 5 then some ((-2147483648), (up2 (up2 I 56 3 ((I 56 3) + 1)) 56 3 (((I 56 3) + 1) + 1))) else (x78 (up2 I 56 3 ((I 56 3) + 1)) a1).bind fun q2 => some ((-q2.1), q2.2) else (x78 (up2 I 56 3 ((I 56 3) + 1)) a1).bind fun q3 => some ((-q3.1), q3.2)
set_option maxRecDepth 20000 in
theorem x77_D {E : Xe} {R : Nat → Nat → Option Nat} {o : Outcome} {w : Wd} {T : (Int32 × St) → Prop} {I : St} (a1 : Int32) (hT : ∀ r, T r → o = .returned (some (.int r.1)) ∧ w = wT r.2 R) : Dq (x77 I a1) T → Rn E 77 (0, loc0 77 [.ref 56, .int a1], [], wT I R) o w := by
  unfold x77
  refine D.run 2 rfl ?_
  refine D.ce rfl rfl rfl rfl (x61_ok _) ?_
  refine D.br rfl (by decide) rfl (fun hc => ?_) (fun hc => ?_)
  · refine D.run 2 rfl ?_
    refine D.call rfl rfl rfl rfl (fun q h => x78_ok h) (fun q1 => ?_)
    exact fun h => by obtain ⟨rfl, rfl⟩ := hT _ (D.some h); exact Rn.ret rfl rfl rfl
  · refine D.run 8 rfl ?_
    refine D.br rfl (by decide) rfl (fun hc => ?_) (fun hc => ?_)
    · refine D.run 1 rfl ?_
      refine D.ce rfl rfl rfl rfl (x56_ok) ?_
      refine D.run 1 rfl ?_
      refine D.br rfl (by decide) rfl (fun hc => ?_) (fun hc => ?_)
      · refine D.run 7 rfl ?_
        exact fun h => by obtain ⟨rfl, rfl⟩ := hT _ (D.some h); exact Rn.ret rfl rfl rfl
      · refine D.run 2 rfl ?_
        refine D.call rfl rfl rfl rfl (fun q h => x78_ok h) (fun q2 => ?_)
        refine D.run 1 rfl ?_
        exact fun h => by obtain ⟨rfl, rfl⟩ := hT _ (D.some h); exact Rn.ret rfl rfl rfl
    · refine D.run 2 rfl ?_
      refine D.call rfl rfl rfl rfl (fun q h => x78_ok h) (fun q3 => ?_)
      refine D.run 1 rfl ?_
      exact fun h => by obtain ⟨rfl, rfl⟩ := hT _ (D.some h); exact Rn.ret rfl rfl rfl
set_option maxRecDepth 20000 in
theorem x77_ok {E : Xe} {R : Nat → Nat → Option Nat} {I : St} {a1 : Int32} {q : Int32 × St} (h : x77 I a1 = some q) : Rn E 77 (0, loc0 77 [.ref 56, .int a1], [], wT I R) (.returned (some (.int q.1))) (wT q.2 R) := x77_D  _ (T := fun r => r = q) (by rintro r rfl; exact ⟨rfl, rfl⟩) ⟨_, h, rfl⟩
/-- TaintHouse$Parser.readToldName(II)V -/
def x79 (P : Nat) (I : St) (a1 a2 : Int32) : Option (St) := (x59 I).bind fun q1 => some (tset (tset q1.2 (P + 9) a1 a2 q1.1) 52 a1 a2 ((tset q1.2 (P + 9) a1 a2 q1.1) 56 6))
set_option maxRecDepth 20000 in
theorem x79_D {E : Xe} {R : Nat → Nat → Option Nat} {P : Nat} {o : Outcome} {w : Wd} {T : (St) → Prop} {I : St} (hP : P = 3 ∨ P = 18) (h56_2 : R 56 2 = some P) (a1 a2 : Int32) (hT : ∀ r, T r → o = .returned none ∧ w = wT r R) : Dq (x79 P I a1 a2) T → Rn E 79 (0, loc0 79 [.ref 56, .int a1, .int a2], [], wT I R) o w := by
  unfold x79
  rcases hP with rfl | rfl
  · refine D.run 1 rfl ?_
    refine D.st rfl (by decide) (gf_1 h56_2) ?_
    refine D.run 4 rfl ?_
    refine D.call rfl rfl rfl rfl (fun q h => x59_ok h) (fun q1 => ?_)
    refine D.ce rfl rfl rfl rfl (tset_ok (by decide) (by first | rfl | decide) _ _ _) ?_
    show _ → Rn E 79 (16, [.ref 56, .int a1, .int a2], [], wT (tset q1.2 (3 + 9) a1 a2 q1.1) R) o w
    refine D.run 7 rfl ?_
    refine D.ce rfl rfl rfl rfl (tset_ok (by decide) (by first | rfl | decide) _ _ _) ?_
    exact fun h => by obtain ⟨rfl, rfl⟩ := hT _ (D.some h); exact Rn.ret rfl rfl rfl
  · refine D.run 1 rfl ?_
    refine D.st rfl (by decide) (gf_1 h56_2) ?_
    refine D.run 4 rfl ?_
    refine D.call rfl rfl rfl rfl (fun q h => x59_ok h) (fun q1 => ?_)
    refine D.ce rfl rfl rfl rfl (tset_ok (by decide) (by first | rfl | decide) _ _ _) ?_
    show _ → Rn E 79 (16, [.ref 56, .int a1, .int a2], [], wT (tset q1.2 (18 + 9) a1 a2 q1.1) R) o w
    refine D.run 7 rfl ?_
    refine D.ce rfl rfl rfl rfl (tset_ok (by decide) (by first | rfl | decide) _ _ _) ?_
    exact fun h => by obtain ⟨rfl, rfl⟩ := hT _ (D.some h); exact Rn.ret rfl rfl rfl
set_option maxRecDepth 20000 in
theorem x79_ok {E : Xe} {R : Nat → Nat → Option Nat} {P : Nat} {I : St} (hP : P = 3 ∨ P = 18) (h56_2 : R 56 2 = some P) {a1 a2 : Int32} {q : St} (h : x79 P I a1 a2 = some q) : Rn E 79 (0, loc0 79 [.ref 56, .int a1, .int a2], [], wT I R) (.returned none) (wT q R) := x79_D hP h56_2 _ _ (T := fun r => r = q) (by rintro r rfl; exact ⟨rfl, rfl⟩) ⟨_, h, rfl⟩
/-- TaintHouse$Parser.readLabel()V -/
def x80 (P : Nat) (I : St) : Option (St) := (x59 I).bind fun q1 => Lt (tset (tset (tadd q1.2 50) 50 (tadr q1.2 50) 0 q1.1) 50 (tadr q1.2 50) 1 ((tset (tadd q1.2 50) 50 (tadr q1.2 50) 0 q1.1) 56 6)) fun J2 => Lt (tget (tset J2 50 (tadr q1.2 50) 2 (tget J2 (P + 7) (x72 P J2) 6)) 48 (x72 P (tset J2 50 (tadr q1.2 50) 2 (tget J2 (P + 7) (x72 P J2) 6))) 3) fun v3 => Lt (tset (tset J2 50 (tadr q1.2 50) 2 (tget J2 (P + 7) (x72 P J2) 6)) 48 (x72 P (tset J2 50 (tadr q1.2 50) 2 (tget J2 (P + 7) (x72 P J2) 6))) 3 (v3 + 1)) fun J4 => (x62 J4 58).bind fun q5 => some q5
set_option maxRecDepth 20000 in
theorem x80_D {E : Xe} {R : Nat → Nat → Option Nat} {P : Nat} {o : Outcome} {w : Wd} {T : (St) → Prop} {I : St} (hP : P = 3 ∨ P = 18) (h56_2 : R 56 2 = some P) (hT : ∀ r, T r → o = .returned none ∧ w = wT r R) : Dq (x80 P I) T → Rn E 80 (0, loc0 80 [.ref 56], [], wT I R) o w := by
  unfold x80
  rcases hP with rfl | rfl
  · refine D.run 1 rfl ?_
    refine D.call rfl rfl rfl rfl (fun q h => x59_ok h) (fun q1 => ?_)
    refine D.run 4 rfl ?_
    refine D.ce rfl rfl rfl rfl (tadd_ok (by decide) (by first | rfl | decide)) ?_
    refine D.run 7 rfl ?_
    refine D.ce rfl rfl rfl rfl (tset_ok (by decide) (by first | rfl | decide) _ _ _) ?_
    show _ → Rn E 80 (29, [.ref 56, .int q1.1, .int (tadr q1.2 50), us], [], wT (tset (tadd q1.2 50) 50 (tadr q1.2 50) 0 q1.1) R) o w
    refine D.run 7 rfl ?_
    refine D.ce rfl rfl rfl rfl (tset_ok (by decide) (by first | rfl | decide) _ _ _) ?_
    refine D.letS (fun J2 => ?_)
    refine D.run 6 rfl ?_
    refine D.st rfl (by decide) (gf_1 h56_2) ?_
    show _ → Rn E 80 (58, [.ref 56, .int q1.1, .int (tadr q1.2 50), us], [.ref 3, .int 2, .int (tadr q1.2 50), .ref 50], wT J2 R) o w
    refine D.run 2 rfl ?_
    refine D.ce rfl rfl rfl rfl (x72_ok (by decide) h56_2) ?_
    refine D.run 1 rfl ?_
    refine D.ce rfl rfl rfl rfl (tget_ok (by decide) (by first | rfl | decide) _ _) ?_
    refine D.ce rfl rfl rfl rfl (tset_ok (by decide) (by first | rfl | decide) _ _ _) ?_
    show _ → Rn E 80 (73, [.ref 56, .int q1.1, .int (tadr q1.2 50), us], [], wT (tset J2 50 (tadr q1.2 50) 2 (tget J2 (3 + 7) (x72 3 J2) 6)) R) o w
    refine D.run 4 rfl ?_
    refine D.ce rfl rfl rfl rfl (x72_ok (by decide) h56_2) ?_
    refine D.run 1 rfl ?_
    refine D.ce rfl rfl rfl rfl (tget_ok (by decide) (by first | rfl | decide) _ _) ?_
    refine D.run 1 rfl ?_
    refine D.letV (frame := fun v3 => (89, [.ref 56, .int q1.1, .int (tadr q1.2 50), .int v3], [], wT (tset J2 50 (tadr q1.2 50) 2 (tget J2 (3 + 7) (x72 3 J2) 6)) R)) (fun v3 => ?_)
    show _ → Rn E 80 (89, [.ref 56, .int q1.1, .int (tadr q1.2 50), .int v3], [], wT (tset J2 50 (tadr q1.2 50) 2 (tget J2 (3 + 7) (x72 3 J2) 6)) R) o w
    refine D.run 4 rfl ?_
    refine D.ce rfl rfl rfl rfl (x72_ok (by decide) h56_2) ?_
    refine D.run 4 rfl ?_
    refine D.ce rfl rfl rfl rfl (tset_ok (by decide) (by first | rfl | decide) _ _ _) ?_
    refine D.letS (fun J4 => ?_)
    show _ → Rn E 80 (107, [.ref 56, .int q1.1, .int (tadr q1.2 50), .int v3], [], wT J4 R) o w
    refine D.run 2 rfl ?_
    refine D.call rfl rfl rfl rfl (fun q h => x62_ok h) (fun q5 => ?_)
    exact fun h => by obtain ⟨rfl, rfl⟩ := hT _ (D.some h); exact Rn.ret rfl rfl rfl
  · refine D.run 1 rfl ?_
    refine D.call rfl rfl rfl rfl (fun q h => x59_ok h) (fun q1 => ?_)
    refine D.run 4 rfl ?_
    refine D.ce rfl rfl rfl rfl (tadd_ok (by decide) (by first | rfl | decide)) ?_
    refine D.run 7 rfl ?_
    refine D.ce rfl rfl rfl rfl (tset_ok (by decide) (by first | rfl | decide) _ _ _) ?_
    show _ → Rn E 80 (29, [.ref 56, .int q1.1, .int (tadr q1.2 50), us], [], wT (tset (tadd q1.2 50) 50 (tadr q1.2 50) 0 q1.1) R) o w
    refine D.run 7 rfl ?_
    refine D.ce rfl rfl rfl rfl (tset_ok (by decide) (by first | rfl | decide) _ _ _) ?_
    refine D.letS (fun J2 => ?_)
    refine D.run 6 rfl ?_
    refine D.st rfl (by decide) (gf_1 h56_2) ?_
    show _ → Rn E 80 (58, [.ref 56, .int q1.1, .int (tadr q1.2 50), us], [.ref 18, .int 2, .int (tadr q1.2 50), .ref 50], wT J2 R) o w
    refine D.run 2 rfl ?_
    refine D.ce rfl rfl rfl rfl (x72_ok (by decide) h56_2) ?_
    refine D.run 1 rfl ?_
    refine D.ce rfl rfl rfl rfl (tget_ok (by decide) (by first | rfl | decide) _ _) ?_
    refine D.ce rfl rfl rfl rfl (tset_ok (by decide) (by first | rfl | decide) _ _ _) ?_
    show _ → Rn E 80 (73, [.ref 56, .int q1.1, .int (tadr q1.2 50), us], [], wT (tset J2 50 (tadr q1.2 50) 2 (tget J2 (18 + 7) (x72 18 J2) 6)) R) o w
    refine D.run 4 rfl ?_
    refine D.ce rfl rfl rfl rfl (x72_ok (by decide) h56_2) ?_
    refine D.run 1 rfl ?_
    refine D.ce rfl rfl rfl rfl (tget_ok (by decide) (by first | rfl | decide) _ _) ?_
    refine D.run 1 rfl ?_
    refine D.letV (frame := fun v3 => (89, [.ref 56, .int q1.1, .int (tadr q1.2 50), .int v3], [], wT (tset J2 50 (tadr q1.2 50) 2 (tget J2 (18 + 7) (x72 18 J2) 6)) R)) (fun v3 => ?_)
    show _ → Rn E 80 (89, [.ref 56, .int q1.1, .int (tadr q1.2 50), .int v3], [], wT (tset J2 50 (tadr q1.2 50) 2 (tget J2 (18 + 7) (x72 18 J2) 6)) R) o w
    refine D.run 4 rfl ?_
    refine D.ce rfl rfl rfl rfl (x72_ok (by decide) h56_2) ?_
    refine D.run 4 rfl ?_
    refine D.ce rfl rfl rfl rfl (tset_ok (by decide) (by first | rfl | decide) _ _ _) ?_
    refine D.letS (fun J4 => ?_)
    show _ → Rn E 80 (107, [.ref 56, .int q1.1, .int (tadr q1.2 50), .int v3], [], wT J4 R) o w
    refine D.run 2 rfl ?_
    refine D.call rfl rfl rfl rfl (fun q h => x62_ok h) (fun q5 => ?_)
    exact fun h => by obtain ⟨rfl, rfl⟩ := hT _ (D.some h); exact Rn.ret rfl rfl rfl
set_option maxRecDepth 20000 in
theorem x80_ok {E : Xe} {R : Nat → Nat → Option Nat} {P : Nat} {I : St} (hP : P = 3 ∨ P = 18) (h56_2 : R 56 2 = some P) {q : St} (h : x80 P I = some q) : Rn E 80 (0, loc0 80 [.ref 56], [], wT I R) (.returned none) (wT q R) := x80_D hP h56_2 (T := fun r => r = q) (by rintro r rfl; exact ⟨rfl, rfl⟩) ⟨_, h, rfl⟩
/-- TaintHouse$Linker.linkClass(I)V -/
def x82 (P : Nat) (I : St) (a1 : Int32) : Option (St) := (if a1 < 7 then some I else if (tget I 44 a1 1) = (-1) then some I else if (tget I 37 (tget I 44 a1 1) 0) = (-1) then (x83 I (tget I 44 a1 2) 2).bind fun q1 => some q1 else some (tset I (P + 1) a1 0 (tget I 37 (tget I 44 a1 1) 0))).bind fun (q2 : St) => if (tget q2 37 (tget I (P + 1) a1 1) 0) = (-1) then some (tset q2 37 (tget I (P + 1) a1 1) 0 a1) else (x83 q2 (tget q2 44 a1 0) 1).bind fun q4 => some q4
set_option maxRecDepth 20000 in
theorem x82_D {E : Xe} {R : Nat → Nat → Option Nat} {P : Nat} {o : Outcome} {w : Wd} {T : (St) → Prop} {I : St} (hP : P = 3 ∨ P = 18) (h57_2 : R 57 2 = some P) (a1 : Int32) (hT : ∀ r, T r → o = .returned none ∧ w = wT r R) : Dq (x82 P I a1) T → Rn E 82 (0, loc0 82 [.ref 57, .int a1], [], wT I R) o w := by
  unfold x82
  rcases hP with rfl | rfl
  · refine D.run 1 rfl ?_
    refine D.st rfl (by decide) (gf_1 h57_2) ?_
    refine D.run 3 rfl ?_
    refine D.ce rfl rfl rfl rfl (tget_ok (by decide) (by first | rfl | decide) _ _) ?_
    refine D.run 3 rfl ?_
    have Kj94 : ∀ (q2 : St) (e3 : Value), is1 e3 = true → Dq (if (tget q2 37 (tget I (3 + 1) a1 1) 0) = (-1) then some (tset q2 37 (tget I (3 + 1) a1 1) 0 a1) else (x83 q2 (tget q2 44 a1 0) 1).bind fun q4 => some q4) T → Rn E 82 (94, [.ref 57, .int a1, .int (tget I (3 + 1) a1 1), e3], [], wT q2 R) o w := by
      intro q2 e3 he3
      refine D.run 4 rfl ?_
      refine D.ce rfl rfl rfl rfl (tget_ok (by decide) (by first | rfl | decide) _ _) ?_
      refine D.run 1 rfl ?_
      refine D.br rfl (by decide) rfl (fun hc => ?_) (fun hc => ?_)
      · refine D.run 5 rfl ?_
        refine D.ce rfl rfl rfl rfl (tset_ok (by decide) (by first | rfl | decide) _ _ _) ?_
        refine D.run 1 rfl ?_
        exact fun h => by obtain ⟨rfl, rfl⟩ := hT _ (D.some h); exact Rn.ret rfl rfl rfl
      · refine D.run 6 rfl ?_
        refine D.ce rfl rfl rfl rfl (tget_ok (by decide) (by first | rfl | decide) _ _) ?_
        refine D.run 1 rfl ?_
        refine D.call rfl rfl rfl rfl (fun q h => x83_ok h) (fun q4 => ?_)
        exact fun h => by obtain ⟨rfl, rfl⟩ := hT _ (D.some h); exact Rn.ret rfl rfl rfl
    refine D.jn (fun T94 c94 => ?_)
    refine D.br rfl (by decide) rfl (fun hc => ?_) (fun hc => ?_)
    · exact fun h => Kj94 _ _ (by first | rfl | assumption) (c94 _ (D.some h))
    · refine D.run 5 rfl ?_
      refine D.ce rfl rfl rfl rfl (tget_ok (by decide) (by first | rfl | decide) _ _) ?_
      refine D.run 1 rfl ?_
      refine D.br rfl (by decide) rfl (fun hc => ?_) (fun hc => ?_)
      · exact fun h => Kj94 _ _ (by first | rfl | assumption) (c94 _ (D.some h))
      · refine D.run 7 rfl ?_
        refine D.ce rfl rfl rfl rfl (tget_ok (by decide) (by first | rfl | decide) _ _) ?_
        refine D.run 1 rfl ?_
        refine D.ce rfl rfl rfl rfl (tget_ok (by decide) (by first | rfl | decide) _ _) ?_
        refine D.run 3 rfl ?_
        refine D.br rfl (by decide) rfl (fun hc => ?_) (fun hc => ?_)
        · refine D.run 6 rfl ?_
          refine D.ce rfl rfl rfl rfl (tget_ok (by decide) (by first | rfl | decide) _ _) ?_
          refine D.run 1 rfl ?_
          refine D.call rfl rfl rfl rfl (fun q h => x83_ok h) (fun q1 => ?_)
          refine D.run 1 rfl ?_
          exact fun h => Kj94 _ _ (by first | rfl | assumption) (c94 _ (D.some h))
        · refine D.run 1 rfl ?_
          refine D.st rfl (by decide) (gf_1 h57_2) ?_
          refine D.run 4 rfl ?_
          refine D.ce rfl rfl rfl rfl (tset_ok (by decide) (by first | rfl | decide) _ _ _) ?_
          exact fun h => Kj94 _ _ (by first | rfl | assumption) (c94 _ (D.some h))
  · refine D.run 1 rfl ?_
    refine D.st rfl (by decide) (gf_1 h57_2) ?_
    refine D.run 3 rfl ?_
    refine D.ce rfl rfl rfl rfl (tget_ok (by decide) (by first | rfl | decide) _ _) ?_
    refine D.run 3 rfl ?_
    have Kj94 : ∀ (q2 : St) (e3 : Value), is1 e3 = true → Dq (if (tget q2 37 (tget I (18 + 1) a1 1) 0) = (-1) then some (tset q2 37 (tget I (18 + 1) a1 1) 0 a1) else (x83 q2 (tget q2 44 a1 0) 1).bind fun q4 => some q4) T → Rn E 82 (94, [.ref 57, .int a1, .int (tget I (18 + 1) a1 1), e3], [], wT q2 R) o w := by
      intro q2 e3 he3
      refine D.run 4 rfl ?_
      refine D.ce rfl rfl rfl rfl (tget_ok (by decide) (by first | rfl | decide) _ _) ?_
      refine D.run 1 rfl ?_
      refine D.br rfl (by decide) rfl (fun hc => ?_) (fun hc => ?_)
      · refine D.run 5 rfl ?_
        refine D.ce rfl rfl rfl rfl (tset_ok (by decide) (by first | rfl | decide) _ _ _) ?_
        refine D.run 1 rfl ?_
        exact fun h => by obtain ⟨rfl, rfl⟩ := hT _ (D.some h); exact Rn.ret rfl rfl rfl
      · refine D.run 6 rfl ?_
        refine D.ce rfl rfl rfl rfl (tget_ok (by decide) (by first | rfl | decide) _ _) ?_
        refine D.run 1 rfl ?_
        refine D.call rfl rfl rfl rfl (fun q h => x83_ok h) (fun q4 => ?_)
        exact fun h => by obtain ⟨rfl, rfl⟩ := hT _ (D.some h); exact Rn.ret rfl rfl rfl
    refine D.jn (fun T94 c94 => ?_)
    refine D.br rfl (by decide) rfl (fun hc => ?_) (fun hc => ?_)
    · exact fun h => Kj94 _ _ (by first | rfl | assumption) (c94 _ (D.some h))
    · refine D.run 5 rfl ?_
      refine D.ce rfl rfl rfl rfl (tget_ok (by decide) (by first | rfl | decide) _ _) ?_
      refine D.run 1 rfl ?_
      refine D.br rfl (by decide) rfl (fun hc => ?_) (fun hc => ?_)
      · exact fun h => Kj94 _ _ (by first | rfl | assumption) (c94 _ (D.some h))
      · refine D.run 7 rfl ?_
        refine D.ce rfl rfl rfl rfl (tget_ok (by decide) (by first | rfl | decide) _ _) ?_
        refine D.run 1 rfl ?_
        refine D.ce rfl rfl rfl rfl (tget_ok (by decide) (by first | rfl | decide) _ _) ?_
        refine D.run 3 rfl ?_
        refine D.br rfl (by decide) rfl (fun hc => ?_) (fun hc => ?_)
        · refine D.run 6 rfl ?_
          refine D.ce rfl rfl rfl rfl (tget_ok (by decide) (by first | rfl | decide) _ _) ?_
          refine D.run 1 rfl ?_
          refine D.call rfl rfl rfl rfl (fun q h => x83_ok h) (fun q1 => ?_)
          refine D.run 1 rfl ?_
          exact fun h => Kj94 _ _ (by first | rfl | assumption) (c94 _ (D.some h))
        · refine D.run 1 rfl ?_
          refine D.st rfl (by decide) (gf_1 h57_2) ?_
          refine D.run 4 rfl ?_
          refine D.ce rfl rfl rfl rfl (tset_ok (by decide) (by first | rfl | decide) _ _ _) ?_
          exact fun h => Kj94 _ _ (by first | rfl | assumption) (c94 _ (D.some h))
set_option maxRecDepth 20000 in
theorem x82_ok {E : Xe} {R : Nat → Nat → Option Nat} {P : Nat} {I : St} (hP : P = 3 ∨ P = 18) (h57_2 : R 57 2 = some P) {a1 : Int32} {q : St} (h : x82 P I a1 = some q) : Rn E 82 (0, loc0 82 [.ref 57, .int a1], [], wT I R) (.returned none) (wT q R) := x82_D hP h57_2 _ (T := fun r => r = q) (by rintro r rfl; exact ⟨rfl, rfl⟩) ⟨_, h, rfl⟩
/-- TaintHouse$Linker.haveSameKinds(II)Z -/
def l88_61 (P : Nat) (b1 : Int32) (b2 : Int32) (b3 : Int32) : Nat → Int32 → St → Option ((Unit) ⊕ (Int32))
  | 0, _, _ => none
  | n + 1, b4, I => if b3 ≤ b4 then some (.inl ()) else if (x89 P I b1 b4) = (x89 P I b2 b4) then l88_61 P b1 b2 b3 n (b4 + 1) I else some (.inr 0)
set_option maxRecDepth 20000 in
theorem l88_61_ok {E : Xe} {R : Nat → Nat → Option Nat} {P : Nat} {I0 : St} {o : Outcome} {w : Wd} {T : ((Unit) ⊕ (Int32)) → Prop} {b1 : Int32} {b2 : Int32} {b3 : Int32} (hP : P = 3 ∨ P = 18) (h57_2 : R 57 2 = some P) (hT : ∀ r, T (.inr r) → o = .returned (some (.int r)) ∧ w = wT I0 R) (K : ∀ (q : Unit) (e1 : Value) (_ : is1 e1 = true) (e2 : Value) (_ : is1 e2 = true) (e3 : Value) (_ : is1 e3 = true) (e4 : Value) (_ : is1 e4 = true), T (.inl q) → Rn E 88 (98, [.ref 57, e1, e2, e3, e4], [], wT I0 R) o w) : ∀ (n : Nat) (b4 : Int32), Dq (l88_61 P b1 b2 b3 n b4 I0) T → Rn E 88 (61, [.ref 57, .int b1, .int b2, .int b3, .int b4], [], wT I0 R) o w := by
  rcases hP with rfl | rfl
  · intro n
    induction n with
    | zero => intro b4; exact D.none
    | succ n ih =>
      intro b4
      rw [l88_61]
      refine D.run 2 rfl ?_
      refine D.br rfl (by decide) rfl (fun hc => ?_) (fun hc => ?_)
      · exact fun h => D.to h (K _ _ (by first | rfl | assumption) _ (by first | rfl | assumption) _ (by first | rfl | assumption) _ (by first | rfl | assumption))
      · refine D.run 1 rfl ?_
        refine D.st rfl (by decide) (gf_1 h57_2) ?_
        refine D.run 2 rfl ?_
        refine D.ce rfl rfl rfl rfl (x89_ok (by decide) _ _) ?_
        refine D.run 1 rfl ?_
        refine D.st rfl (by decide) (gf_1 h57_2) ?_
        show _ → Rn E 88 (81, [.ref 57, .int b1, .int b2, .int b3, .int b4], [.ref 3, .int (x89 3 I0 b1 b4)], wT I0 R) o w
        refine D.run 2 rfl ?_
        refine D.ce rfl rfl rfl rfl (x89_ok (by decide) _ _) ?_
        refine D.br rfl (by decide) rfl (fun hc => ?_) (fun hc => ?_)
        · refine D.run 2 rfl ?_
          exact ih _  
        · refine D.run 1 rfl ?_
          exact fun h => by obtain ⟨rfl, rfl⟩ := hT _ (D.some h); exact Rn.ret rfl rfl (by first | rfl | (simp [rt1, rt]; done) | decide)
  · intro n
    induction n with
    | zero => intro b4; exact D.none
    | succ n ih =>
      intro b4
      rw [l88_61]
      refine D.run 2 rfl ?_
      refine D.br rfl (by decide) rfl (fun hc => ?_) (fun hc => ?_)
      · exact fun h => D.to h (K _ _ (by first | rfl | assumption) _ (by first | rfl | assumption) _ (by first | rfl | assumption) _ (by first | rfl | assumption))
      · refine D.run 1 rfl ?_
        refine D.st rfl (by decide) (gf_1 h57_2) ?_
        refine D.run 2 rfl ?_
        refine D.ce rfl rfl rfl rfl (x89_ok (by decide) _ _) ?_
        refine D.run 1 rfl ?_
        refine D.st rfl (by decide) (gf_1 h57_2) ?_
        show _ → Rn E 88 (81, [.ref 57, .int b1, .int b2, .int b3, .int b4], [.ref 18, .int (x89 18 I0 b1 b4)], wT I0 R) o w
        refine D.run 2 rfl ?_
        refine D.ce rfl rfl rfl rfl (x89_ok (by decide) _ _) ?_
        refine D.br rfl (by decide) rfl (fun hc => ?_) (fun hc => ?_)
        · refine D.run 2 rfl ?_
          exact ih _  
        · refine D.run 1 rfl ?_
          exact fun h => by obtain ⟨rfl, rfl⟩ := hT _ (D.some h); exact Rn.ret rfl rfl (by first | rfl | (simp [rt1, rt]; done) | decide)
def x88 (P : Nat) (I : St) (a1 a2 : Int32) : Option (Int32) := if (tget I (P + 7) a1 4) = (tget I (P + 7) a2 4) then if (tget I (P + 7) a1 3) = (tget I (P + 7) a2 3) then (l88_61 P a1 a2 (tget I (P + 7) a1 4) 100000 0 I).bind (Sum.elim (fun q1 => some 1) (fun r => some r)) else some 0 else some 0
set_option maxRecDepth 20000 in
theorem x88_D {E : Xe} {R : Nat → Nat → Option Nat} {P : Nat} {o : Outcome} {w : Wd} {T : (Int32) → Prop} {I : St} (hP : P = 3 ∨ P = 18) (h57_2 : R 57 2 = some P) (a1 a2 : Int32) (hT : ∀ r, T r → o = .returned (some (.int r)) ∧ w = wT I R) : Dq (x88 P I a1 a2) T → Rn E 88 (0, loc0 88 [.ref 57, .int a1, .int a2], [], wT I R) o w := by
  unfold x88
  rcases hP with rfl | rfl
  · refine D.run 1 rfl ?_
    refine D.st rfl (by decide) (gf_1 h57_2) ?_
    refine D.run 3 rfl ?_
    refine D.ce rfl rfl rfl rfl (tget_ok (by decide) (by first | rfl | decide) _ _) ?_
    refine D.run 3 rfl ?_
    refine D.st rfl (by decide) (gf_1 h57_2) ?_
    show _ → Rn E 88 (18, [.ref 57, .int a1, .int a2, .int (tget I (3 + 7) a1 4), us], [.ref 3, .int (tget I (3 + 7) a1 4)], wT I R) o w
    refine D.run 3 rfl ?_
    refine D.ce rfl rfl rfl rfl (tget_ok (by decide) (by first | rfl | decide) _ _) ?_
    refine D.br rfl (by decide) rfl (fun hc => ?_) (fun hc => ?_)
    · refine D.run 1 rfl ?_
      refine D.st rfl (by decide) (gf_1 h57_2) ?_
      refine D.run 3 rfl ?_
      refine D.ce rfl rfl rfl rfl (tget_ok (by decide) (by first | rfl | decide) _ _) ?_
      refine D.run 1 rfl ?_
      refine D.st rfl (by decide) (gf_1 h57_2) ?_
      show _ → Rn E 88 (45, [.ref 57, .int a1, .int a2, .int (tget I (3 + 7) a1 4), us], [.ref 3, .int (tget I (3 + 7) a1 3)], wT I R) o w
      refine D.run 3 rfl ?_
      refine D.ce rfl rfl rfl rfl (tget_ok (by decide) (by first | rfl | decide) _ _) ?_
      refine D.br rfl (by decide) rfl (fun hc => ?_) (fun hc => ?_)
      · refine D.run 2 rfl ?_
        refine D.bind (l88_61_ok (by decide) h57_2 (fun r h => hT _ (D.some h)) (fun q1 e2 he2 e3 he3 e4 he4 e5 he5 => ?_) 100000 _   )
        refine D.inl ?_
        refine D.run 1 rfl ?_
        exact fun h => by obtain ⟨rfl, rfl⟩ := hT _ (D.some h); exact Rn.ret rfl rfl (by first | rfl | (simp [rt1, rt]; done) | decide)
      · refine D.run 1 rfl ?_
        exact fun h => by obtain ⟨rfl, rfl⟩ := hT _ (D.some h); exact Rn.ret rfl rfl (by first | rfl | (simp [rt1, rt]; done) | decide)
    · refine D.run 1 rfl ?_
      exact fun h => by obtain ⟨rfl, rfl⟩ := hT _ (D.some h); exact Rn.ret rfl rfl (by first | rfl | (simp [rt1, rt]; done) | decide)
  · refine D.run 1 rfl ?_
    refine D.st rfl (by decide) (gf_1 h57_2) ?_
    refine D.run 3 rfl ?_
    refine D.ce rfl rfl rfl rfl (tget_ok (by decide) (by first | rfl | decide) _ _) ?_
    refine D.run 3 rfl ?_
    refine D.st rfl (by decide) (gf_1 h57_2) ?_
    show _ → Rn E 88 (18, [.ref 57, .int a1, .int a2, .int (tget I (18 + 7) a1 4), us], [.ref 18, .int (tget I (18 + 7) a1 4)], wT I R) o w
    refine D.run 3 rfl ?_
    refine D.ce rfl rfl rfl rfl (tget_ok (by decide) (by first | rfl | decide) _ _) ?_
    refine D.br rfl (by decide) rfl (fun hc => ?_) (fun hc => ?_)
    · refine D.run 1 rfl ?_
      refine D.st rfl (by decide) (gf_1 h57_2) ?_
      refine D.run 3 rfl ?_
      refine D.ce rfl rfl rfl rfl (tget_ok (by decide) (by first | rfl | decide) _ _) ?_
      refine D.run 1 rfl ?_
      refine D.st rfl (by decide) (gf_1 h57_2) ?_
      show _ → Rn E 88 (45, [.ref 57, .int a1, .int a2, .int (tget I (18 + 7) a1 4), us], [.ref 18, .int (tget I (18 + 7) a1 3)], wT I R) o w
      refine D.run 3 rfl ?_
      refine D.ce rfl rfl rfl rfl (tget_ok (by decide) (by first | rfl | decide) _ _) ?_
      refine D.br rfl (by decide) rfl (fun hc => ?_) (fun hc => ?_)
      · refine D.run 2 rfl ?_
        refine D.bind (l88_61_ok (by decide) h57_2 (fun r h => hT _ (D.some h)) (fun q1 e2 he2 e3 he3 e4 he4 e5 he5 => ?_) 100000 _   )
        refine D.inl ?_
        refine D.run 1 rfl ?_
        exact fun h => by obtain ⟨rfl, rfl⟩ := hT _ (D.some h); exact Rn.ret rfl rfl (by first | rfl | (simp [rt1, rt]; done) | decide)
      · refine D.run 1 rfl ?_
        exact fun h => by obtain ⟨rfl, rfl⟩ := hT _ (D.some h); exact Rn.ret rfl rfl (by first | rfl | (simp [rt1, rt]; done) | decide)
    · refine D.run 1 rfl ?_
      exact fun h => by obtain ⟨rfl, rfl⟩ := hT _ (D.some h); exact Rn.ret rfl rfl (by first | rfl | (simp [rt1, rt]; done) | decide)
set_option maxRecDepth 20000 in
theorem x88_ok {E : Xe} {R : Nat → Nat → Option Nat} {P : Nat} {I : St} (hP : P = 3 ∨ P = 18) (h57_2 : R 57 2 = some P) {a1 a2 : Int32} {q : Int32} (h : x88 P I a1 a2 = some q) : Rn E 88 (0, loc0 88 [.ref 57, .int a1, .int a2], [], wT I R) (.returned (some (.int q))) (wT I R) := x88_D hP h57_2 _ _ (T := fun r => r = q) (by rintro r rfl; exact ⟨rfl, rfl⟩) ⟨_, h, rfl⟩
