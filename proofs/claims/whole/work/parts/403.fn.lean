/-! FUNCTIONS OF METHODS, by program (wip/gen/all.py): 254 255 260 261 262 263 264 265 266 267 268 271 272 273 274 275 4 21 35 43 59 66 68 69 73 77 79 80 82 88 -/
/-- TaintHouseModel.isObject(II)Z -/
def x254 (Q : Nat) (I : St) (a1 a2 : Int32) : Option (Int32) := if inb (a1 - 1) 3001 then if (I 181 (a1 - 1).toNatClampNeg) < 0 then some 0 else (x246 Q I a1 a2).bind fun q1 => if q1 = 0 then some 0 else some 1 else none
set_option maxRecDepth 20000 in
theorem x254_D {E : Xe} {R : Nat → Nat → Option Nat} {Q : Nat} {o : Outcome} {w : Wd} {T : (Int32) → Prop} {I : St} (hQ : Q = 85 ∨ Q = 126) (h82_3 : R 82 3 = some Q) (a1 a2 : Int32) (hT : ∀ r, T r → o = .returned (some (.int r)) ∧ w = wT I R) : Dq (x254 Q I a1 a2) T → Rn E 254 (0, loc0 254 [.ref 82, .int a1, .int a2], [], wT I R) o w := by
  unfold x254
  rcases hQ with rfl | rfl
  all_goals
    refine D.run 5 rfl ?_
    refine D.gd fun hg => ?_
    refine D.st rfl (by decide) (al_i (by decide) (by first | rfl | decide) hg.1 hg.2) ?_
    refine D.br rfl (by decide) rfl (fun hc => ?_) (fun hc => ?_)
    · refine D.run 1 rfl ?_
      exact fun h => by obtain ⟨rfl, rfl⟩ := hT _ (D.some h); exact Rn.ret rfl rfl (by first | rfl | (simp [rt1, rt]; done) | decide)
    · refine D.run 3 rfl ?_
      refine D.call rfl rfl rfl rfl (fun q h => x246_ok (by decide) h82_3 h) (fun q1 => ?_)
      refine D.br rfl (by decide) rfl (fun hc => ?_) (fun hc => ?_)
      · refine D.run 1 rfl ?_
        exact fun h => by obtain ⟨rfl, rfl⟩ := hT _ (D.some h); exact Rn.ret rfl rfl (by first | rfl | (simp [rt1, rt]; done) | decide)
      · refine D.run 2 rfl ?_
        exact fun h => by obtain ⟨rfl, rfl⟩ := hT _ (D.some h); exact Rn.ret rfl rfl (by first | rfl | (simp [rt1, rt]; done) | decide)
set_option maxRecDepth 20000 in
theorem x254_ok {E : Xe} {R : Nat → Nat → Option Nat} {Q : Nat} {I : St} (hQ : Q = 85 ∨ Q = 126) (h82_3 : R 82 3 = some Q) {a1 a2 : Int32} {q : Int32} (h : x254 Q I a1 a2 = some q) : Rn E 254 (0, loc0 254 [.ref 82, .int a1, .int a2], [], wT I R) (.returned (some (.int q))) (wT I R) := x254_D hQ h82_3 _ _ (T := fun r => r = q) (by rintro r rfl; exact ⟨rfl, rfl⟩) ⟨_, h, rfl⟩
/-- TaintHouseModel.slotOf(I)I -/
def l255_44 (Q : Nat) (b1 : Int32) (b2 : Int32) : Nat → Int32 → Int32 → St → Option (Int32)
  | 0, _, _, _ => none
  | n + 1, b3, b4, I => if b1 ≤ b4 then some b3 else if inb b4 100 then if (I (Q + 9) b4.toNatClampNeg) = b2 then l255_44 Q b1 b2 n (b3 + 1) (b4 + 1) I else l255_44 Q b1 b2 n (b3 + 0) (b4 + 1) I else none
set_option maxRecDepth 20000 in
theorem l255_44_ok {E : Xe} {R : Nat → Nat → Option Nat} {Q : Nat} {I0 : St} {o : Outcome} {w : Wd} {T : (Int32) → Prop} {b1 : Int32} {b2 : Int32} (hQ : Q = 85 ∨ Q = 126) (h82_3 : R 82 3 = some Q) (K : ∀ (q : Int32) (e1 : Value) (_ : is1 e1 = true) (e2 : Value) (_ : is1 e2 = true) (e4 : Value) (_ : is1 e4 = true), T q → Rn E 255 (78, [.ref 82, e1, e2, .int q, e4], [], wT I0 R) o w) : ∀ (n : Nat) (b3 : Int32) (b4 : Int32), Dq (l255_44 Q b1 b2 n b3 b4 I0) T → Rn E 255 (44, [.ref 82, .int b1, .int b2, .int b3, .int b4], [], wT I0 R) o w := by
  rcases hQ with rfl | rfl
  all_goals
    intro n
    induction n with
    | zero => intro b3 b4; exact D.none
    | succ n ih =>
      intro b3 b4
      rw [l255_44]
      refine D.run 2 rfl ?_
      refine D.br rfl (by decide) rfl (fun hc => ?_) (fun hc => ?_)
      · exact fun h => D.to h (K _ _ (by first | rfl | assumption) _ (by first | rfl | assumption) _ (by first | rfl | assumption))
      · refine D.run 2 rfl ?_
        refine D.st rfl (by decide) (gf_1 h82_3) ?_
        refine D.run 2 rfl ?_
        refine D.gd fun hg => ?_
        refine D.st rfl (by decide) (al_i (by decide) (by first | rfl | decide) hg.1 hg.2) ?_
        refine D.run 1 rfl ?_
        refine D.br rfl (by decide) rfl (fun hc => ?_) (fun hc => ?_)
        · refine D.run 6 rfl ?_
          exact ih _ _  
        · refine D.run 5 rfl ?_
          exact ih _ _  
def x255 (Q : Nat) (I : St) (a1 : Int32) : Option (Int32) := if inb a1 100 then if inb (I (Q + 9) a1.toNatClampNeg) 19 then (if (I (Q + 8) (I (Q + 9) a1.toNatClampNeg).toNatClampNeg) = (-1) then some 0 else if inb (I (Q + 9) a1.toNatClampNeg) 19 then (x252 Q I (I (Q + 8) (I (Q + 9) a1.toNatClampNeg).toNatClampNeg)).bind fun q1 => some q1 else none).bind fun (q2 : Int32) => (l255_44 Q a1 (I (Q + 9) a1.toNatClampNeg) 100000 q2 0 I).bind fun q3 => some q3 else none else none
set_option maxRecDepth 20000 in
theorem x255_D {E : Xe} {R : Nat → Nat → Option Nat} {Q : Nat} {o : Outcome} {w : Wd} {T : (Int32) → Prop} {I : St} (hQ : Q = 85 ∨ Q = 126) (h82_3 : R 82 3 = some Q) (a1 : Int32) (hT : ∀ r, T r → o = .returned (some (.int r)) ∧ w = wT I R) : Dq (x255 Q I a1) T → Rn E 255 (0, loc0 255 [.ref 82, .int a1], [], wT I R) o w := by
  unfold x255
  rcases hQ with rfl | rfl
  · refine D.run 1 rfl ?_
    refine D.st rfl (by decide) (gf_1 h82_3) ?_
    refine D.run 2 rfl ?_
    refine D.gd fun hg => ?_
    refine D.st rfl (by decide) (al_i (by decide) (by first | rfl | decide) hg.1 hg.2) ?_
    refine D.run 2 rfl ?_
    refine D.st rfl (by decide) (gf_1 h82_3) ?_
    refine D.run 2 rfl ?_
    refine D.gd fun hg => ?_
    refine D.st rfl (by decide) (al_i (by decide) (by first | rfl | decide) hg.1 hg.2) ?_
    refine D.run 1 rfl ?_
    have Kj40 : ∀ (q2 : Int32), Dq ((l255_44 85 a1 (I (85 + 9) a1.toNatClampNeg) 100000 q2 0 I).bind fun q3 => some q3) T → Rn E 255 (40, [.ref 82, .int a1, .int (I (85 + 9) a1.toNatClampNeg), us, us], [.int q2], wT I R) o w := by
      intro q2
      refine D.run 3 rfl ?_
      refine D.bind (l255_44_ok (by decide) h82_3 (fun q3 e4 he4 e5 he5 e6 he6 => ?_) 100000 _ _   )
      refine D.run 1 rfl ?_
      exact fun h => by obtain ⟨rfl, rfl⟩ := hT _ (D.some h); exact Rn.ret rfl rfl rfl
    refine D.bind ?_
    refine D.br rfl (by decide) rfl (fun hc => ?_) (fun hc => ?_)
    · refine D.run 2 rfl ?_
      exact fun h => D.to h (Kj40 _  )
    · refine D.run 2 rfl ?_
      refine D.st rfl (by decide) (gf_1 h82_3) ?_
      refine D.run 2 rfl ?_
      refine D.gd fun hg => ?_
      refine D.st rfl (by decide) (al_i (by decide) (by first | rfl | decide) hg.1 hg.2) ?_
      refine D.call rfl rfl rfl rfl (fun q h => x252_ok (by decide) h82_3 h) (fun q1 => ?_)
      exact fun h => D.to h (Kj40 _  )
  · refine D.run 1 rfl ?_
    refine D.st rfl (by decide) (gf_1 h82_3) ?_
    refine D.run 2 rfl ?_
    refine D.gd fun hg => ?_
    refine D.st rfl (by decide) (al_i (by decide) (by first | rfl | decide) hg.1 hg.2) ?_
    refine D.run 2 rfl ?_
    refine D.st rfl (by decide) (gf_1 h82_3) ?_
    refine D.run 2 rfl ?_
    refine D.gd fun hg => ?_
    refine D.st rfl (by decide) (al_i (by decide) (by first | rfl | decide) hg.1 hg.2) ?_
    refine D.run 1 rfl ?_
    have Kj40 : ∀ (q2 : Int32), Dq ((l255_44 126 a1 (I (126 + 9) a1.toNatClampNeg) 100000 q2 0 I).bind fun q3 => some q3) T → Rn E 255 (40, [.ref 82, .int a1, .int (I (126 + 9) a1.toNatClampNeg), us, us], [.int q2], wT I R) o w := by
      intro q2
      refine D.run 3 rfl ?_
      refine D.bind (l255_44_ok (by decide) h82_3 (fun q3 e4 he4 e5 he5 e6 he6 => ?_) 100000 _ _   )
      refine D.run 1 rfl ?_
      exact fun h => by obtain ⟨rfl, rfl⟩ := hT _ (D.some h); exact Rn.ret rfl rfl rfl
    refine D.bind ?_
    refine D.br rfl (by decide) rfl (fun hc => ?_) (fun hc => ?_)
    · refine D.run 2 rfl ?_
      exact fun h => D.to h (Kj40 _  )
    · refine D.run 2 rfl ?_
      refine D.st rfl (by decide) (gf_1 h82_3) ?_
      refine D.run 2 rfl ?_
      refine D.gd fun hg => ?_
      refine D.st rfl (by decide) (al_i (by decide) (by first | rfl | decide) hg.1 hg.2) ?_
      refine D.call rfl rfl rfl rfl (fun q h => x252_ok (by decide) h82_3 h) (fun q1 => ?_)
      exact fun h => D.to h (Kj40 _  )
set_option maxRecDepth 20000 in
theorem x255_ok {E : Xe} {R : Nat → Nat → Option Nat} {Q : Nat} {I : St} (hQ : Q = 85 ∨ Q = 126) (h82_3 : R 82 3 = some Q) {a1 : Int32} {q : Int32} (h : x255 Q I a1 = some q) : Rn E 255 (0, loc0 255 [.ref 82, .int a1], [], wT I R) (.returned (some (.int q))) (wT I R) := x255_D hQ h82_3 _ (T := fun r => r = q) (by rintro r rfl; exact ⟨rfl, rfl⟩) ⟨_, h, rfl⟩
/-- TaintHouseModel.returns()V -/
def x260 (Q : Nat) (I : St) : Option (St) := if inb (I 82 63) 24 then (if (I (Q + 20) (I 82 63).toNatClampNeg) = 0 then some (0, I) else (x240 I).bind fun q1 => some (q1.1, q1.2)).bind fun (q2 : Int32 × St) => (if (I (Q + 20) (I 82 63).toNatClampNeg) = 0 then some 0 else some (q2.2 82 66)).bind fun (q3 : Int32) => if (q2.2 82 55) = 0 then some (up2 (up2 (up2 q2.2 82 34 (I (Q + 20) (I 82 63).toNatClampNeg)) 82 35 q2.1) 82 36 q3) else (x247 q2.2).bind fun q4 => if (I (Q + 20) (I 82 63).toNatClampNeg) = 0 then some (up2 q4 82 64 ((q4 82 64) + 1)) else (x239 (up2 q4 82 64 ((q4 82 64) + 1)) q2.1 q3).bind fun q5 => some q5 else none
set_option maxRecDepth 20000 in
theorem x260_D {E : Xe} {R : Nat → Nat → Option Nat} {Q : Nat} {o : Outcome} {w : Wd} {T : (St) → Prop} {I : St} (hQ : Q = 85 ∨ Q = 126) (h82_3 : R 82 3 = some Q) (hT : ∀ r, T r → o = .returned none ∧ w = wT r R) : Dq (x260 Q I) T → Rn E 260 (0, loc0 260 [.ref 82], [], wT I R) o w := by
  unfold x260
  rcases hQ with rfl | rfl
  · refine D.run 1 rfl ?_
    refine D.st rfl (by decide) (gf_1 h82_3) ?_
    refine D.run 3 rfl ?_
    refine D.gd fun hg => ?_
    refine D.st rfl (by decide) (al_i (by decide) (by first | rfl | decide) hg.1 hg.2) ?_
    refine D.run 2 rfl ?_
    have Kj25 : ∀ (q2 : Int32 × St), Dq ((if (I (85 + 20) (I 82 63).toNatClampNeg) = 0 then some 0 else some (q2.2 82 66)).bind fun (q3 : Int32) => if (q2.2 82 55) = 0 then some (up2 (up2 (up2 q2.2 82 34 (I (85 + 20) (I 82 63).toNatClampNeg)) 82 35 q2.1) 82 36 q3) else (x247 q2.2).bind fun q4 => if (I (85 + 20) (I 82 63).toNatClampNeg) = 0 then some (up2 q4 82 64 ((q4 82 64) + 1)) else (x239 (up2 q4 82 64 ((q4 82 64) + 1)) q2.1 q3).bind fun q5 => some q5) T → Rn E 260 (25, [.ref 82, .int (I (85 + 20) (I 82 63).toNatClampNeg), us, us], [.int q2.1], wT q2.2 R) o w := by
      intro q2
      refine D.run 2 rfl ?_
      have Kj38 : ∀ (q3 : Int32), Dq (if (q2.2 82 55) = 0 then some (up2 (up2 (up2 q2.2 82 34 (I (85 + 20) (I 82 63).toNatClampNeg)) 82 35 q2.1) 82 36 q3) else (x247 q2.2).bind fun q4 => if (I (85 + 20) (I 82 63).toNatClampNeg) = 0 then some (up2 q4 82 64 ((q4 82 64) + 1)) else (x239 (up2 q4 82 64 ((q4 82 64) + 1)) q2.1 q3).bind fun q5 => some q5) T → Rn E 260 (38, [.ref 82, .int (I (85 + 20) (I 82 63).toNatClampNeg), .int q2.1, us], [.int q3], wT q2.2 R) o w := by
        intro q3
        refine D.run 3 rfl ?_
        refine D.br rfl (by decide) rfl (fun hc => ?_) (fun hc => ?_)
        · refine D.run 9 rfl ?_
          exact fun h => by obtain ⟨rfl, rfl⟩ := hT _ (D.some h); exact Rn.ret rfl rfl rfl
        · refine D.run 1 rfl ?_
          refine D.call rfl rfl rfl rfl (fun q h => x247_ok h) (fun q4 => ?_)
          refine D.run 7 rfl ?_
          refine D.br rfl (by decide) rfl (fun hc => ?_) (fun hc => ?_)
          · exact fun h => by obtain ⟨rfl, rfl⟩ := hT _ (D.some h); exact Rn.ret rfl rfl rfl
          · refine D.run 3 rfl ?_
            refine D.call rfl rfl rfl rfl (fun q h => x239_ok h) (fun q5 => ?_)
            exact fun h => by obtain ⟨rfl, rfl⟩ := hT _ (D.some h); exact Rn.ret rfl rfl rfl
      refine D.bind ?_
      refine D.br rfl (by decide) rfl (fun hc => ?_) (fun hc => ?_)
      · refine D.run 1 rfl ?_
        exact fun h => D.to h (Kj38 _  )
      · refine D.run 3 rfl ?_
        exact fun h => D.to h (Kj38 _  )
    refine D.bind ?_
    refine D.br rfl (by decide) rfl (fun hc => ?_) (fun hc => ?_)
    · refine D.run 1 rfl ?_
      exact fun h => D.to h (Kj25 _  )
    · refine D.run 1 rfl ?_
      refine D.call rfl rfl rfl rfl (fun q h => x240_ok h) (fun q1 => ?_)
      refine D.run 1 rfl ?_
      exact fun h => D.to h (Kj25 _  )
  · refine D.run 1 rfl ?_
    refine D.st rfl (by decide) (gf_1 h82_3) ?_
    refine D.run 3 rfl ?_
    refine D.gd fun hg => ?_
    refine D.st rfl (by decide) (al_i (by decide) (by first | rfl | decide) hg.1 hg.2) ?_
    refine D.run 2 rfl ?_
    have Kj25 : ∀ (q2 : Int32 × St), Dq ((if (I (126 + 20) (I 82 63).toNatClampNeg) = 0 then some 0 else some (q2.2 82 66)).bind fun (q3 : Int32) => if (q2.2 82 55) = 0 then some (up2 (up2 (up2 q2.2 82 34 (I (126 + 20) (I 82 63).toNatClampNeg)) 82 35 q2.1) 82 36 q3) else (x247 q2.2).bind fun q4 => if (I (126 + 20) (I 82 63).toNatClampNeg) = 0 then some (up2 q4 82 64 ((q4 82 64) + 1)) else (x239 (up2 q4 82 64 ((q4 82 64) + 1)) q2.1 q3).bind fun q5 => some q5) T → Rn E 260 (25, [.ref 82, .int (I (126 + 20) (I 82 63).toNatClampNeg), us, us], [.int q2.1], wT q2.2 R) o w := by
      intro q2
      refine D.run 2 rfl ?_
      have Kj38 : ∀ (q3 : Int32), Dq (if (q2.2 82 55) = 0 then some (up2 (up2 (up2 q2.2 82 34 (I (126 + 20) (I 82 63).toNatClampNeg)) 82 35 q2.1) 82 36 q3) else (x247 q2.2).bind fun q4 => if (I (126 + 20) (I 82 63).toNatClampNeg) = 0 then some (up2 q4 82 64 ((q4 82 64) + 1)) else (x239 (up2 q4 82 64 ((q4 82 64) + 1)) q2.1 q3).bind fun q5 => some q5) T → Rn E 260 (38, [.ref 82, .int (I (126 + 20) (I 82 63).toNatClampNeg), .int q2.1, us], [.int q3], wT q2.2 R) o w := by
        intro q3
        refine D.run 3 rfl ?_
        refine D.br rfl (by decide) rfl (fun hc => ?_) (fun hc => ?_)
        · refine D.run 9 rfl ?_
          exact fun h => by obtain ⟨rfl, rfl⟩ := hT _ (D.some h); exact Rn.ret rfl rfl rfl
        · refine D.run 1 rfl ?_
          refine D.call rfl rfl rfl rfl (fun q h => x247_ok h) (fun q4 => ?_)
          refine D.run 7 rfl ?_
          refine D.br rfl (by decide) rfl (fun hc => ?_) (fun hc => ?_)
          · exact fun h => by obtain ⟨rfl, rfl⟩ := hT _ (D.some h); exact Rn.ret rfl rfl rfl
          · refine D.run 3 rfl ?_
            refine D.call rfl rfl rfl rfl (fun q h => x239_ok h) (fun q5 => ?_)
            exact fun h => by obtain ⟨rfl, rfl⟩ := hT _ (D.some h); exact Rn.ret rfl rfl rfl
      refine D.bind ?_
      refine D.br rfl (by decide) rfl (fun hc => ?_) (fun hc => ?_)
      · refine D.run 1 rfl ?_
        exact fun h => D.to h (Kj38 _  )
      · refine D.run 3 rfl ?_
        exact fun h => D.to h (Kj38 _  )
    refine D.bind ?_
    refine D.br rfl (by decide) rfl (fun hc => ?_) (fun hc => ?_)
    · refine D.run 1 rfl ?_
      exact fun h => D.to h (Kj25 _  )
    · refine D.run 1 rfl ?_
      refine D.call rfl rfl rfl rfl (fun q h => x240_ok h) (fun q1 => ?_)
      refine D.run 1 rfl ?_
      exact fun h => D.to h (Kj25 _  )
set_option maxRecDepth 20000 in
theorem x260_ok {E : Xe} {R : Nat → Nat → Option Nat} {Q : Nat} {I : St} (hQ : Q = 85 ∨ Q = 126) (h82_3 : R 82 3 = some Q) {q : St} (h : x260 Q I = some q) : Rn E 260 (0, loc0 260 [.ref 82], [], wT I R) (.returned none) (wT q R) := x260_D hQ h82_3 (T := fun r => r = q) (by rintro r rfl; exact ⟨rfl, rfl⟩) ⟨_, h, rfl⟩
/-- TaintHouseModel.place()I -/
def x261 (I : St) : Int32 := (I 82 5)
set_option maxRecDepth 20000 in
theorem x261_ok {E : Xe} {R : Nat → Nat → Option Nat} {I : St} : Rn E 261 (0, loc0 261 [.ref 82], [], wT I R) (.returned (some (.int (x261 I)))) (wT I R) := by
  have H : ∀ (o : Outcome) (w : Wd) (T : Int32 → Prop), (∀ r, T r → o = .returned (some (.int r)) ∧ w = wT I R) → Dq (some (x261 I)) T → Rn E 261 (0, loc0 261 [.ref 82], [], wT I R) o w := by
    intro o w T hT
    unfold x261
    refine D.run 2 rfl ?_
    exact fun h => by obtain ⟨rfl, rfl⟩ := hT _ (D.some h); exact Rn.ret rfl rfl rfl
  exact H _ _ (fun r => r = x261 I) (by rintro r rfl; exact ⟨rfl, rfl⟩) ⟨_, rfl, rfl⟩
/-- TaintHouseModel.flows(I)I -/
def x262 (I : St) (a1 : Int32) : Option (Int32 × St) := some ((I 82 6), (up2 I 82 6 (a1 &&& 7)))
set_option maxRecDepth 20000 in
theorem x262_D {E : Xe} {R : Nat → Nat → Option Nat} {o : Outcome} {w : Wd} {T : (Int32 × St) → Prop} {I : St} (a1 : Int32) (hT : ∀ r, T r → o = .returned (some (.int r.1)) ∧ w = wT r.2 R) : Dq (x262 I a1) T → Rn E 262 (0, loc0 262 [.ref 82, .int a1], [], wT I R) o w := by
  unfold x262
  refine D.run 9 rfl ?_
  exact fun h => by obtain ⟨rfl, rfl⟩ := hT _ (D.some h); exact Rn.ret rfl rfl rfl
set_option maxRecDepth 20000 in
theorem x262_ok {E : Xe} {R : Nat → Nat → Option Nat} {I : St} {a1 : Int32} {q : Int32 × St} (h : x262 I a1 = some q) : Rn E 262 (0, loc0 262 [.ref 82, .int a1], [], wT I R) (.returned (some (.int q.1))) (wT q.2 R) := x262_D  _ (T := fun r => r = q) (by rintro r rfl; exact ⟨rfl, rfl⟩) ⟨_, h, rfl⟩
/-- TaintHouseModel.policy(II)I -/
def x263 (I : St) (a1 a2 : Int32) : Option (Int32 × St) := if a1 < 0 then some ((-15), I) else if a1 ≤ 15 then if inb a1 16 then if inb a1 16 then some ((I 167 a1.toNatClampNeg), (up2 I 167 a1.toNatClampNeg (a2 &&& 65535))) else none else none else some ((-15), I)
set_option maxRecDepth 20000 in
theorem x263_D {E : Xe} {R : Nat → Nat → Option Nat} {o : Outcome} {w : Wd} {T : (Int32 × St) → Prop} {I : St} (a1 a2 : Int32) (hT : ∀ r, T r → o = .returned (some (.int r.1)) ∧ w = wT r.2 R) : Dq (x263 I a1 a2) T → Rn E 263 (0, loc0 263 [.ref 82, .int a1, .int a2], [], wT I R) o w := by
  unfold x263
  refine D.run 1 rfl ?_
  refine D.br rfl (by decide) rfl (fun hc => ?_) (fun hc => ?_)
  · refine D.run 1 rfl ?_
    exact fun h => by obtain ⟨rfl, rfl⟩ := hT _ (D.some h); exact Rn.ret rfl rfl rfl
  · refine D.run 2 rfl ?_
    refine D.br rfl (by decide) rfl (fun hc => ?_) (fun hc => ?_)
    · refine D.run 3 rfl ?_
      refine D.gd fun hg => ?_
      refine D.st rfl (by decide) (al_i (by decide) (by first | rfl | decide) hg.1 hg.2) ?_
      refine D.run 7 rfl ?_
      refine D.gd fun hg => ?_
      refine D.st rfl (by decide) (as_i (by decide) (by first | rfl | decide) hg.1 hg.2) ?_
      refine D.run 1 rfl ?_
      exact fun h => by obtain ⟨rfl, rfl⟩ := hT _ (D.some h); exact Rn.ret rfl rfl rfl
    · refine D.run 1 rfl ?_
      exact fun h => by obtain ⟨rfl, rfl⟩ := hT _ (D.some h); exact Rn.ret rfl rfl rfl
set_option maxRecDepth 20000 in
theorem x263_ok {E : Xe} {R : Nat → Nat → Option Nat} {I : St} {a1 a2 : Int32} {q : Int32 × St} (h : x263 I a1 a2 = some q) : Rn E 263 (0, loc0 263 [.ref 82, .int a1, .int a2], [], wT I R) (.returned (some (.int q.1))) (wT q.2 R) := x263_D  _ _ (T := fun r => r = q) (by rintro r rfl; exact ⟨rfl, rfl⟩) ⟨_, h, rfl⟩
/-- TaintHouseModel.input(II)I -/
def x264 (I : St) (a1 a2 : Int32) : Option (Int32 × St) := if a1 < 0 then some ((-1), I) else if a1 ≤ 15 then if inb a1 16 then if inb a1 16 then some ((I 168 a1.toNatClampNeg), (up2 I 168 a1.toNatClampNeg a2)) else none else none else some ((-1), I)
set_option maxRecDepth 20000 in
theorem x264_D {E : Xe} {R : Nat → Nat → Option Nat} {o : Outcome} {w : Wd} {T : (Int32 × St) → Prop} {I : St} (a1 a2 : Int32) (hT : ∀ r, T r → o = .returned (some (.int r.1)) ∧ w = wT r.2 R) : Dq (x264 I a1 a2) T → Rn E 264 (0, loc0 264 [.ref 82, .int a1, .int a2], [], wT I R) o w := by
  unfold x264
  refine D.run 1 rfl ?_
  refine D.br rfl (by decide) rfl (fun hc => ?_) (fun hc => ?_)
  · refine D.run 1 rfl ?_
    exact fun h => by obtain ⟨rfl, rfl⟩ := hT _ (D.some h); exact Rn.ret rfl rfl rfl
  · refine D.run 2 rfl ?_
    refine D.br rfl (by decide) rfl (fun hc => ?_) (fun hc => ?_)
    · refine D.run 3 rfl ?_
      refine D.gd fun hg => ?_
      refine D.st rfl (by decide) (al_i (by decide) (by first | rfl | decide) hg.1 hg.2) ?_
      refine D.run 5 rfl ?_
      refine D.gd fun hg => ?_
      refine D.st rfl (by decide) (as_i (by decide) (by first | rfl | decide) hg.1 hg.2) ?_
      refine D.run 1 rfl ?_
      exact fun h => by obtain ⟨rfl, rfl⟩ := hT _ (D.some h); exact Rn.ret rfl rfl rfl
    · refine D.run 1 rfl ?_
      exact fun h => by obtain ⟨rfl, rfl⟩ := hT _ (D.some h); exact Rn.ret rfl rfl rfl
set_option maxRecDepth 20000 in
theorem x264_ok {E : Xe} {R : Nat → Nat → Option Nat} {I : St} {a1 a2 : Int32} {q : Int32 × St} (h : x264 I a1 a2 = some q) : Rn E 264 (0, loc0 264 [.ref 82, .int a1, .int a2], [], wT I R) (.returned (some (.int q.1))) (wT q.2 R) := x264_D  _ _ (T := fun r => r = q) (by rintro r rfl; exact ⟨rfl, rfl⟩) ⟨_, h, rfl⟩
/-- TaintHouseModel.argument(III)I -/
def x265 (I : St) (a1 a2 a3 : Int32) : Option (Int32 × St) := if a1 < 0 then some ((-15), I) else if a1 ≤ 6 then if inb a1 7 then if inb a1 7 then some (1, (up2 (up2 I 169 a1.toNatClampNeg a2) 170 a1.toNatClampNeg (a3 &&& 65535))) else none else none else some ((-15), I)
set_option maxRecDepth 20000 in
theorem x265_D {E : Xe} {R : Nat → Nat → Option Nat} {o : Outcome} {w : Wd} {T : (Int32 × St) → Prop} {I : St} (a1 a2 a3 : Int32) (hT : ∀ r, T r → o = .returned (some (.int r.1)) ∧ w = wT r.2 R) : Dq (x265 I a1 a2 a3) T → Rn E 265 (0, loc0 265 [.ref 82, .int a1, .int a2, .int a3], [], wT I R) o w := by
  unfold x265
  refine D.run 1 rfl ?_
  refine D.br rfl (by decide) rfl (fun hc => ?_) (fun hc => ?_)
  · refine D.run 1 rfl ?_
    exact fun h => by obtain ⟨rfl, rfl⟩ := hT _ (D.some h); exact Rn.ret rfl rfl rfl
  · refine D.run 2 rfl ?_
    refine D.br rfl (by decide) rfl (fun hc => ?_) (fun hc => ?_)
    · refine D.run 4 rfl ?_
      refine D.gd fun hg => ?_
      refine D.st rfl (by decide) (as_i (by decide) (by first | rfl | decide) hg.1 hg.2) ?_
      refine D.run 6 rfl ?_
      refine D.gd fun hg => ?_
      refine D.st rfl (by decide) (as_i (by decide) (by first | rfl | decide) hg.1 hg.2) ?_
      refine D.run 1 rfl ?_
      exact fun h => by obtain ⟨rfl, rfl⟩ := hT _ (D.some h); exact Rn.ret rfl rfl rfl
    · refine D.run 1 rfl ?_
      exact fun h => by obtain ⟨rfl, rfl⟩ := hT _ (D.some h); exact Rn.ret rfl rfl rfl
set_option maxRecDepth 20000 in
theorem x265_ok {E : Xe} {R : Nat → Nat → Option Nat} {I : St} {a1 a2 a3 : Int32} {q : Int32 × St} (h : x265 I a1 a2 a3 = some q) : Rn E 265 (0, loc0 265 [.ref 82, .int a1, .int a2, .int a3], [], wT I R) (.returned (some (.int q.1))) (wT q.2 R) := x265_D  _ _ _ (T := fun r => r = q) (by rintro r rfl; exact ⟨rfl, rfl⟩) ⟨_, h, rfl⟩
/-- TaintHouseModel.result(I)I -/
def x266 (I : St) (a1 : Int32) : Int32 := if (I 82 33) = 0 then (-1) else if a1 = 0 then (I 82 34) else if a1 = 1 then if (I 82 34) = 1 then (I 82 35) else if (I 82 34) = 2 then ((I 82 35) - 1) else if (I 82 34) = 3 then ((I 82 35) - 1) else 0 else if a1 = 2 then if (I 82 34) < 1 then 0 else if 3 < (I 82 34) then 0 else (I 82 36) else if a1 = 3 then (I 82 37) else if a1 = 4 then (I 82 38) else if a1 = 5 then (I 82 39) else if a1 = 6 then (I 82 40) else if a1 = 7 then (I 82 41) else (-1)
set_option maxRecDepth 20000 in
theorem x266_ok {E : Xe} {R : Nat → Nat → Option Nat} {I : St} (a1 : Int32) : Rn E 266 (0, loc0 266 [.ref 82, .int a1], [], wT I R) (.returned (some (.int (x266 I a1)))) (wT I R) := by
  have H : ∀ (o : Outcome) (w : Wd) (T : Int32 → Prop), (∀ r, T r → o = .returned (some (.int r)) ∧ w = wT I R) → Dq (some (x266 I a1)) T → Rn E 266 (0, loc0 266 [.ref 82, .int a1], [], wT I R) o w := by
    intro o w T hT
    unfold x266
    refine D.run 2 rfl ?_
    refine D.brp rfl (by decide) rfl (fun hc => ?_) (fun hc => ?_)
    · refine D.run 1 rfl ?_
      exact fun h => by obtain ⟨rfl, rfl⟩ := hT _ (D.some h); exact Rn.ret rfl rfl rfl
    · refine D.run 1 rfl ?_
      refine D.sw rfl (by decide) rfl ?_
      show _ → Rn E 266 (swT [(0, 56), (1, 61), (2, 103), (3, 128), (4, 133), (5, 138), (6, 143), (7, 148)] 153 _, _, _, _) _ _
      refine D.swcp (fun hc => ?_) (fun hc => ?_)
      · refine D.run 2 rfl ?_
        exact fun h => by obtain ⟨rfl, rfl⟩ := hT _ (D.some h); exact Rn.ret rfl rfl rfl
      · refine D.swcp (fun hc => ?_) (fun hc => ?_)
        · refine D.run 3 rfl ?_
          refine D.brp rfl (by decide) rfl (fun hc => ?_) (fun hc => ?_)
          · refine D.run 3 rfl ?_
            exact fun h => by obtain ⟨rfl, rfl⟩ := hT _ (D.some h); exact Rn.ret rfl rfl rfl
          · refine D.run 3 rfl ?_
            refine D.brp rfl (by decide) rfl (fun hc => ?_) (fun hc => ?_)
            · refine D.run 5 rfl ?_
              exact fun h => by obtain ⟨rfl, rfl⟩ := hT _ (D.some h); exact Rn.ret rfl rfl rfl
            · refine D.run 3 rfl ?_
              refine D.brp rfl (by decide) rfl (fun hc => ?_) (fun hc => ?_)
              · refine D.run 5 rfl ?_
                exact fun h => by obtain ⟨rfl, rfl⟩ := hT _ (D.some h); exact Rn.ret rfl rfl rfl
              · refine D.run 1 rfl ?_
                exact fun h => by obtain ⟨rfl, rfl⟩ := hT _ (D.some h); exact Rn.ret rfl rfl rfl
        · refine D.swcp (fun hc => ?_) (fun hc => ?_)
          · refine D.run 3 rfl ?_
            refine D.brp rfl (by decide) rfl (fun hc => ?_) (fun hc => ?_)
            · refine D.run 1 rfl ?_
              exact fun h => by obtain ⟨rfl, rfl⟩ := hT _ (D.some h); exact Rn.ret rfl rfl rfl
            · refine D.run 3 rfl ?_
              refine D.brp rfl (by decide) rfl (fun hc => ?_) (fun hc => ?_)
              · refine D.run 1 rfl ?_
                exact fun h => by obtain ⟨rfl, rfl⟩ := hT _ (D.some h); exact Rn.ret rfl rfl rfl
              · refine D.run 3 rfl ?_
                exact fun h => by obtain ⟨rfl, rfl⟩ := hT _ (D.some h); exact Rn.ret rfl rfl rfl
          · refine D.swcp (fun hc => ?_) (fun hc => ?_)
            · refine D.run 2 rfl ?_
              exact fun h => by obtain ⟨rfl, rfl⟩ := hT _ (D.some h); exact Rn.ret rfl rfl rfl
            · refine D.swcp (fun hc => ?_) (fun hc => ?_)
              · refine D.run 2 rfl ?_
                exact fun h => by obtain ⟨rfl, rfl⟩ := hT _ (D.some h); exact Rn.ret rfl rfl rfl
              · refine D.swcp (fun hc => ?_) (fun hc => ?_)
                · refine D.run 2 rfl ?_
                  exact fun h => by obtain ⟨rfl, rfl⟩ := hT _ (D.some h); exact Rn.ret rfl rfl rfl
                · refine D.swcp (fun hc => ?_) (fun hc => ?_)
                  · refine D.run 2 rfl ?_
                    exact fun h => by obtain ⟨rfl, rfl⟩ := hT _ (D.some h); exact Rn.ret rfl rfl rfl
                  · refine D.swcp (fun hc => ?_) (fun hc => ?_)
                    · refine D.run 2 rfl ?_
                      exact fun h => by obtain ⟨rfl, rfl⟩ := hT _ (D.some h); exact Rn.ret rfl rfl rfl
                    · refine D.run 1 rfl ?_
                      exact fun h => by obtain ⟨rfl, rfl⟩ := hT _ (D.some h); exact Rn.ret rfl rfl rfl
  exact H _ _ (fun r => r = x266 I a1) (by rintro r rfl; exact ⟨rfl, rfl⟩) ⟨_, rfl, rfl⟩
/-- TaintHouseModel.event(II)I -/
def x267 (I : St) (a1 a2 : Int32) : Option (Int32) := if (I 82 33) = 0 then some (-1) else if a1 < 0 then some (-1) else if a1 < (I 82 38) then if a2 = 0 then if inb a1 500 then some (I 189 a1.toNatClampNeg) else none else if a2 = 1 then if inb a1 500 then some (I 190 a1.toNatClampNeg) else none else if a2 = 2 then if inb a1 500 then some (I 191 a1.toNatClampNeg) else none else if a2 = 3 then if inb a1 500 then if (I 192 a1.toNatClampNeg) = 0 then some 0 else some 1 else none else some (-1) else some (-1)
set_option maxRecDepth 20000 in
theorem x267_D {E : Xe} {R : Nat → Nat → Option Nat} {o : Outcome} {w : Wd} {T : (Int32) → Prop} {I : St} (a1 a2 : Int32) (hT : ∀ r, T r → o = .returned (some (.int r)) ∧ w = wT I R) : Dq (x267 I a1 a2) T → Rn E 267 (0, loc0 267 [.ref 82, .int a1, .int a2], [], wT I R) o w := by
  unfold x267
  refine D.run 2 rfl ?_
  refine D.br rfl (by decide) rfl (fun hc => ?_) (fun hc => ?_)
  · refine D.run 1 rfl ?_
    exact fun h => by obtain ⟨rfl, rfl⟩ := hT _ (D.some h); exact Rn.ret rfl rfl rfl
  · refine D.run 1 rfl ?_
    refine D.br rfl (by decide) rfl (fun hc => ?_) (fun hc => ?_)
    · refine D.run 1 rfl ?_
      exact fun h => by obtain ⟨rfl, rfl⟩ := hT _ (D.some h); exact Rn.ret rfl rfl rfl
    · refine D.run 3 rfl ?_
      refine D.br rfl (by decide) rfl (fun hc => ?_) (fun hc => ?_)
      · refine D.run 1 rfl ?_
        refine D.sw rfl (by decide) rfl ?_
        show _ → Rn E 267 (swT [(0, 52), (1, 59), (2, 66), (3, 73)] 88 _, _, _, _) _ _
        refine D.swc (fun hc => ?_) (fun hc => ?_)
        · refine D.run 3 rfl ?_
          refine D.gd fun hg => ?_
          refine D.st rfl (by decide) (al_i (by decide) (by first | rfl | decide) hg.1 hg.2) ?_
          exact fun h => by obtain ⟨rfl, rfl⟩ := hT _ (D.some h); exact Rn.ret rfl rfl rfl
        · refine D.swc (fun hc => ?_) (fun hc => ?_)
          · refine D.run 3 rfl ?_
            refine D.gd fun hg => ?_
            refine D.st rfl (by decide) (al_i (by decide) (by first | rfl | decide) hg.1 hg.2) ?_
            exact fun h => by obtain ⟨rfl, rfl⟩ := hT _ (D.some h); exact Rn.ret rfl rfl rfl
          · refine D.swc (fun hc => ?_) (fun hc => ?_)
            · refine D.run 3 rfl ?_
              refine D.gd fun hg => ?_
              refine D.st rfl (by decide) (al_i (by decide) (by first | rfl | decide) hg.1 hg.2) ?_
              exact fun h => by obtain ⟨rfl, rfl⟩ := hT _ (D.some h); exact Rn.ret rfl rfl rfl
            · refine D.swc (fun hc => ?_) (fun hc => ?_)
              · refine D.run 3 rfl ?_
                refine D.gd fun hg => ?_
                refine D.st rfl (by decide) (al_b (by decide) (by first | rfl | decide) hg.1 hg.2) ?_
                refine D.br rfl (by decide) rfl (fun hc => ?_) (fun hc => ?_)
                · refine D.run 1 rfl ?_
                  exact fun h => by obtain ⟨rfl, rfl⟩ := hT _ (D.some h); exact Rn.ret rfl rfl rfl
                · refine D.run 2 rfl ?_
                  exact fun h => by obtain ⟨rfl, rfl⟩ := hT _ (D.some h); exact Rn.ret rfl rfl rfl
              · refine D.run 1 rfl ?_
                exact fun h => by obtain ⟨rfl, rfl⟩ := hT _ (D.some h); exact Rn.ret rfl rfl rfl
      · refine D.run 1 rfl ?_
        exact fun h => by obtain ⟨rfl, rfl⟩ := hT _ (D.some h); exact Rn.ret rfl rfl rfl
set_option maxRecDepth 20000 in
theorem x267_ok {E : Xe} {R : Nat → Nat → Option Nat} {I : St} {a1 a2 : Int32} {q : Int32} (h : x267 I a1 a2 = some q) : Rn E 267 (0, loc0 267 [.ref 82, .int a1, .int a2], [], wT I R) (.returned (some (.int q))) (wT I R) := x267_D  _ _ (T := fun r => r = q) (by rintro r rfl; exact ⟨rfl, rfl⟩) ⟨_, h, rfl⟩
/-- TaintHouseModel.object(II)I -/
def x268 (I : St) (a1 a2 : Int32) : Option (Int32) := if (I 82 33) = 0 then some (-1) else if a1 < 0 then some (-1) else if a1 < (I 82 40) then if a2 = 0 then if inb a1 3001 then some (I 181 a1.toNatClampNeg) else none else if a2 = 1 then if inb a1 3001 then some (I 183 a1.toNatClampNeg) else none else if a2 = 2 then if inb a1 3001 then some (I 184 a1.toNatClampNeg) else none else some (-1) else some (-1)
set_option maxRecDepth 20000 in
theorem x268_D {E : Xe} {R : Nat → Nat → Option Nat} {o : Outcome} {w : Wd} {T : (Int32) → Prop} {I : St} (a1 a2 : Int32) (hT : ∀ r, T r → o = .returned (some (.int r)) ∧ w = wT I R) : Dq (x268 I a1 a2) T → Rn E 268 (0, loc0 268 [.ref 82, .int a1, .int a2], [], wT I R) o w := by
  unfold x268
  refine D.run 2 rfl ?_
  refine D.br rfl (by decide) rfl (fun hc => ?_) (fun hc => ?_)
  · refine D.run 1 rfl ?_
    exact fun h => by obtain ⟨rfl, rfl⟩ := hT _ (D.some h); exact Rn.ret rfl rfl rfl
  · refine D.run 1 rfl ?_
    refine D.br rfl (by decide) rfl (fun hc => ?_) (fun hc => ?_)
    · refine D.run 1 rfl ?_
      exact fun h => by obtain ⟨rfl, rfl⟩ := hT _ (D.some h); exact Rn.ret rfl rfl rfl
    · refine D.run 3 rfl ?_
      refine D.br rfl (by decide) rfl (fun hc => ?_) (fun hc => ?_)
      · refine D.run 1 rfl ?_
        refine D.br rfl (by decide) rfl (fun hc => ?_) (fun hc => ?_)
        · refine D.run 3 rfl ?_
          refine D.gd fun hg => ?_
          refine D.st rfl (by decide) (al_i (by decide) (by first | rfl | decide) hg.1 hg.2) ?_
          refine D.run 1 rfl ?_
          exact fun h => by obtain ⟨rfl, rfl⟩ := hT _ (D.some h); exact Rn.ret rfl rfl rfl
        · refine D.run 2 rfl ?_
          refine D.br rfl (by decide) rfl (fun hc => ?_) (fun hc => ?_)
          · refine D.run 3 rfl ?_
            refine D.gd fun hg => ?_
            refine D.st rfl (by decide) (al_i (by decide) (by first | rfl | decide) hg.1 hg.2) ?_
            refine D.run 1 rfl ?_
            exact fun h => by obtain ⟨rfl, rfl⟩ := hT _ (D.some h); exact Rn.ret rfl rfl rfl
          · refine D.run 2 rfl ?_
            refine D.br rfl (by decide) rfl (fun hc => ?_) (fun hc => ?_)
            · refine D.run 3 rfl ?_
              refine D.gd fun hg => ?_
              refine D.st rfl (by decide) (al_i (by decide) (by first | rfl | decide) hg.1 hg.2) ?_
              refine D.run 1 rfl ?_
              exact fun h => by obtain ⟨rfl, rfl⟩ := hT _ (D.some h); exact Rn.ret rfl rfl rfl
            · refine D.run 1 rfl ?_
              exact fun h => by obtain ⟨rfl, rfl⟩ := hT _ (D.some h); exact Rn.ret rfl rfl rfl
      · refine D.run 1 rfl ?_
        exact fun h => by obtain ⟨rfl, rfl⟩ := hT _ (D.some h); exact Rn.ret rfl rfl rfl
set_option maxRecDepth 20000 in
theorem x268_ok {E : Xe} {R : Nat → Nat → Option Nat} {I : St} {a1 a2 : Int32} {q : Int32} (h : x268 I a1 a2 = some q) : Rn E 268 (0, loc0 268 [.ref 82, .int a1, .int a2], [], wT I R) (.returned (some (.int q))) (wT I R) := x268_D  _ _ (T := fun r => r = q) (by rintro r rfl; exact ⟨rfl, rfl⟩) ⟨_, h, rfl⟩
/-- TaintHouseModel.isAbove(II)Z -/
def l271_2 (Q : Nat) (b1 : Int32) : Nat → Int32 → St → Option (Int32)
  | 0, _, _ => none
  | n + 1, b3, I => if b3 = (-1) then some b3 else if b3 = b1 then some b3 else if inb b3 19 then l271_2 Q b1 n (I (Q + 8) b3.toNatClampNeg) I else none
set_option maxRecDepth 20000 in
theorem l271_2_ok {E : Xe} {R : Nat → Nat → Option Nat} {Q : Nat} {I0 : St} {o : Outcome} {w : Wd} {T : (Int32) → Prop} {b1 : Int32} (hQ : Q = 85 ∨ Q = 126) (h82_3 : R 82 3 = some Q) (K : ∀ (q : Int32) (e2 : Value) (_ : is1 e2 = true), T q → Rn E 271 (25, [.ref 82, .int b1, e2, .int q], [], wT I0 R) o w) : ∀ (n : Nat) (b3 : Int32) (d2 : Value), is1 d2 = true → Dq (l271_2 Q b1 n b3 I0) T → Rn E 271 (2, [.ref 82, .int b1, d2, .int b3], [], wT I0 R) o w := by
  rcases hQ with rfl | rfl
  all_goals
    intro n
    induction n with
    | zero => intro b3 d2 hd2; exact D.none
    | succ n ih =>
      intro b3 d2 hd2
      rw [l271_2]
      refine D.run 2 rfl ?_
      refine D.br rfl (by decide) rfl (fun hc => ?_) (fun hc => ?_)
      · exact fun h => D.to h (K _ _ (by first | rfl | assumption))
      · refine D.run 2 rfl ?_
        refine D.br rfl (by decide) rfl (fun hc => ?_) (fun hc => ?_)
        · exact fun h => D.to h (K _ _ (by first | rfl | assumption))
        · refine D.run 1 rfl ?_
          refine D.st rfl (by decide) (gf_1 h82_3) ?_
          refine D.run 2 rfl ?_
          refine D.gd fun hg => ?_
          refine D.st rfl (by decide) (al_i (by decide) (by first | rfl | decide) hg.1 hg.2) ?_
          refine D.st rfl (by decide) (istn_d rfl (by first | rfl | assumption) rfl) ?_
          refine D.run 1 rfl ?_
          exact ih _ _  (by first | rfl | assumption)
def x271 (Q : Nat) (I : St) (a1 a2 : Int32) : Option (Int32) := (l271_2 Q a1 100000 a2 I).bind fun q1 => if q1 = a1 then some 1 else some 0
set_option maxRecDepth 20000 in
theorem x271_D {E : Xe} {R : Nat → Nat → Option Nat} {Q : Nat} {o : Outcome} {w : Wd} {T : (Int32) → Prop} {I : St} (hQ : Q = 85 ∨ Q = 126) (h82_3 : R 82 3 = some Q) (a1 a2 : Int32) (hT : ∀ r, T r → o = .returned (some (.int r)) ∧ w = wT I R) : Dq (x271 Q I a1 a2) T → Rn E 271 (0, loc0 271 [.ref 82, .int a1, .int a2], [], wT I R) o w := by
  unfold x271
  rcases hQ with rfl | rfl
  all_goals
    refine D.run 2 rfl ?_
    refine D.bind (l271_2_ok (by decide) h82_3 (fun q1 e2 he2 => ?_) 100000 _ _  (by first | rfl | assumption))
    refine D.run 2 rfl ?_
    refine D.br rfl (by decide) rfl (fun hc => ?_) (fun hc => ?_)
    · refine D.run 2 rfl ?_
      exact fun h => by obtain ⟨rfl, rfl⟩ := hT _ (D.some h); exact Rn.ret rfl rfl (by first | rfl | (simp [rt1, rt]; done) | decide)
    · refine D.run 1 rfl ?_
      exact fun h => by obtain ⟨rfl, rfl⟩ := hT _ (D.some h); exact Rn.ret rfl rfl (by first | rfl | (simp [rt1, rt]; done) | decide)
set_option maxRecDepth 20000 in
theorem x271_ok {E : Xe} {R : Nat → Nat → Option Nat} {Q : Nat} {I : St} (hQ : Q = 85 ∨ Q = 126) (h82_3 : R 82 3 = some Q) {a1 a2 : Int32} {q : Int32} (h : x271 Q I a1 a2 = some q) : Rn E 271 (0, loc0 271 [.ref 82, .int a1, .int a2], [], wT I R) (.returned (some (.int q))) (wT I R) := x271_D hQ h82_3 _ _ (T := fun r => r = q) (by rintro r rfl; exact ⟨rfl, rfl⟩) ⟨_, h, rfl⟩
/-- TaintHouseModel.stat(II)I -/
def x272 (Q : Nat) (I : St) (a1 a2 : Int32) : Option (Int32) := if (I 82 33) = 0 then some (-1) else if a1 < 0 then some (-1) else if (I Q 6) ≤ a1 then some (-1) else if a2 < 0 then some (-1) else if a2 ≤ 1 then if a2 = 1 then if inb a1 16 then some (I 188 a1.toNatClampNeg) else none else if inb a1 16 then if (I (Q + 14) a1.toNatClampNeg) = 2 then if inb a1 16 then some ((I 187 a1.toNatClampNeg) - 1) else none else if inb a1 16 then some (I 187 a1.toNatClampNeg) else none else none else some (-1)
set_option maxRecDepth 20000 in
theorem x272_D {E : Xe} {R : Nat → Nat → Option Nat} {Q : Nat} {o : Outcome} {w : Wd} {T : (Int32) → Prop} {I : St} (hQ : Q = 85 ∨ Q = 126) (h82_3 : R 82 3 = some Q) (a1 a2 : Int32) (hT : ∀ r, T r → o = .returned (some (.int r)) ∧ w = wT I R) : Dq (x272 Q I a1 a2) T → Rn E 272 (0, loc0 272 [.ref 82, .int a1, .int a2], [], wT I R) o w := by
  unfold x272
  rcases hQ with rfl | rfl
  all_goals
    refine D.run 2 rfl ?_
    refine D.br rfl (by decide) rfl (fun hc => ?_) (fun hc => ?_)
    · refine D.run 1 rfl ?_
      exact fun h => by obtain ⟨rfl, rfl⟩ := hT _ (D.some h); exact Rn.ret rfl rfl rfl
    · refine D.run 1 rfl ?_
      refine D.br rfl (by decide) rfl (fun hc => ?_) (fun hc => ?_)
      · refine D.run 1 rfl ?_
        exact fun h => by obtain ⟨rfl, rfl⟩ := hT _ (D.some h); exact Rn.ret rfl rfl rfl
      · refine D.run 2 rfl ?_
        refine D.st rfl (by decide) (gf_1 h82_3) ?_
        refine D.run 1 rfl ?_
        refine D.br rfl (by decide) rfl (fun hc => ?_) (fun hc => ?_)
        · refine D.run 1 rfl ?_
          exact fun h => by obtain ⟨rfl, rfl⟩ := hT _ (D.some h); exact Rn.ret rfl rfl rfl
        · refine D.run 1 rfl ?_
          refine D.br rfl (by decide) rfl (fun hc => ?_) (fun hc => ?_)
          · refine D.run 1 rfl ?_
            exact fun h => by obtain ⟨rfl, rfl⟩ := hT _ (D.some h); exact Rn.ret rfl rfl rfl
          · refine D.run 2 rfl ?_
            refine D.br rfl (by decide) rfl (fun hc => ?_) (fun hc => ?_)
            · refine D.run 2 rfl ?_
              refine D.br rfl (by decide) rfl (fun hc => ?_) (fun hc => ?_)
              · refine D.run 3 rfl ?_
                refine D.gd fun hg => ?_
                refine D.st rfl (by decide) (al_i (by decide) (by first | rfl | decide) hg.1 hg.2) ?_
                exact fun h => by obtain ⟨rfl, rfl⟩ := hT _ (D.some h); exact Rn.ret rfl rfl rfl
              · refine D.run 1 rfl ?_
                refine D.st rfl (by decide) (gf_1 h82_3) ?_
                refine D.run 2 rfl ?_
                refine D.gd fun hg => ?_
                refine D.st rfl (by decide) (al_i (by decide) (by first | rfl | decide) hg.1 hg.2) ?_
                refine D.run 1 rfl ?_
                refine D.br rfl (by decide) rfl (fun hc => ?_) (fun hc => ?_)
                · refine D.run 3 rfl ?_
                  refine D.gd fun hg => ?_
                  refine D.st rfl (by decide) (al_i (by decide) (by first | rfl | decide) hg.1 hg.2) ?_
                  refine D.run 3 rfl ?_
                  exact fun h => by obtain ⟨rfl, rfl⟩ := hT _ (D.some h); exact Rn.ret rfl rfl rfl
                · refine D.run 3 rfl ?_
                  refine D.gd fun hg => ?_
                  refine D.st rfl (by decide) (al_i (by decide) (by first | rfl | decide) hg.1 hg.2) ?_
                  exact fun h => by obtain ⟨rfl, rfl⟩ := hT _ (D.some h); exact Rn.ret rfl rfl rfl
            · refine D.run 1 rfl ?_
              exact fun h => by obtain ⟨rfl, rfl⟩ := hT _ (D.some h); exact Rn.ret rfl rfl rfl
set_option maxRecDepth 20000 in
theorem x272_ok {E : Xe} {R : Nat → Nat → Option Nat} {Q : Nat} {I : St} (hQ : Q = 85 ∨ Q = 126) (h82_3 : R 82 3 = some Q) {a1 a2 : Int32} {q : Int32} (h : x272 Q I a1 a2 = some q) : Rn E 272 (0, loc0 272 [.ref 82, .int a1, .int a2], [], wT I R) (.returned (some (.int q))) (wT I R) := x272_D hQ h82_3 _ _ (T := fun r => r = q) (by rintro r rfl; exact ⟨rfl, rfl⟩) ⟨_, h, rfl⟩
/-- TaintHouseModel.type(II)I -/
def l273_22 (Q : Nat) (b1 : Int32) (b2 : Int32) : Nat → Int32 → Int32 → St → Option (Int32)
  | 0, _, _, _ => none
  | n + 1, b3, b4, I => if (I Q 8) ≤ b4 then some b3 else if inb b4 24 then if (I (Q + 15) b4.toNatClampNeg) = b1 then l273_22 Q b1 b2 n (b3 + 1) (b4 + 1) I else l273_22 Q b1 b2 n (b3 + 0) (b4 + 1) I else none
set_option maxRecDepth 20000 in
theorem l273_22_ok {E : Xe} {R : Nat → Nat → Option Nat} {Q : Nat} {I0 : St} {o : Outcome} {w : Wd} {T : (Int32) → Prop} {b1 : Int32} {b2 : Int32} (hQ : Q = 85 ∨ Q = 126) (h82_3 : R 82 3 = some Q) (K : ∀ (q : Int32) (e4 : Value) (_ : is1 e4 = true), T q → Rn E 273 (62, [.ref 82, .int b1, .int b2, .int q, e4], [], wT I0 R) o w) : ∀ (n : Nat) (b3 : Int32) (b4 : Int32), Dq (l273_22 Q b1 b2 n b3 b4 I0) T → Rn E 273 (22, [.ref 82, .int b1, .int b2, .int b3, .int b4], [], wT I0 R) o w := by
  rcases hQ with rfl | rfl
  all_goals
    intro n
    induction n with
    | zero => intro b3 b4; exact D.none
    | succ n ih =>
      intro b3 b4
      rw [l273_22]
      refine D.run 2 rfl ?_
      refine D.st rfl (by decide) (gf_1 h82_3) ?_
      refine D.run 1 rfl ?_
      refine D.br rfl (by decide) rfl (fun hc => ?_) (fun hc => ?_)
      · exact fun h => D.to h (K _ _ (by first | rfl | assumption))
      · refine D.run 2 rfl ?_
        refine D.st rfl (by decide) (gf_1 h82_3) ?_
        refine D.run 2 rfl ?_
        refine D.gd fun hg => ?_
        refine D.st rfl (by decide) (al_i (by decide) (by first | rfl | decide) hg.1 hg.2) ?_
        refine D.run 1 rfl ?_
        refine D.br rfl (by decide) rfl (fun hc => ?_) (fun hc => ?_)
        · refine D.run 6 rfl ?_
          exact ih _ _  
        · refine D.run 5 rfl ?_
          exact ih _ _  
def x273 (Q : Nat) (I : St) (a1 a2 : Int32) : Option (Int32) := if a1 < 0 then some (-1) else if a1 < (I Q 5) then (l273_22 Q a1 a2 100000 0 0 I).bind fun q1 => if a2 = 0 then if inb a1 19 then some (I (Q + 8) a1.toNatClampNeg) else none else if a2 = 1 then (x252 Q I a1).bind fun q3 => some q3 else if a2 = 2 then some q1 else some (-1) else some (-1)
set_option maxRecDepth 20000 in
theorem x273_D {E : Xe} {R : Nat → Nat → Option Nat} {Q : Nat} {o : Outcome} {w : Wd} {T : (Int32) → Prop} {I : St} (hQ : Q = 85 ∨ Q = 126) (h82_3 : R 82 3 = some Q) (a1 a2 : Int32) (hT : ∀ r, T r → o = .returned (some (.int r)) ∧ w = wT I R) : Dq (x273 Q I a1 a2) T → Rn E 273 (0, loc0 273 [.ref 82, .int a1, .int a2], [], wT I R) o w := by
  unfold x273
  rcases hQ with rfl | rfl
  all_goals
    refine D.run 1 rfl ?_
    refine D.br rfl (by decide) rfl (fun hc => ?_) (fun hc => ?_)
    · refine D.run 1 rfl ?_
      exact fun h => by obtain ⟨rfl, rfl⟩ := hT _ (D.some h); exact Rn.ret rfl rfl rfl
    · refine D.run 2 rfl ?_
      refine D.st rfl (by decide) (gf_1 h82_3) ?_
      refine D.run 1 rfl ?_
      refine D.br rfl (by decide) rfl (fun hc => ?_) (fun hc => ?_)
      · refine D.run 4 rfl ?_
        refine D.bind (l273_22_ok (by decide) h82_3 (fun q1 e2 he2 => ?_) 100000 _ _   )
        refine D.run 1 rfl ?_
        refine D.br rfl (by decide) rfl (fun hc => ?_) (fun hc => ?_)
        · refine D.run 1 rfl ?_
          refine D.st rfl (by decide) (gf_1 h82_3) ?_
          refine D.run 2 rfl ?_
          refine D.gd fun hg => ?_
          refine D.st rfl (by decide) (al_i (by decide) (by first | rfl | decide) hg.1 hg.2) ?_
          refine D.run 1 rfl ?_
          exact fun h => by obtain ⟨rfl, rfl⟩ := hT _ (D.some h); exact Rn.ret rfl rfl rfl
        · refine D.run 2 rfl ?_
          refine D.br rfl (by decide) rfl (fun hc => ?_) (fun hc => ?_)
          · refine D.run 2 rfl ?_
            refine D.call rfl rfl rfl rfl (fun q h => x252_ok (by decide) h82_3 h) (fun q3 => ?_)
            refine D.run 1 rfl ?_
            exact fun h => by obtain ⟨rfl, rfl⟩ := hT _ (D.some h); exact Rn.ret rfl rfl rfl
          · refine D.run 2 rfl ?_
            refine D.br rfl (by decide) rfl (fun hc => ?_) (fun hc => ?_)
            · refine D.run 2 rfl ?_
              exact fun h => by obtain ⟨rfl, rfl⟩ := hT _ (D.some h); exact Rn.ret rfl rfl rfl
            · refine D.run 1 rfl ?_
              exact fun h => by obtain ⟨rfl, rfl⟩ := hT _ (D.some h); exact Rn.ret rfl rfl rfl
      · refine D.run 1 rfl ?_
        exact fun h => by obtain ⟨rfl, rfl⟩ := hT _ (D.some h); exact Rn.ret rfl rfl rfl
set_option maxRecDepth 20000 in
theorem x273_ok {E : Xe} {R : Nat → Nat → Option Nat} {Q : Nat} {I : St} (hQ : Q = 85 ∨ Q = 126) (h82_3 : R 82 3 = some Q) {a1 a2 : Int32} {q : Int32} (h : x273 Q I a1 a2 = some q) : Rn E 273 (0, loc0 273 [.ref 82, .int a1, .int a2], [], wT I R) (.returned (some (.int q))) (wT I R) := x273_D hQ h82_3 _ _ (T := fun r => r = q) (by rintro r rfl; exact ⟨rfl, rfl⟩) ⟨_, h, rfl⟩
/-- TaintHouseModel.method(II)I -/
def x274 (Q : Nat) (I : St) (a1 a2 : Int32) : Option (Int32) := if a1 < 0 then some (-1) else if a1 < (I Q 8) then if a2 = 0 then if inb a1 24 then some (I (Q + 15) a1.toNatClampNeg) else none else if a2 = 1 then if inb a1 24 then some (I (Q + 18) a1.toNatClampNeg) else none else if a2 = 2 then if inb a1 24 then some (I (Q + 20) a1.toNatClampNeg) else none else if a2 = 3 then if inb a1 24 then if (I (Q + 25) a1.toNatClampNeg) = 0 then some 0 else some 1 else none else if a2 = 4 then if inb a1 24 then some (I (Q + 22) a1.toNatClampNeg) else none else if a2 = 5 then if inb a1 24 then some (I (Q + 24) a1.toNatClampNeg) else none else some (-1) else some (-1)
set_option maxRecDepth 20000 in
theorem x274_D {E : Xe} {R : Nat → Nat → Option Nat} {Q : Nat} {o : Outcome} {w : Wd} {T : (Int32) → Prop} {I : St} (hQ : Q = 85 ∨ Q = 126) (h82_3 : R 82 3 = some Q) (a1 a2 : Int32) (hT : ∀ r, T r → o = .returned (some (.int r)) ∧ w = wT I R) : Dq (x274 Q I a1 a2) T → Rn E 274 (0, loc0 274 [.ref 82, .int a1, .int a2], [], wT I R) o w := by
  unfold x274
  rcases hQ with rfl | rfl
  all_goals
    refine D.run 1 rfl ?_
    refine D.br rfl (by decide) rfl (fun hc => ?_) (fun hc => ?_)
    · refine D.run 1 rfl ?_
      exact fun h => by obtain ⟨rfl, rfl⟩ := hT _ (D.some h); exact Rn.ret rfl rfl rfl
    · refine D.run 2 rfl ?_
      refine D.st rfl (by decide) (gf_1 h82_3) ?_
      refine D.run 1 rfl ?_
      refine D.br rfl (by decide) rfl (fun hc => ?_) (fun hc => ?_)
      · refine D.run 1 rfl ?_
        refine D.sw rfl (by decide) rfl ?_
        show _ → Rn E 274 (swT [(0, 56), (1, 66), (2, 76), (3, 86), (4, 104), (5, 114)] 124 _, _, _, _) _ _
        refine D.swc (fun hc => ?_) (fun hc => ?_)
        · refine D.run 1 rfl ?_
          refine D.st rfl (by decide) (gf_1 h82_3) ?_
          refine D.run 2 rfl ?_
          refine D.gd fun hg => ?_
          refine D.st rfl (by decide) (al_i (by decide) (by first | rfl | decide) hg.1 hg.2) ?_
          exact fun h => by obtain ⟨rfl, rfl⟩ := hT _ (D.some h); exact Rn.ret rfl rfl rfl
        · refine D.swc (fun hc => ?_) (fun hc => ?_)
          · refine D.run 1 rfl ?_
            refine D.st rfl (by decide) (gf_1 h82_3) ?_
            refine D.run 2 rfl ?_
            refine D.gd fun hg => ?_
            refine D.st rfl (by decide) (al_i (by decide) (by first | rfl | decide) hg.1 hg.2) ?_
            exact fun h => by obtain ⟨rfl, rfl⟩ := hT _ (D.some h); exact Rn.ret rfl rfl rfl
          · refine D.swc (fun hc => ?_) (fun hc => ?_)
            · refine D.run 1 rfl ?_
              refine D.st rfl (by decide) (gf_1 h82_3) ?_
              refine D.run 2 rfl ?_
              refine D.gd fun hg => ?_
              refine D.st rfl (by decide) (al_i (by decide) (by first | rfl | decide) hg.1 hg.2) ?_
              exact fun h => by obtain ⟨rfl, rfl⟩ := hT _ (D.some h); exact Rn.ret rfl rfl rfl
            · refine D.swc (fun hc => ?_) (fun hc => ?_)
              · refine D.run 1 rfl ?_
                refine D.st rfl (by decide) (gf_1 h82_3) ?_
                refine D.run 2 rfl ?_
                refine D.gd fun hg => ?_
                refine D.st rfl (by decide) (al_b (by decide) (by first | rfl | decide) hg.1 hg.2) ?_
                refine D.br rfl (by decide) rfl (fun hc => ?_) (fun hc => ?_)
                · refine D.run 1 rfl ?_
                  exact fun h => by obtain ⟨rfl, rfl⟩ := hT _ (D.some h); exact Rn.ret rfl rfl rfl
                · refine D.run 2 rfl ?_
                  exact fun h => by obtain ⟨rfl, rfl⟩ := hT _ (D.some h); exact Rn.ret rfl rfl rfl
              · refine D.swc (fun hc => ?_) (fun hc => ?_)
                · refine D.run 1 rfl ?_
                  refine D.st rfl (by decide) (gf_1 h82_3) ?_
                  refine D.run 2 rfl ?_
                  refine D.gd fun hg => ?_
                  refine D.st rfl (by decide) (al_i (by decide) (by first | rfl | decide) hg.1 hg.2) ?_
                  exact fun h => by obtain ⟨rfl, rfl⟩ := hT _ (D.some h); exact Rn.ret rfl rfl rfl
                · refine D.swc (fun hc => ?_) (fun hc => ?_)
                  · refine D.run 1 rfl ?_
                    refine D.st rfl (by decide) (gf_1 h82_3) ?_
                    refine D.run 2 rfl ?_
                    refine D.gd fun hg => ?_
                    refine D.st rfl (by decide) (al_i (by decide) (by first | rfl | decide) hg.1 hg.2) ?_
                    exact fun h => by obtain ⟨rfl, rfl⟩ := hT _ (D.some h); exact Rn.ret rfl rfl rfl
                  · refine D.run 1 rfl ?_
                    exact fun h => by obtain ⟨rfl, rfl⟩ := hT _ (D.some h); exact Rn.ret rfl rfl rfl
      · refine D.run 1 rfl ?_
        exact fun h => by obtain ⟨rfl, rfl⟩ := hT _ (D.some h); exact Rn.ret rfl rfl rfl
set_option maxRecDepth 20000 in
theorem x274_ok {E : Xe} {R : Nat → Nat → Option Nat} {Q : Nat} {I : St} (hQ : Q = 85 ∨ Q = 126) (h82_3 : R 82 3 = some Q) {a1 a2 : Int32} {q : Int32} (h : x274 Q I a1 a2 = some q) : Rn E 274 (0, loc0 274 [.ref 82, .int a1, .int a2], [], wT I R) (.returned (some (.int q))) (wT I R) := x274_D hQ h82_3 _ _ (T := fun r => r = q) (by rintro r rfl; exact ⟨rfl, rfl⟩) ⟨_, h, rfl⟩
/-- TaintHouseModel.count(I)I -/
def x275 (Q : Nat) (I : St) (a1 : Int32) : Int32 := if a1 = 0 then (I Q 5) else if a1 = 1 then (I Q 8) else if a1 = 2 then (I Q 6) else if a1 = 3 then (I 82 6) else if a1 = 4 then (I 82 1) else (-1)
set_option maxRecDepth 20000 in
theorem x275_ok {E : Xe} {R : Nat → Nat → Option Nat} {Q : Nat} {I : St} (hQ : Q = 85 ∨ Q = 126) (h82_3 : R 82 3 = some Q) (a1 : Int32) : Rn E 275 (0, loc0 275 [.ref 82, .int a1], [], wT I R) (.returned (some (.int (x275 Q I a1)))) (wT I R) := by
  have H : ∀ (o : Outcome) (w : Wd) (T : Int32 → Prop), (∀ r, T r → o = .returned (some (.int r)) ∧ w = wT I R) → Dq (some (x275 Q I a1)) T → Rn E 275 (0, loc0 275 [.ref 82, .int a1], [], wT I R) o w := by
    intro o w T hT
    unfold x275
    rcases hQ with rfl | rfl
    all_goals
      refine D.run 1 rfl ?_
      refine D.sw rfl (by decide) rfl ?_
      show _ → Rn E 275 (swT [(0, 36), (1, 44), (2, 52), (3, 60), (4, 65)] 70 _, _, _, _) _ _
      refine D.swcp (fun hc => ?_) (fun hc => ?_)
      · refine D.run 1 rfl ?_
        refine D.st rfl (by decide) (gf_1 h82_3) ?_
        refine D.run 1 rfl ?_
        exact fun h => by obtain ⟨rfl, rfl⟩ := hT _ (D.some h); exact Rn.ret rfl rfl rfl
      · refine D.swcp (fun hc => ?_) (fun hc => ?_)
        · refine D.run 1 rfl ?_
          refine D.st rfl (by decide) (gf_1 h82_3) ?_
          refine D.run 1 rfl ?_
          exact fun h => by obtain ⟨rfl, rfl⟩ := hT _ (D.some h); exact Rn.ret rfl rfl rfl
        · refine D.swcp (fun hc => ?_) (fun hc => ?_)
          · refine D.run 1 rfl ?_
            refine D.st rfl (by decide) (gf_1 h82_3) ?_
            refine D.run 1 rfl ?_
            exact fun h => by obtain ⟨rfl, rfl⟩ := hT _ (D.some h); exact Rn.ret rfl rfl rfl
          · refine D.swcp (fun hc => ?_) (fun hc => ?_)
            · refine D.run 2 rfl ?_
              exact fun h => by obtain ⟨rfl, rfl⟩ := hT _ (D.some h); exact Rn.ret rfl rfl rfl
            · refine D.swcp (fun hc => ?_) (fun hc => ?_)
              · refine D.run 2 rfl ?_
                exact fun h => by obtain ⟨rfl, rfl⟩ := hT _ (D.some h); exact Rn.ret rfl rfl rfl
              · refine D.run 1 rfl ?_
                exact fun h => by obtain ⟨rfl, rfl⟩ := hT _ (D.some h); exact Rn.ret rfl rfl rfl
  exact H _ _ (fun r => r = x275 Q I a1) (by rintro r rfl; exact ⟨rfl, rfl⟩) ⟨_, rfl, rfl⟩
/-- TaintHouse$Program.reset()V -/
def l4_50 (P : Nat) : Nat → Int32 → St → Option (St)
  | 0, _, _ => none
  | n + 1, b1, I => if 7 ≤ b1 then some I else (x6 P I (68 + b1)).bind fun q2 => (if b1 = 0 then some (-1) else if b1 = 1 then some 0 else some 1).bind fun (q3 : Int32) => l4_50 P n (b1 + 1) (tset q2.2 (P + 1) b1 0 q3)
set_option maxRecDepth 20000 in
theorem l4_50_ok {E : Xe} {R : Nat → Nat → Option Nat} {P : Nat} {o : Outcome} {w : Wd} {T : (St) → Prop} (hP : P = 3 ∨ P = 18) (K : ∀ (q : St) (e1 : Value) (_ : is1 e1 = true), T q → Rn E 4 (98, [.ref P, e1], [], wT q R) o w) : ∀ (n : Nat) (b1 : Int32) (I : St), Dq (l4_50 P n b1 I) T → Rn E 4 (50, [.ref P, .int b1], [], wT I R) o w := by
  rcases hP with rfl | rfl
  · intro n
    induction n with
    | zero => intro b1 I; exact D.none
    | succ n ih =>
      intro b1 I
      rw [l4_50]
      refine D.run 2 rfl ?_
      refine D.br rfl (by decide) rfl (fun hc => ?_) (fun hc => ?_)
      · exact fun h => D.to h (K _ _ (by first | rfl | assumption))
      · refine D.run 4 rfl ?_
        refine D.call rfl rfl rfl rfl (fun q h => x6_ok (by decide) h) (fun q2 => ?_)
        refine D.run 6 rfl ?_
        have Kj89 : ∀ (q3 : Int32), Dq (l4_50 3 n (b1 + 1) (tset q2.2 (3 + 1) b1 0 q3)) T → Rn E 4 (89, [.ref 3, .int b1], [.int q3, .int 0, .int b1, .ref (3 + 1)], wT q2.2 R) o w := by
          intro q3
          refine D.ce rfl rfl rfl rfl (tset_ok (by decide) (by first | rfl | decide) _ _ _) ?_
          refine D.run 2 rfl ?_
          exact ih _ _ 
        refine D.bind ?_
        refine D.br rfl (by decide) rfl (fun hc => ?_) (fun hc => ?_)
        · refine D.run 2 rfl ?_
          exact fun h => D.to h (Kj89 _  )
        · refine D.run 2 rfl ?_
          refine D.br rfl (by decide) rfl (fun hc => ?_) (fun hc => ?_)
          · refine D.run 2 rfl ?_
            exact fun h => D.to h (Kj89 _  )
          · refine D.run 1 rfl ?_
            exact fun h => D.to h (Kj89 _  )
  · intro n
    induction n with
    | zero => intro b1 I; exact D.none
    | succ n ih =>
      intro b1 I
      rw [l4_50]
      refine D.run 2 rfl ?_
      refine D.br rfl (by decide) rfl (fun hc => ?_) (fun hc => ?_)
      · exact fun h => D.to h (K _ _ (by first | rfl | assumption))
      · refine D.run 4 rfl ?_
        refine D.call rfl rfl rfl rfl (fun q h => x6_ok (by decide) h) (fun q2 => ?_)
        refine D.run 6 rfl ?_
        have Kj89 : ∀ (q3 : Int32), Dq (l4_50 18 n (b1 + 1) (tset q2.2 (18 + 1) b1 0 q3)) T → Rn E 4 (89, [.ref 18, .int b1], [.int q3, .int 0, .int b1, .ref (18 + 1)], wT q2.2 R) o w := by
          intro q3
          refine D.ce rfl rfl rfl rfl (tset_ok (by decide) (by first | rfl | decide) _ _ _) ?_
          refine D.run 2 rfl ?_
          exact ih _ _ 
        refine D.bind ?_
        refine D.br rfl (by decide) rfl (fun hc => ?_) (fun hc => ?_)
        · refine D.run 2 rfl ?_
          exact fun h => D.to h (Kj89 _  )
        · refine D.run 2 rfl ?_
          refine D.br rfl (by decide) rfl (fun hc => ?_) (fun hc => ?_)
          · refine D.run 2 rfl ?_
            exact fun h => D.to h (Kj89 _  )
          · refine D.run 1 rfl ?_
            exact fun h => D.to h (Kj89 _  )
def x4 (P : Nat) (I : St) : Option (St) := Lt (tresize (tresize (tresize (tresize (tresize I (P + 3) 0) (P + 5) 0) (P + 7) 0) (P + 9) 0) (P + 11) 0) fun J1 => (l4_50 P 100000 0 (tresize J1 (P + 1) 0)).bind fun q4 => some q4
set_option maxRecDepth 20000 in
theorem x4_D {E : Xe} {R : Nat → Nat → Option Nat} {P : Nat} {o : Outcome} {w : Wd} {T : (St) → Prop} {I : St} (hP : P = 3 ∨ P = 18) (hT : ∀ r, T r → o = .returned none ∧ w = wT r R) : Dq (x4 P I) T → Rn E 4 (0, loc0 4 [.ref P], [], wT I R) o w := by
  unfold x4
  rcases hP with rfl | rfl
  all_goals
    refine D.run 3 rfl ?_
    refine D.ce rfl rfl rfl rfl (tresize_ok (by decide) (by first | rfl | decide) _) ?_
    refine D.run 3 rfl ?_
    refine D.ce rfl rfl rfl rfl (tresize_ok (by decide) (by first | rfl | decide) _) ?_
    refine D.run 3 rfl ?_
    refine D.ce rfl rfl rfl rfl (tresize_ok (by decide) (by first | rfl | decide) _) ?_
    refine D.run 3 rfl ?_
    refine D.ce rfl rfl rfl rfl (tresize_ok (by decide) (by first | rfl | decide) _) ?_
    refine D.run 3 rfl ?_
    refine D.ce rfl rfl rfl rfl (tresize_ok (by decide) (by first | rfl | decide) _) ?_
    refine D.letS (fun J1 => ?_)
    refine D.run 3 rfl ?_
    refine D.ce rfl rfl rfl rfl (tresize_ok (by decide) (by first | rfl | decide) _) ?_
    refine D.run 2 rfl ?_
    refine D.bind (l4_50_ok (by decide) (fun q4 e5 he5 => ?_) 100000 _  _ )
    exact fun h => by obtain ⟨rfl, rfl⟩ := hT _ (D.some h); exact Rn.ret rfl rfl rfl
set_option maxRecDepth 20000 in
theorem x4_ok {E : Xe} {R : Nat → Nat → Option Nat} {P : Nat} {I : St} (hP : P = 3 ∨ P = 18) {q : St} (h : x4 P I = some q) : Rn E 4 (0, loc0 4 [.ref P], [], wT I R) (.returned none) (wT q R) := x4_D hP (T := fun r => r = q) (by rintro r rfl; exact ⟨rfl, rfl⟩) ⟨_, h, rfl⟩
/-- TaintHouse.feed(IIIII)Z -/
def x21 (I : St) (a1 a2 a3 a4 a5 : Int32) : Option (Int32 × St) := if ((I 1 3) + 20) ≤ 4000 then (x22 I a1).bind fun q1 => (x22 q1 a2).bind fun q2 => (x22 q2 a3).bind fun q3 => (x22 q3 a4).bind fun q4 => (x22 q4 a5).bind fun q5 => some (1, q5) else some (0, I)
set_option maxRecDepth 20000 in
theorem x21_D {E : Xe} {R : Nat → Nat → Option Nat} {o : Outcome} {w : Wd} {T : (Int32 × St) → Prop} {I : St} (a1 a2 a3 a4 a5 : Int32) (hT : ∀ r, T r → o = .returned (some (.int r.1)) ∧ w = wT r.2 R) : Dq (x21 I a1 a2 a3 a4 a5) T → Rn E 21 (0, loc0 21 [.ref 0, .int a1, .int a2, .int a3, .int a4, .int a5], [], wT I R) o w := by
  unfold x21
  refine D.run 2 rfl ?_
  refine D.ce rfl rfl rfl rfl (tsize_ok (by decide) (by first | rfl | decide)) ?_
  refine D.run 3 rfl ?_
  refine D.br rfl (by decide) rfl (fun hc => ?_) (fun hc => ?_)
  · refine D.run 2 rfl ?_
    refine D.call rfl rfl rfl rfl (fun q h => x22_ok h) (fun q1 => ?_)
    refine D.run 2 rfl ?_
    refine D.call rfl rfl rfl rfl (fun q h => x22_ok h) (fun q2 => ?_)
    refine D.run 2 rfl ?_
    refine D.call rfl rfl rfl rfl (fun q h => x22_ok h) (fun q3 => ?_)
    refine D.run 2 rfl ?_
    refine D.call rfl rfl rfl rfl (fun q h => x22_ok h) (fun q4 => ?_)
    refine D.run 2 rfl ?_
    refine D.call rfl rfl rfl rfl (fun q h => x22_ok h) (fun q5 => ?_)
    refine D.run 1 rfl ?_
    exact fun h => by obtain ⟨rfl, rfl⟩ := hT _ (D.some h); exact Rn.ret rfl rfl (by first | rfl | (simp [rt1, rt]; done) | decide)
  · refine D.run 1 rfl ?_
    exact fun h => by obtain ⟨rfl, rfl⟩ := hT _ (D.some h); exact Rn.ret rfl rfl (by first | rfl | (simp [rt1, rt]; done) | decide)
set_option maxRecDepth 20000 in
theorem x21_ok {E : Xe} {R : Nat → Nat → Option Nat} {I : St} {a1 a2 a3 a4 a5 : Int32} {q : Int32 × St} (h : x21 I a1 a2 a3 a4 a5 = some q) : Rn E 21 (0, loc0 21 [.ref 0, .int a1, .int a2, .int a3, .int a4, .int a5], [], wT I R) (.returned (some (.int q.1))) (wT q.2 R) := x21_D  _ _ _ _ _ (T := fun r => r = q) (by rintro r rfl; exact ⟨rfl, rfl⟩) ⟨_, h, rfl⟩
/-- TaintHouse$Names.finish()I -/
def l35_46 (b1 : Int32) (b2 : Int32) (b3 : Int32) : Nat → Int32 → Int32 → St → Option ((Unit) ⊕ (Int32 × St))
  | 0, _, _, _ => none
  | n + 1, b4, b5, I => if b4 = (-1) then some (.inl ()) else if (I 37 3) ≤ b5 then some (.inl ()) else (x37 I b4 b1).bind fun q1 => if q1 = 0 then l35_46 b1 b2 b3 n (tget I 37 b4 5) (b5 + 1) I else some (.inr (b4, (tresize I 39 (I 36 3))))
set_option maxRecDepth 20000 in
theorem l35_46_ok {E : Xe} {R : Nat → Nat → Option Nat} {I0 : St} {o : Outcome} {w : Wd} {T : ((Unit) ⊕ (Int32 × St)) → Prop} {b1 : Int32} {b2 : Int32} {b3 : Int32} (hT : ∀ r, T (.inr r) → o = .returned (some (.int r.1)) ∧ w = wT r.2 R) (K : ∀ (q : Unit) (e4 : Value) (_ : is1 e4 = true) (e5 : Value) (_ : is1 e5 = true), T (.inl q) → Rn E 35 (106, [.ref 36, .int b1, .int b2, .int b3, e4, e5], [], wT I0 R) o w) : ∀ (n : Nat) (b4 : Int32) (b5 : Int32), Dq (l35_46 b1 b2 b3 n b4 b5 I0) T → Rn E 35 (46, [.ref 36, .int b1, .int b2, .int b3, .int b4, .int b5], [], wT I0 R) o w := by
  intro n
  induction n with
  | zero => intro b4 b5; exact D.none
  | succ n ih =>
    intro b4 b5
    rw [l35_46]
    refine D.run 2 rfl ?_
    refine D.br rfl (by decide) rfl (fun hc => ?_) (fun hc => ?_)
    · exact fun h => D.to h (K _ _ (by first | rfl | assumption) _ (by first | rfl | assumption))
    · refine D.run 3 rfl ?_
      refine D.ce rfl rfl rfl rfl (tsize_ok (by decide) (by first | rfl | decide)) ?_
      refine D.br rfl (by decide) rfl (fun hc => ?_) (fun hc => ?_)
      · exact fun h => D.to h (K _ _ (by first | rfl | assumption) _ (by first | rfl | assumption))
      · refine D.run 3 rfl ?_
        refine D.call rfl rfl rfl rfl (fun q h => x37_ok h) (fun q1 => ?_)
        refine D.br rfl (by decide) rfl (fun hc => ?_) (fun hc => ?_)
        · refine D.run 4 rfl ?_
          refine D.ce rfl rfl rfl rfl (tget_ok (by decide) (by first | rfl | decide) _ _) ?_
          refine D.run 3 rfl ?_
          exact ih _ _  
        · refine D.run 4 rfl ?_
          refine D.ce rfl rfl rfl rfl (tresize_ok (by decide) (by first | rfl | decide) _) ?_
          refine D.run 1 rfl ?_
          exact fun h => by obtain ⟨rfl, rfl⟩ := hT _ (D.some h); exact Rn.ret rfl rfl rfl
def x35 (I : St) : Option (Int32 × St) := (l35_46 ((I 39 3) - (I 36 3)) (((I 36 4) ^^^ (ushr (I 36 4) 8)) &&& 255) (tget I 41 (((I 36 4) ^^^ (ushr (I 36 4) 8)) &&& 255) 0) 100000 (tget I 41 (((I 36 4) ^^^ (ushr (I 36 4) 8)) &&& 255) 0) 0 I).bind (Sum.elim (fun q2 => Lt (tset (tset (tset (tadd I 37) 37 (tadr I 37) 0 (-1)) 37 (tadr I 37) 1 (-1)) 37 (tadr I 37) 3 ((tset (tset (tadd I 37) 37 (tadr I 37) 0 (-1)) 37 (tadr I 37) 1 (-1)) 36 3)) fun J5 => Lt (tset (tset J5 37 (tadr I 37) 4 ((I 39 3) - (I 36 3))) 37 (tadr I 37) 5 (tget I 41 (((I 36 4) ^^^ (ushr (I 36 4) 8)) &&& 255) 0)) fun J6 => some ((tadr I 37), (tset J6 41 (((I 36 4) ^^^ (ushr (I 36 4) 8)) &&& 255) 0 (tadr I 37)))) (fun r => some r))
set_option maxRecDepth 20000 in
theorem x35_D {E : Xe} {R : Nat → Nat → Option Nat} {o : Outcome} {w : Wd} {T : (Int32 × St) → Prop} {I : St} (hT : ∀ r, T r → o = .returned (some (.int r.1)) ∧ w = wT r.2 R) : Dq (x35 I) T → Rn E 35 (0, loc0 35 [.ref 36], [], wT I R) o w := by
  unfold x35
  refine D.run 2 rfl ?_
  refine D.ce rfl rfl rfl rfl (tsize_ok (by decide) (by first | rfl | decide)) ?_
  refine D.run 18 rfl ?_
  refine D.ce rfl rfl rfl rfl (tget_ok (by decide) (by first | rfl | decide) _ _) ?_
  refine D.run 5 rfl ?_
  refine D.bind (l35_46_ok  (fun r h => hT _ (D.some h)) (fun q2 e3 he3 e4 he4 => ?_) 100000 _ _   )
  refine D.inl ?_
  refine D.run 2 rfl ?_
  refine D.ce rfl rfl rfl rfl (tadd_ok (by decide) (by first | rfl | decide)) ?_
  refine D.run 6 rfl ?_
  refine D.ce rfl rfl rfl rfl (tset_ok (by decide) (by first | rfl | decide) _ _ _) ?_
  refine D.run 5 rfl ?_
  refine D.ce rfl rfl rfl rfl (tset_ok (by decide) (by first | rfl | decide) _ _ _) ?_
  refine D.run 6 rfl ?_
  refine D.ce rfl rfl rfl rfl (tset_ok (by decide) (by first | rfl | decide) _ _ _) ?_
  refine D.letS (fun J5 => ?_)
  refine D.run 5 rfl ?_
  refine D.ce rfl rfl rfl rfl (tset_ok (by decide) (by first | rfl | decide) _ _ _) ?_
  refine D.run 5 rfl ?_
  refine D.ce rfl rfl rfl rfl (tset_ok (by decide) (by first | rfl | decide) _ _ _) ?_
  refine D.letS (fun J6 => ?_)
  refine D.run 5 rfl ?_
  refine D.ce rfl rfl rfl rfl (tset_ok (by decide) (by first | rfl | decide) _ _ _) ?_
  refine D.run 1 rfl ?_
  exact fun h => by obtain ⟨rfl, rfl⟩ := hT _ (D.some h); exact Rn.ret rfl rfl rfl
set_option maxRecDepth 20000 in
theorem x35_ok {E : Xe} {R : Nat → Nat → Option Nat} {I : St} {q : Int32 × St} (h : x35 I = some q) : Rn E 35 (0, loc0 35 [.ref 36], [], wT I R) (.returned (some (.int q.1))) (wT q.2 R) := x35_D  (T := fun r => r = q) (by rintro r rfl; exact ⟨rfl, rfl⟩) ⟨_, h, rfl⟩
/-- TaintHouse$Lexer.scanName(II)I -/
def l43_9 (b1 : Int32) (b2 : Int32) : Nat → Int32 → St → Option (Int32 × St)
  | 0, _, _ => none
  | n + 1, b3, I => if b2 ≤ b3 then some (b3, I) else if (x42 I (x39 I b3)) = 0 then if (x44 I (x39 I b3)) = 0 then some (b3, I) else (x38 I (x39 I b3)).bind fun q2 => l43_9 b1 b2 n (b3 + 1) q2 else (x38 I (x39 I b3)).bind fun q3 => l43_9 b1 b2 n (b3 + 1) q3
set_option maxRecDepth 20000 in
theorem l43_9_ok {E : Xe} {R : Nat → Nat → Option Nat} {o : Outcome} {w : Wd} {T : (Int32 × St) → Prop} {b1 : Int32} {b2 : Int32} (K : ∀ (q : Int32 × St) (e2 : Value) (_ : is1 e2 = true) (e4 : Value) (_ : is1 e4 = true), T q → Rn E 43 (54, [.ref 33, .int b1, e2, .int q.1, e4], [], wT q.2 R) o w) : ∀ (n : Nat) (b3 : Int32) (d4 : Value) (I : St), is1 d4 = true → Dq (l43_9 b1 b2 n b3 I) T → Rn E 43 (9, [.ref 33, .int b1, .int b2, .int b3, d4], [], wT I R) o w := by
  intro n
  induction n with
  | zero => intro b3 d4 I hd4; exact D.none
  | succ n ih =>
    intro b3 d4 I hd4
    rw [l43_9]
    refine D.run 2 rfl ?_
    refine D.br rfl (by decide) rfl (fun hc => ?_) (fun hc => ?_)
    · exact fun h => D.to h (K _ _ (by first | rfl | assumption) _ (by first | rfl | assumption))
    · refine D.run 2 rfl ?_
      refine D.ce rfl rfl rfl rfl (x39_ok _) ?_
      refine D.ce rfl rfl rfl rfl (x42_ok _) ?_
      refine D.br rfl (by decide) rfl (fun hc => ?_) (fun hc => ?_)
      · refine D.run 2 rfl ?_
        refine D.ce rfl rfl rfl rfl (x39_ok _) ?_
        refine D.ce rfl rfl rfl rfl (x44_ok _) ?_
        refine D.br rfl (by decide) rfl (fun hc => ?_) (fun hc => ?_)
        · exact fun h => D.to h (K _ _ (by first | rfl | assumption) _ (by first | rfl | assumption))
        · refine D.run 4 rfl ?_
          refine D.ce rfl rfl rfl rfl (x39_ok _) ?_
          refine D.call rfl rfl rfl rfl (fun q h => x38_ok h) (fun q2 => ?_)
          refine D.run 2 rfl ?_
          exact ih _ _ _ (by first | rfl | assumption)
      · refine D.run 4 rfl ?_
        refine D.ce rfl rfl rfl rfl (x39_ok _) ?_
        refine D.call rfl rfl rfl rfl (fun q h => x38_ok h) (fun q3 => ?_)
        refine D.run 2 rfl ?_
        exact ih _ _ _ (by first | rfl | assumption)
def x43 (I : St) (a1 a2 : Int32) : Option (Int32 × St) := (x29 I).bind fun q1 => (l43_9 a1 a2 100000 a1 q1).bind fun q4 => (x35 q4.2).bind fun q7 => if (q4.1 - a1) ≤ 12 then (if 68 ≤ q7.1 then some 1 else some 3).bind fun (q8 : Int32) => (x45 q7.2 q8 a1 q7.1).bind fun q9 => some (q4.1, q9) else (x45 q7.2 2 a1 0).bind fun q10 => some (q4.1, q10)
set_option maxRecDepth 20000 in
theorem x43_D {E : Xe} {R : Nat → Nat → Option Nat} {o : Outcome} {w : Wd} {T : (Int32 × St) → Prop} {I : St} (a1 a2 : Int32) (hT : ∀ r, T r → o = .returned (some (.int r.1)) ∧ w = wT r.2 R) : Dq (x43 I a1 a2) T → Rn E 43 (0, loc0 43 [.ref 33, .int a1, .int a2], [], wT I R) o w := by
  unfold x43
  refine D.run 4 rfl ?_
  refine D.call rfl rfl rfl rfl (fun q h => x29_ok h) (fun q1 => ?_)
  refine D.bind (l43_9_ok  (fun q4 e5 he5 e6 he6 => ?_) 100000 _ _ _ (by first | rfl | assumption))
  refine D.run 2 rfl ?_
  refine D.call rfl rfl rfl rfl (fun q h => x35_ok h) (fun q7 => ?_)
  refine D.run 5 rfl ?_
  refine D.br rfl (by decide) rfl (fun hc => ?_) (fun hc => ?_)
  · refine D.run 3 rfl ?_
    have Kj94 : ∀ (q8 : Int32), Dq ((x45 q7.2 q8 a1 q7.1).bind fun q9 => some (q4.1, q9)) T → Rn E 43 (94, [.ref 33, .int a1, e5, .int q4.1, .int q7.1], [.int q8, .ref 33], wT q7.2 R) o w := by
      intro q8
      refine D.run 2 rfl ?_
      refine D.call rfl rfl rfl rfl (fun q h => x45_ok h) (fun q9 => ?_)
      refine D.run 1 rfl ?_
      exact fun h => by obtain ⟨rfl, rfl⟩ := hT _ (D.some h); exact Rn.ret rfl rfl rfl
    refine D.bind ?_
    refine D.br rfl (by decide) rfl (fun hc => ?_) (fun hc => ?_)
    · refine D.run 1 rfl ?_
      exact fun h => D.to h (Kj94 _  )
    · refine D.run 2 rfl ?_
      exact fun h => D.to h (Kj94 _  )
  · refine D.run 4 rfl ?_
    refine D.call rfl rfl rfl rfl (fun q h => x45_ok h) (fun q10 => ?_)
    refine D.run 2 rfl ?_
    exact fun h => by obtain ⟨rfl, rfl⟩ := hT _ (D.some h); exact Rn.ret rfl rfl rfl
set_option maxRecDepth 20000 in
theorem x43_ok {E : Xe} {R : Nat → Nat → Option Nat} {I : St} {a1 a2 : Int32} {q : Int32 × St} (h : x43 I a1 a2 = some q) : Rn E 43 (0, loc0 43 [.ref 33, .int a1, .int a2], [], wT I R) (.returned (some (.int q.1))) (wT q.2 R) := x43_D  _ _ (T := fun r => r = q) (by rintro r rfl; exact ⟨rfl, rfl⟩) ⟨_, h, rfl⟩
/-- TaintHouse$Parser.takeName()I -/
def x59 (I : St) : Option (Int32 × St) := if (x56 I) = 2 then some ((-1), (up2 I 56 5 ((x60 I) + 12))) else if (x56 I) = 1 then some ((tget (up2 (up2 I 56 6 (x60 I)) 56 3 ((I 56 3) + 1)) 34 (((I 56 3) + 1) - 1) 2), (up2 (up2 I 56 6 (x60 I)) 56 3 ((I 56 3) + 1))) else (x58 I).bind fun q1 => some ((-1), q1)
set_option maxRecDepth 20000 in
theorem x59_D {E : Xe} {R : Nat → Nat → Option Nat} {o : Outcome} {w : Wd} {T : (Int32 × St) → Prop} {I : St} (hT : ∀ r, T r → o = .returned (some (.int r.1)) ∧ w = wT r.2 R) : Dq (x59 I) T → Rn E 59 (0, loc0 59 [.ref 56], [], wT I R) o w := by
  unfold x59
  refine D.run 1 rfl ?_
  refine D.ce rfl rfl rfl rfl (x56_ok) ?_
  refine D.run 1 rfl ?_
  refine D.br rfl (by decide) rfl (fun hc => ?_) (fun hc => ?_)
  · refine D.run 2 rfl ?_
    refine D.ce rfl rfl rfl rfl (x60_ok) ?_
    refine D.run 4 rfl ?_
    exact fun h => by obtain ⟨rfl, rfl⟩ := hT _ (D.some h); exact Rn.ret rfl rfl rfl
  · refine D.run 1 rfl ?_
    refine D.ce rfl rfl rfl rfl (x56_ok) ?_
    refine D.run 1 rfl ?_
    refine D.br rfl (by decide) rfl (fun hc => ?_) (fun hc => ?_)
    · refine D.run 2 rfl ?_
      refine D.ce rfl rfl rfl rfl (x60_ok) ?_
      refine D.run 14 rfl ?_
      refine D.ce rfl rfl rfl rfl (tget_ok (by decide) (by first | rfl | decide) _ _) ?_
      exact fun h => by obtain ⟨rfl, rfl⟩ := hT _ (D.some h); exact Rn.ret rfl rfl rfl
    · refine D.run 1 rfl ?_
      refine D.call rfl rfl rfl rfl (fun q h => x58_ok h) (fun q1 => ?_)
      refine D.run 1 rfl ?_
      exact fun h => by obtain ⟨rfl, rfl⟩ := hT _ (D.some h); exact Rn.ret rfl rfl rfl
set_option maxRecDepth 20000 in
theorem x59_ok {E : Xe} {R : Nat → Nat → Option Nat} {I : St} {q : Int32 × St} (h : x59 I = some q) : Rn E 59 (0, loc0 59 [.ref 56], [], wT I R) (.returned (some (.int q.1))) (wT q.2 R) := x59_D  (T := fun r => r = q) (by rintro r rfl; exact ⟨rfl, rfl⟩) ⟨_, h, rfl⟩
/-- TaintHouse$Parser.startMember(LTaintHouse$Table;I)I -/
def x66 (k : Nat) (P : Nat) (I : St) (a2 : Int32) : Option (Int32 × St) := (x59 (up2 I 56 3 ((I 56 3) + 1))).bind fun q1 => Lt (tset (tset (tset (tadd q1.2 k) k (tadr q1.2 k) 0 (x65 P (tadd q1.2 k))) k (tadr q1.2 k) 1 q1.1) k (tadr q1.2 k) 2 a2) fun J2 => Lt (tset (tset (tset (tadd J2 46) 46 (tadr J2 46) 2 (x65 P (tadd J2 46))) 46 (tadr J2 46) 0 q1.1) 46 (tadr J2 46) 1 ((tset (tset (tadd J2 46) 46 (tadr J2 46) 2 (x65 P (tadd J2 46))) 46 (tadr J2 46) 0 q1.1) 56 6)) fun J3 => some ((tadr q1.2 k), J3)
set_option maxRecDepth 20000 in
theorem x66_D {E : Xe} {R : Nat → Nat → Option Nat} {k : Nat} {P : Nat} {o : Outcome} {w : Wd} {T : (Int32 × St) → Prop} {I : St} (hP : P = 3 ∨ P = 18) (hk : k = P + 3 ∨ k = P + 5 ∨ k = P + 7) (h56_2 : R 56 2 = some P) (a2 : Int32) (hT : ∀ r, T r → o = .returned (some (.int r.1)) ∧ w = wT r.2 R) : Dq (x66 k P I a2) T → Rn E 66 (0, loc0 66 [.ref 56, .ref k, .int a2], [], wT I R) o w := by
  unfold x66
  rcases hP with rfl | rfl <;> rcases hk with rfl | rfl | rfl
  all_goals
    refine D.run 7 rfl ?_
    refine D.call rfl rfl rfl rfl (fun q h => x59_ok h) (fun q1 => ?_)
    refine D.run 2 rfl ?_
    refine D.ce rfl rfl rfl rfl (tadd_ok (by decide) (by first | rfl | decide)) ?_
    refine D.run 5 rfl ?_
    refine D.ce rfl rfl rfl rfl (x65_ok (by decide) h56_2) ?_
    refine D.ce rfl rfl rfl rfl (tset_ok (by decide) (by first | rfl | decide) _ _ _) ?_
    refine D.run 4 rfl ?_
    refine D.ce rfl rfl rfl rfl (tset_ok (by decide) (by first | rfl | decide) _ _ _) ?_
    refine D.run 4 rfl ?_
    refine D.ce rfl rfl rfl rfl (tset_ok (by decide) (by first | rfl | decide) _ _ _) ?_
    refine D.letS (fun J2 => ?_)
    refine D.run 3 rfl ?_
    refine D.ce rfl rfl rfl rfl (tadd_ok (by decide) (by first | rfl | decide)) ?_
    refine D.run 7 rfl ?_
    refine D.ce rfl rfl rfl rfl (x65_ok (by decide) h56_2) ?_
    refine D.ce rfl rfl rfl rfl (tset_ok (by decide) (by first | rfl | decide) _ _ _) ?_
    refine D.run 6 rfl ?_
    refine D.ce rfl rfl rfl rfl (tset_ok (by decide) (by first | rfl | decide) _ _ _) ?_
    refine D.run 7 rfl ?_
    refine D.ce rfl rfl rfl rfl (tset_ok (by decide) (by first | rfl | decide) _ _ _) ?_
    refine D.letS (fun J3 => ?_)
    refine D.run 1 rfl ?_
    exact fun h => by obtain ⟨rfl, rfl⟩ := hT _ (D.some h); exact Rn.ret rfl rfl rfl
set_option maxRecDepth 20000 in
theorem x66_ok {E : Xe} {R : Nat → Nat → Option Nat} {k : Nat} {P : Nat} {I : St} (hP : P = 3 ∨ P = 18) (hk : k = P + 3 ∨ k = P + 5 ∨ k = P + 7) (h56_2 : R 56 2 = some P) {a2 : Int32} {q : Int32 × St} (h : x66 k P I a2 = some q) : Rn E 66 (0, loc0 66 [.ref 56, .ref k, .int a2], [], wT I R) (.returned (some (.int q.1))) (wT q.2 R) := x66_D hP hk h56_2 _ (T := fun r => r = q) (by rintro r rfl; exact ⟨rfl, rfl⟩) ⟨_, h, rfl⟩
/-- TaintHouse$Parser.readStatic()V -/
def x68 (P : Nat) (I : St) : Option (St) := if (I (P + 5) 3) < 16 then (x66 (P + 5) P I 0).bind fun q1 => (x67 q1.2 0).bind fun q2 => (x62 (tset q2.2 (P + 5) q1.1 3 q2.1) 59).bind fun q3 => some q3 else (x58 I).bind fun q4 => some q4
set_option maxRecDepth 20000 in
theorem x68_D {E : Xe} {R : Nat → Nat → Option Nat} {P : Nat} {o : Outcome} {w : Wd} {T : (St) → Prop} {I : St} (hP : P = 3 ∨ P = 18) (h56_2 : R 56 2 = some P) (hT : ∀ r, T r → o = .returned none ∧ w = wT r R) : Dq (x68 P I) T → Rn E 68 (0, loc0 68 [.ref 56], [], wT I R) o w := by
  unfold x68
  rcases hP with rfl | rfl
  all_goals
    refine D.run 1 rfl ?_
    refine D.st rfl (by decide) (gf_1 h56_2) ?_
    refine D.run 1 rfl ?_
    refine D.ce rfl rfl rfl rfl (tsize_ok (by decide) (by first | rfl | decide)) ?_
    refine D.run 1 rfl ?_
    refine D.br rfl (by decide) rfl (fun hc => ?_) (fun hc => ?_)
    · refine D.run 2 rfl ?_
      refine D.st rfl (by decide) (gf_1 h56_2) ?_
      refine D.run 2 rfl ?_
      refine D.call rfl rfl rfl rfl (fun q h => x66_ok (by decide) (by decide) h56_2 h) (fun q1 => ?_)
      refine D.run 2 rfl ?_
      refine D.st rfl (by decide) (gf_1 h56_2) ?_
      refine D.run 5 rfl ?_
      refine D.call rfl rfl rfl rfl (fun q h => x67_ok h) (fun q2 => ?_)
      refine D.ce rfl rfl rfl rfl (tset_ok (by decide) (by first | rfl | decide) _ _ _) ?_
      refine D.run 2 rfl ?_
      refine D.call rfl rfl rfl rfl (fun q h => x62_ok h) (fun q3 => ?_)
      exact fun h => by obtain ⟨rfl, rfl⟩ := hT _ (D.some h); exact Rn.ret rfl rfl rfl
    · refine D.run 1 rfl ?_
      refine D.call rfl rfl rfl rfl (fun q h => x58_ok h) (fun q4 => ?_)
      exact fun h => by obtain ⟨rfl, rfl⟩ := hT _ (D.some h); exact Rn.ret rfl rfl rfl
set_option maxRecDepth 20000 in
theorem x68_ok {E : Xe} {R : Nat → Nat → Option Nat} {P : Nat} {I : St} (hP : P = 3 ∨ P = 18) (h56_2 : R 56 2 = some P) {q : St} (h : x68 P I = some q) : Rn E 68 (0, loc0 68 [.ref 56], [], wT I R) (.returned none) (wT q R) := x68_D hP h56_2 (T := fun r => r = q) (by rintro r rfl; exact ⟨rfl, rfl⟩) ⟨_, h, rfl⟩
/-- TaintHouse$Parser.readMethodHead(I)V -/
def x69 (P : Nat) (I : St) (a1 : Int32) : Option (St) := if (I (P + 7) 3) < 24 then (x66 (P + 7) P (tset I (P + 1) (x65 P I) 5 ((tget I (P + 1) (x65 P I) 5) + 1)) a1).bind fun q1 => Lt (tset (tset (tadd q1.2 48) 48 q1.1 0 ((tadd q1.2 48) 56 6)) 48 q1.1 2 ((tset (tadd q1.2 48) 48 q1.1 0 ((tadd q1.2 48) 56 6)) 50 3)) fun J2 => (x70 P (tset J2 48 q1.1 3 0) q1.1).bind fun q3 => (x67 q3 1).bind fun q4 => Lt (tset (tset q4.2 (P + 7) q1.1 3 q4.1) (P + 7) q1.1 5 ((tset q4.2 (P + 7) q1.1 3 q4.1) (P + 9) 3)) fun J5 => Lt (tset (tset (tset J5 (P + 7) q1.1 6 0) (P + 7) q1.1 7 ((tset J5 (P + 7) q1.1 6 0) (P + 11) 3)) (P + 7) q1.1 8 0) fun J6 => (x62 (tset J6 (P + 7) q1.1 9 0) 123).bind fun q7 => some (up2 q7 56 4 2) else (x58 I).bind fun q8 => some q8
set_option maxRecDepth 20000 in
theorem x69_D {E : Xe} {R : Nat → Nat → Option Nat} {P : Nat} {o : Outcome} {w : Wd} {T : (St) → Prop} {I : St} (hP : P = 3 ∨ P = 18) (h56_2 : R 56 2 = some P) (a1 : Int32) (hT : ∀ r, T r → o = .returned none ∧ w = wT r R) : Dq (x69 P I a1) T → Rn E 69 (0, loc0 69 [.ref 56, .int a1], [], wT I R) o w := by
  unfold x69
  rcases hP with rfl | rfl
  all_goals
    refine D.run 1 rfl ?_
    refine D.st rfl (by decide) (gf_1 h56_2) ?_
    refine D.run 1 rfl ?_
    refine D.ce rfl rfl rfl rfl (tsize_ok (by decide) (by first | rfl | decide)) ?_
    refine D.run 1 rfl ?_
    refine D.br rfl (by decide) rfl (fun hc => ?_) (fun hc => ?_)
    · refine D.run 1 rfl ?_
      refine D.st rfl (by decide) (gf_1 h56_2) ?_
      refine D.run 3 rfl ?_
      refine D.st rfl (by decide) (gf_1 h56_2) ?_
      refine D.run 2 rfl ?_
      refine D.ce rfl rfl rfl rfl (x65_ok (by decide) h56_2) ?_
      refine D.run 1 rfl ?_
      refine D.ce rfl rfl rfl rfl (tget_ok (by decide) (by first | rfl | decide) _ _) ?_
      refine D.run 2 rfl ?_
      refine D.st rfl (by decide) (gf_1 h56_2) ?_
      refine D.run 2 rfl ?_
      refine D.ce rfl rfl rfl rfl (x65_ok (by decide) h56_2) ?_
      refine D.run 4 rfl ?_
      refine D.ce rfl rfl rfl rfl (tset_ok (by decide) (by first | rfl | decide) _ _ _) ?_
      refine D.run 3 rfl ?_
      refine D.call rfl rfl rfl rfl (fun q h => x66_ok (by decide) (by decide) h56_2 h) (fun q1 => ?_)
      refine D.run 4 rfl ?_
      refine D.ce rfl rfl rfl rfl (tadd_ok (by decide) (by first | rfl | decide)) ?_
      refine D.run 8 rfl ?_
      refine D.ce rfl rfl rfl rfl (tset_ok (by decide) (by first | rfl | decide) _ _ _) ?_
      refine D.run 8 rfl ?_
      refine D.ce rfl rfl rfl rfl (tsize_ok (by decide) (by first | rfl | decide)) ?_
      refine D.ce rfl rfl rfl rfl (tset_ok (by decide) (by first | rfl | decide) _ _ _) ?_
      refine D.letS (fun J2 => ?_)
      refine D.run 6 rfl ?_
      refine D.ce rfl rfl rfl rfl (tset_ok (by decide) (by first | rfl | decide) _ _ _) ?_
      refine D.run 2 rfl ?_
      refine D.call rfl rfl rfl rfl (fun q h => x70_ok (by decide) h56_2 h) (fun q3 => ?_)
      refine D.run 5 rfl ?_
      refine D.call rfl rfl rfl rfl (fun q h => x67_ok h) (fun q4 => ?_)
      refine D.ce rfl rfl rfl rfl (tset_ok (by decide) (by first | rfl | decide) _ _ _) ?_
      refine D.run 4 rfl ?_
      refine D.st rfl (by decide) (gf_1 h56_2) ?_
      refine D.run 1 rfl ?_
      refine D.ce rfl rfl rfl rfl (tsize_ok (by decide) (by first | rfl | decide)) ?_
      refine D.ce rfl rfl rfl rfl (tset_ok (by decide) (by first | rfl | decide) _ _ _) ?_
      refine D.letS (fun J5 => ?_)
      refine D.run 4 rfl ?_
      refine D.ce rfl rfl rfl rfl (tset_ok (by decide) (by first | rfl | decide) _ _ _) ?_
      refine D.run 4 rfl ?_
      refine D.st rfl (by decide) (gf_1 h56_2) ?_
      refine D.run 1 rfl ?_
      refine D.ce rfl rfl rfl rfl (tsize_ok (by decide) (by first | rfl | decide)) ?_
      refine D.ce rfl rfl rfl rfl (tset_ok (by decide) (by first | rfl | decide) _ _ _) ?_
      refine D.run 4 rfl ?_
      refine D.ce rfl rfl rfl rfl (tset_ok (by decide) (by first | rfl | decide) _ _ _) ?_
      refine D.letS (fun J6 => ?_)
      refine D.run 4 rfl ?_
      refine D.ce rfl rfl rfl rfl (tset_ok (by decide) (by first | rfl | decide) _ _ _) ?_
      refine D.run 2 rfl ?_
      refine D.call rfl rfl rfl rfl (fun q h => x62_ok h) (fun q7 => ?_)
      refine D.run 3 rfl ?_
      exact fun h => by obtain ⟨rfl, rfl⟩ := hT _ (D.some h); exact Rn.ret rfl rfl rfl
    · refine D.run 1 rfl ?_
      refine D.call rfl rfl rfl rfl (fun q h => x58_ok h) (fun q8 => ?_)
      exact fun h => by obtain ⟨rfl, rfl⟩ := hT _ (D.some h); exact Rn.ret rfl rfl rfl
set_option maxRecDepth 20000 in
theorem x69_ok {E : Xe} {R : Nat → Nat → Option Nat} {P : Nat} {I : St} (hP : P = 3 ∨ P = 18) (h56_2 : R 56 2 = some P) {a1 : Int32} {q : St} (h : x69 P I a1 = some q) : Rn E 69 (0, loc0 69 [.ref 56, .int a1], [], wT I R) (.returned none) (wT q R) := x69_D hP h56_2 _ (T := fun r => r = q) (by rintro r rfl; exact ⟨rfl, rfl⟩) ⟨_, h, rfl⟩
/-- TaintHouse$Parser.readTry()V -/
def l73_81 (P : Nat) (b2 : Int32) : Nat → Int32 → St → Option (St)
  | 0, _, _ => none
  | n + 1, b3, I => if 3 < b3 then some I else (x59 I).bind fun q2 => l73_81 P b2 n (b3 + 1) (tset (tset q2.2 (P + 11) b2 b3 q2.1) 54 b2 b3 ((tset q2.2 (P + 11) b2 b3 q2.1) 56 6))
set_option maxRecDepth 20000 in
theorem l73_81_ok {E : Xe} {R : Nat → Nat → Option Nat} {P : Nat} {o : Outcome} {w : Wd} {T : (St) → Prop} {b2 : Int32} (hP : P = 3 ∨ P = 18) (h56_2 : R 56 2 = some P) (K : ∀ (q : St) (e1 : Value) (_ : is1 e1 = true) (e2 : Value) (_ : is1 e2 = true) (e3 : Value) (_ : is1 e3 = true), T q → Rn E 73 (124, [.ref 56, e1, e2, e3], [], wT q R) o w) : ∀ (n : Nat) (b3 : Int32) (d1 : Value) (I : St), is1 d1 = true → Dq (l73_81 P b2 n b3 I) T → Rn E 73 (81, [.ref 56, d1, .int b2, .int b3], [], wT I R) o w := by
  rcases hP with rfl | rfl
  all_goals
    intro n
    induction n with
    | zero => intro b3 d1 I hd1; exact D.none
    | succ n ih =>
      intro b3 d1 I hd1
      rw [l73_81]
      refine D.run 2 rfl ?_
      refine D.br rfl (by decide) rfl (fun hc => ?_) (fun hc => ?_)
      · exact fun h => D.to h (K _ _ (by first | rfl | assumption) _ (by first | rfl | assumption) _ (by first | rfl | assumption))
      · refine D.run 1 rfl ?_
        refine D.st rfl (by decide) (gf_1 h56_2) ?_
        refine D.run 4 rfl ?_
        refine D.call rfl rfl rfl rfl (fun q h => x59_ok h) (fun q2 => ?_)
        refine D.ce rfl rfl rfl rfl (tset_ok (by decide) (by first | rfl | decide) _ _ _) ?_
        refine D.run 7 rfl ?_
        refine D.ce rfl rfl rfl rfl (tset_ok (by decide) (by first | rfl | decide) _ _ _) ?_
        refine D.run 2 rfl ?_
        exact ih _ _ _ (by first | rfl | assumption)
def x73 (P : Nat) (I : St) : Option (St) := if (tget I (P + 7) (x72 P I) 8) < 8 then Lt (up2 (tset I (P + 7) (x72 P I) 8 ((tget I (P + 7) (x72 P I) 8) + 1)) 56 3 (((tset I (P + 7) (x72 P I) 8 ((tget I (P + 7) (x72 P I) 8) + 1)) 56 3) + 1)) fun J1 => (l73_81 P (tadr J1 (P + 11)) 100000 0 (tadd (tadd J1 (P + 11)) 54)).bind fun q3 => (x62 q3 59).bind fun q7 => some q7 else (x58 I).bind fun q8 => some q8
set_option maxRecDepth 20000 in
theorem x73_D {E : Xe} {R : Nat → Nat → Option Nat} {P : Nat} {o : Outcome} {w : Wd} {T : (St) → Prop} {I : St} (hP : P = 3 ∨ P = 18) (h56_2 : R 56 2 = some P) (hT : ∀ r, T r → o = .returned none ∧ w = wT r R) : Dq (x73 P I) T → Rn E 73 (0, loc0 73 [.ref 56], [], wT I R) o w := by
  unfold x73
  rcases hP with rfl | rfl
  all_goals
    refine D.run 1 rfl ?_
    refine D.st rfl (by decide) (gf_1 h56_2) ?_
    refine D.run 2 rfl ?_
    refine D.ce rfl rfl rfl rfl (x72_ok (by decide) h56_2) ?_
    refine D.run 1 rfl ?_
    refine D.ce rfl rfl rfl rfl (tget_ok (by decide) (by first | rfl | decide) _ _) ?_
    refine D.run 3 rfl ?_
    refine D.br rfl (by decide) rfl (fun hc => ?_) (fun hc => ?_)
    · refine D.run 1 rfl ?_
      refine D.st rfl (by decide) (gf_1 h56_2) ?_
      refine D.run 2 rfl ?_
      refine D.ce rfl rfl rfl rfl (x72_ok (by decide) h56_2) ?_
      refine D.run 4 rfl ?_
      refine D.ce rfl rfl rfl rfl (tset_ok (by decide) (by first | rfl | decide) _ _ _) ?_
      refine D.run 6 rfl ?_
      refine D.letS (fun J1 => ?_)
      refine D.run 1 rfl ?_
      refine D.st rfl (by decide) (gf_1 h56_2) ?_
      refine D.run 1 rfl ?_
      refine D.ce rfl rfl rfl rfl (tadd_ok (by decide) (by first | rfl | decide)) ?_
      refine D.run 4 rfl ?_
      refine D.ce rfl rfl rfl rfl (tadd_ok (by decide) (by first | rfl | decide)) ?_
      refine D.run 3 rfl ?_
      refine D.bind (l73_81_ok (by decide) h56_2 (fun q3 e4 he4 e5 he5 e6 he6 => ?_) 100000 _ _ _ (by first | rfl | assumption))
      refine D.run 2 rfl ?_
      refine D.call rfl rfl rfl rfl (fun q h => x62_ok h) (fun q7 => ?_)
      exact fun h => by obtain ⟨rfl, rfl⟩ := hT _ (D.some h); exact Rn.ret rfl rfl rfl
    · refine D.run 1 rfl ?_
      refine D.call rfl rfl rfl rfl (fun q h => x58_ok h) (fun q8 => ?_)
      exact fun h => by obtain ⟨rfl, rfl⟩ := hT _ (D.some h); exact Rn.ret rfl rfl rfl
set_option maxRecDepth 20000 in
theorem x73_ok {E : Xe} {R : Nat → Nat → Option Nat} {P : Nat} {I : St} (hP : P = 3 ∨ P = 18) (h56_2 : R 56 2 = some P) {q : St} (h : x73 P I = some q) : Rn E 73 (0, loc0 73 [.ref 56], [], wT I R) (.returned none) (wT q R) := x73_D hP h56_2 (T := fun r => r = q) (by rintro r rfl; exact ⟨rfl, rfl⟩) ⟨_, h, rfl⟩
/-- TaintHouse$Parser.takeSigned(I)I -/
def x77 (I : St) (a1 : Int32) : Option (Int32 × St) := if (x61 I 45) = 0 then (x78 I a1).bind fun q1 => some (q1.1, q1.2) else if a1 = 2147483647 then if (x56 (up2 I 56 3 ((I 56 3) + 1))) = 5 then some ((-2147483648), (up2 (up2 I 56 3 ((I 56 3) + 1)) 56 3 (((I 56 3) + 1) + 1))) else (x78 (up2 I 56 3 ((I 56 3) + 1)) a1).bind fun q2 => some ((-q2.1), q2.2) else (x78 (up2 I 56 3 ((I 56 3) + 1)) a1).bind fun q3 => some ((-q3.1), q3.2)
set_option maxRecDepth 20000 in
theorem x77_D {E : Xe} {R : Nat → Nat → Option Nat} {o : Outcome} {w : Wd} {T : (Int32 × St) → Prop} {I : St} (a1 : Int32) (hT : ∀ r, T r → o = .returned (some (.int r.1)) ∧ w = wT r.2 R) : Dq (x77 I a1) T → Rn E 77 (0, loc0 77 [.ref 56, .int a1], [], wT I R) o w := by
  unfold x77
  refine D.run 2 rfl ?_
  refine D.ce rfl rfl rfl rfl (x61_ok _) ?_
  refine D.br rfl (by decide) rfl (fun hc => ?_) (fun hc => ?_)
  · refine D.run 2 rfl ?_
    refine D.call rfl rfl rfl rfl (fun q h => x78_ok h) (fun q1 => ?_)
    exact fun h => by obtain ⟨rfl, rfl⟩ := hT _ (D.some h); exact Rn.ret rfl rfl rfl
  · refine D.run 8 rfl ?_
    refine D.br rfl (by decide) rfl (fun hc => ?_) (fun hc => ?_)
    · refine D.run 1 rfl ?_
      refine D.ce rfl rfl rfl rfl (x56_ok) ?_
      refine D.run 1 rfl ?_
      refine D.br rfl (by decide) rfl (fun hc => ?_) (fun hc => ?_)
      · refine D.run 7 rfl ?_
        exact fun h => by obtain ⟨rfl, rfl⟩ := hT _ (D.some h); exact Rn.ret rfl rfl rfl
      · refine D.run 2 rfl ?_
        refine D.call rfl rfl rfl rfl (fun q h => x78_ok h) (fun q2 => ?_)
        refine D.run 1 rfl ?_
        exact fun h => by obtain ⟨rfl, rfl⟩ := hT _ (D.some h); exact Rn.ret rfl rfl rfl
    · refine D.run 2 rfl ?_
      refine D.call rfl rfl rfl rfl (fun q h => x78_ok h) (fun q3 => ?_)
      refine D.run 1 rfl ?_
      exact fun h => by obtain ⟨rfl, rfl⟩ := hT _ (D.some h); exact Rn.ret rfl rfl rfl
set_option maxRecDepth 20000 in
theorem x77_ok {E : Xe} {R : Nat → Nat → Option Nat} {I : St} {a1 : Int32} {q : Int32 × St} (h : x77 I a1 = some q) : Rn E 77 (0, loc0 77 [.ref 56, .int a1], [], wT I R) (.returned (some (.int q.1))) (wT q.2 R) := x77_D  _ (T := fun r => r = q) (by rintro r rfl; exact ⟨rfl, rfl⟩) ⟨_, h, rfl⟩
/-- TaintHouse$Parser.readToldName(II)V -/
def x79 (P : Nat) (I : St) (a1 a2 : Int32) : Option (St) := (x59 I).bind fun q1 => some (tset (tset q1.2 (P + 9) a1 a2 q1.1) 52 a1 a2 ((tset q1.2 (P + 9) a1 a2 q1.1) 56 6))
set_option maxRecDepth 20000 in
theorem x79_D {E : Xe} {R : Nat → Nat → Option Nat} {P : Nat} {o : Outcome} {w : Wd} {T : (St) → Prop} {I : St} (hP : P = 3 ∨ P = 18) (h56_2 : R 56 2 = some P) (a1 a2 : Int32) (hT : ∀ r, T r → o = .returned none ∧ w = wT r R) : Dq (x79 P I a1 a2) T → Rn E 79 (0, loc0 79 [.ref 56, .int a1, .int a2], [], wT I R) o w := by
  unfold x79
  rcases hP with rfl | rfl
  all_goals
    refine D.run 1 rfl ?_
    refine D.st rfl (by decide) (gf_1 h56_2) ?_
    refine D.run 4 rfl ?_
    refine D.call rfl rfl rfl rfl (fun q h => x59_ok h) (fun q1 => ?_)
    refine D.ce rfl rfl rfl rfl (tset_ok (by decide) (by first | rfl | decide) _ _ _) ?_
    refine D.run 7 rfl ?_
    refine D.ce rfl rfl rfl rfl (tset_ok (by decide) (by first | rfl | decide) _ _ _) ?_
    exact fun h => by obtain ⟨rfl, rfl⟩ := hT _ (D.some h); exact Rn.ret rfl rfl rfl
set_option maxRecDepth 20000 in
theorem x79_ok {E : Xe} {R : Nat → Nat → Option Nat} {P : Nat} {I : St} (hP : P = 3 ∨ P = 18) (h56_2 : R 56 2 = some P) {a1 a2 : Int32} {q : St} (h : x79 P I a1 a2 = some q) : Rn E 79 (0, loc0 79 [.ref 56, .int a1, .int a2], [], wT I R) (.returned none) (wT q R) := x79_D hP h56_2 _ _ (T := fun r => r = q) (by rintro r rfl; exact ⟨rfl, rfl⟩) ⟨_, h, rfl⟩
/-- TaintHouse$Parser.readLabel()V -/
def x80 (P : Nat) (I : St) : Option (St) := (x59 I).bind fun q1 => Lt (tset (tset (tadd q1.2 50) 50 (tadr q1.2 50) 0 q1.1) 50 (tadr q1.2 50) 1 ((tset (tadd q1.2 50) 50 (tadr q1.2 50) 0 q1.1) 56 6)) fun J2 => Lt (tget (tset J2 50 (tadr q1.2 50) 2 (tget J2 (P + 7) (x72 P J2) 6)) 48 (x72 P (tset J2 50 (tadr q1.2 50) 2 (tget J2 (P + 7) (x72 P J2) 6))) 3) fun v3 => Lt (tset (tset J2 50 (tadr q1.2 50) 2 (tget J2 (P + 7) (x72 P J2) 6)) 48 (x72 P (tset J2 50 (tadr q1.2 50) 2 (tget J2 (P + 7) (x72 P J2) 6))) 3 (v3 + 1)) fun J4 => (x62 J4 58).bind fun q5 => some q5
set_option maxRecDepth 20000 in
theorem x80_D {E : Xe} {R : Nat → Nat → Option Nat} {P : Nat} {o : Outcome} {w : Wd} {T : (St) → Prop} {I : St} (hP : P = 3 ∨ P = 18) (h56_2 : R 56 2 = some P) (hT : ∀ r, T r → o = .returned none ∧ w = wT r R) : Dq (x80 P I) T → Rn E 80 (0, loc0 80 [.ref 56], [], wT I R) o w := by
  unfold x80
  rcases hP with rfl | rfl
  all_goals
    refine D.run 1 rfl ?_
    refine D.call rfl rfl rfl rfl (fun q h => x59_ok h) (fun q1 => ?_)
    refine D.run 4 rfl ?_
    refine D.ce rfl rfl rfl rfl (tadd_ok (by decide) (by first | rfl | decide)) ?_
    refine D.run 7 rfl ?_
    refine D.ce rfl rfl rfl rfl (tset_ok (by decide) (by first | rfl | decide) _ _ _) ?_
    refine D.run 7 rfl ?_
    refine D.ce rfl rfl rfl rfl (tset_ok (by decide) (by first | rfl | decide) _ _ _) ?_
    refine D.letS (fun J2 => ?_)
    refine D.run 6 rfl ?_
    refine D.st rfl (by decide) (gf_1 h56_2) ?_
    refine D.run 2 rfl ?_
    refine D.ce rfl rfl rfl rfl (x72_ok (by decide) h56_2) ?_
    refine D.run 1 rfl ?_
    refine D.ce rfl rfl rfl rfl (tget_ok (by decide) (by first | rfl | decide) _ _) ?_
    refine D.ce rfl rfl rfl rfl (tset_ok (by decide) (by first | rfl | decide) _ _ _) ?_
    refine D.run 4 rfl ?_
    refine D.ce rfl rfl rfl rfl (x72_ok (by decide) h56_2) ?_
    refine D.run 1 rfl ?_
    refine D.ce rfl rfl rfl rfl (tget_ok (by decide) (by first | rfl | decide) _ _) ?_
    refine D.lett ?_
    refine D.run 5 rfl ?_
    refine D.ce rfl rfl rfl rfl (x72_ok (by decide) h56_2) ?_
    refine D.run 4 rfl ?_
    refine D.ce rfl rfl rfl rfl (tset_ok (by decide) (by first | rfl | decide) _ _ _) ?_
    refine D.letS (fun J4 => ?_)
    refine D.run 2 rfl ?_
    refine D.call rfl rfl rfl rfl (fun q h => x62_ok h) (fun q5 => ?_)
    exact fun h => by obtain ⟨rfl, rfl⟩ := hT _ (D.some h); exact Rn.ret rfl rfl rfl
set_option maxRecDepth 20000 in
theorem x80_ok {E : Xe} {R : Nat → Nat → Option Nat} {P : Nat} {I : St} (hP : P = 3 ∨ P = 18) (h56_2 : R 56 2 = some P) {q : St} (h : x80 P I = some q) : Rn E 80 (0, loc0 80 [.ref 56], [], wT I R) (.returned none) (wT q R) := x80_D hP h56_2 (T := fun r => r = q) (by rintro r rfl; exact ⟨rfl, rfl⟩) ⟨_, h, rfl⟩
/-- TaintHouse$Linker.linkClass(I)V -/
def x82 (P : Nat) (I : St) (a1 : Int32) : Option (St) := (if a1 < 7 then some I else if (tget I 44 a1 1) = (-1) then some I else if (tget I 37 (tget I 44 a1 1) 0) = (-1) then (x83 I (tget I 44 a1 2) 2).bind fun q1 => some q1 else some (tset I (P + 1) a1 0 (tget I 37 (tget I 44 a1 1) 0))).bind fun (q2 : St) => if (tget q2 37 (tget I (P + 1) a1 1) 0) = (-1) then some (tset q2 37 (tget I (P + 1) a1 1) 0 a1) else (x83 q2 (tget q2 44 a1 0) 1).bind fun q4 => some q4
set_option maxRecDepth 20000 in
theorem x82_D {E : Xe} {R : Nat → Nat → Option Nat} {P : Nat} {o : Outcome} {w : Wd} {T : (St) → Prop} {I : St} (hP : P = 3 ∨ P = 18) (h57_2 : R 57 2 = some P) (a1 : Int32) (hT : ∀ r, T r → o = .returned none ∧ w = wT r R) : Dq (x82 P I a1) T → Rn E 82 (0, loc0 82 [.ref 57, .int a1], [], wT I R) o w := by
  unfold x82
  rcases hP with rfl | rfl
  · refine D.run 1 rfl ?_
    refine D.st rfl (by decide) (gf_1 h57_2) ?_
    refine D.run 3 rfl ?_
    refine D.ce rfl rfl rfl rfl (tget_ok (by decide) (by first | rfl | decide) _ _) ?_
    refine D.run 3 rfl ?_
    have Kj94 : ∀ (q2 : St) (e3 : Value), is1 e3 = true → Dq (if (tget q2 37 (tget I (3 + 1) a1 1) 0) = (-1) then some (tset q2 37 (tget I (3 + 1) a1 1) 0 a1) else (x83 q2 (tget q2 44 a1 0) 1).bind fun q4 => some q4) T → Rn E 82 (94, [.ref 57, .int a1, .int (tget I (3 + 1) a1 1), e3], [], wT q2 R) o w := by
      intro q2 e3 he3
      refine D.run 4 rfl ?_
      refine D.ce rfl rfl rfl rfl (tget_ok (by decide) (by first | rfl | decide) _ _) ?_
      refine D.run 1 rfl ?_
      refine D.br rfl (by decide) rfl (fun hc => ?_) (fun hc => ?_)
      · refine D.run 5 rfl ?_
        refine D.ce rfl rfl rfl rfl (tset_ok (by decide) (by first | rfl | decide) _ _ _) ?_
        refine D.run 1 rfl ?_
        exact fun h => by obtain ⟨rfl, rfl⟩ := hT _ (D.some h); exact Rn.ret rfl rfl rfl
      · refine D.run 6 rfl ?_
        refine D.ce rfl rfl rfl rfl (tget_ok (by decide) (by first | rfl | decide) _ _) ?_
        refine D.run 1 rfl ?_
        refine D.call rfl rfl rfl rfl (fun q h => x83_ok h) (fun q4 => ?_)
        exact fun h => by obtain ⟨rfl, rfl⟩ := hT _ (D.some h); exact Rn.ret rfl rfl rfl
    refine D.bind ?_
    refine D.br rfl (by decide) rfl (fun hc => ?_) (fun hc => ?_)
    · exact fun h => D.to h (Kj94 _ _ (by first | rfl | assumption))
    · refine D.run 5 rfl ?_
      refine D.ce rfl rfl rfl rfl (tget_ok (by decide) (by first | rfl | decide) _ _) ?_
      refine D.run 1 rfl ?_
      refine D.br rfl (by decide) rfl (fun hc => ?_) (fun hc => ?_)
      · exact fun h => D.to h (Kj94 _ _ (by first | rfl | assumption))
      · refine D.run 7 rfl ?_
        refine D.ce rfl rfl rfl rfl (tget_ok (by decide) (by first | rfl | decide) _ _) ?_
        refine D.run 1 rfl ?_
        refine D.ce rfl rfl rfl rfl (tget_ok (by decide) (by first | rfl | decide) _ _) ?_
        refine D.run 3 rfl ?_
        refine D.br rfl (by decide) rfl (fun hc => ?_) (fun hc => ?_)
        · refine D.run 6 rfl ?_
          refine D.ce rfl rfl rfl rfl (tget_ok (by decide) (by first | rfl | decide) _ _) ?_
          refine D.run 1 rfl ?_
          refine D.call rfl rfl rfl rfl (fun q h => x83_ok h) (fun q1 => ?_)
          refine D.run 1 rfl ?_
          exact fun h => D.to h (Kj94 _ _ (by first | rfl | assumption))
        · refine D.run 1 rfl ?_
          refine D.st rfl (by decide) (gf_1 h57_2) ?_
          refine D.run 4 rfl ?_
          refine D.ce rfl rfl rfl rfl (tset_ok (by decide) (by first | rfl | decide) _ _ _) ?_
          exact fun h => D.to h (Kj94 _ _ (by first | rfl | assumption))
  · refine D.run 1 rfl ?_
    refine D.st rfl (by decide) (gf_1 h57_2) ?_
    refine D.run 3 rfl ?_
    refine D.ce rfl rfl rfl rfl (tget_ok (by decide) (by first | rfl | decide) _ _) ?_
    refine D.run 3 rfl ?_
    have Kj94 : ∀ (q2 : St) (e3 : Value), is1 e3 = true → Dq (if (tget q2 37 (tget I (18 + 1) a1 1) 0) = (-1) then some (tset q2 37 (tget I (18 + 1) a1 1) 0 a1) else (x83 q2 (tget q2 44 a1 0) 1).bind fun q4 => some q4) T → Rn E 82 (94, [.ref 57, .int a1, .int (tget I (18 + 1) a1 1), e3], [], wT q2 R) o w := by
      intro q2 e3 he3
      refine D.run 4 rfl ?_
      refine D.ce rfl rfl rfl rfl (tget_ok (by decide) (by first | rfl | decide) _ _) ?_
      refine D.run 1 rfl ?_
      refine D.br rfl (by decide) rfl (fun hc => ?_) (fun hc => ?_)
      · refine D.run 5 rfl ?_
        refine D.ce rfl rfl rfl rfl (tset_ok (by decide) (by first | rfl | decide) _ _ _) ?_
        refine D.run 1 rfl ?_
        exact fun h => by obtain ⟨rfl, rfl⟩ := hT _ (D.some h); exact Rn.ret rfl rfl rfl
      · refine D.run 6 rfl ?_
        refine D.ce rfl rfl rfl rfl (tget_ok (by decide) (by first | rfl | decide) _ _) ?_
        refine D.run 1 rfl ?_
        refine D.call rfl rfl rfl rfl (fun q h => x83_ok h) (fun q4 => ?_)
        exact fun h => by obtain ⟨rfl, rfl⟩ := hT _ (D.some h); exact Rn.ret rfl rfl rfl
    refine D.bind ?_
    refine D.br rfl (by decide) rfl (fun hc => ?_) (fun hc => ?_)
    · exact fun h => D.to h (Kj94 _ _ (by first | rfl | assumption))
    · refine D.run 5 rfl ?_
      refine D.ce rfl rfl rfl rfl (tget_ok (by decide) (by first | rfl | decide) _ _) ?_
      refine D.run 1 rfl ?_
      refine D.br rfl (by decide) rfl (fun hc => ?_) (fun hc => ?_)
      · exact fun h => D.to h (Kj94 _ _ (by first | rfl | assumption))
      · refine D.run 7 rfl ?_
        refine D.ce rfl rfl rfl rfl (tget_ok (by decide) (by first | rfl | decide) _ _) ?_
        refine D.run 1 rfl ?_
        refine D.ce rfl rfl rfl rfl (tget_ok (by decide) (by first | rfl | decide) _ _) ?_
        refine D.run 3 rfl ?_
        refine D.br rfl (by decide) rfl (fun hc => ?_) (fun hc => ?_)
        · refine D.run 6 rfl ?_
          refine D.ce rfl rfl rfl rfl (tget_ok (by decide) (by first | rfl | decide) _ _) ?_
          refine D.run 1 rfl ?_
          refine D.call rfl rfl rfl rfl (fun q h => x83_ok h) (fun q1 => ?_)
          refine D.run 1 rfl ?_
          exact fun h => D.to h (Kj94 _ _ (by first | rfl | assumption))
        · refine D.run 1 rfl ?_
          refine D.st rfl (by decide) (gf_1 h57_2) ?_
          refine D.run 4 rfl ?_
          refine D.ce rfl rfl rfl rfl (tset_ok (by decide) (by first | rfl | decide) _ _ _) ?_
          exact fun h => D.to h (Kj94 _ _ (by first | rfl | assumption))
set_option maxRecDepth 20000 in
theorem x82_ok {E : Xe} {R : Nat → Nat → Option Nat} {P : Nat} {I : St} (hP : P = 3 ∨ P = 18) (h57_2 : R 57 2 = some P) {a1 : Int32} {q : St} (h : x82 P I a1 = some q) : Rn E 82 (0, loc0 82 [.ref 57, .int a1], [], wT I R) (.returned none) (wT q R) := x82_D hP h57_2 _ (T := fun r => r = q) (by rintro r rfl; exact ⟨rfl, rfl⟩) ⟨_, h, rfl⟩
/-- TaintHouse$Linker.haveSameKinds(II)Z -/
def l88_61 (P : Nat) (b1 : Int32) (b2 : Int32) (b3 : Int32) : Nat → Int32 → St → Option ((Unit) ⊕ (Int32))
  | 0, _, _ => none
  | n + 1, b4, I => if b3 ≤ b4 then some (.inl ()) else if (x89 P I b1 b4) = (x89 P I b2 b4) then l88_61 P b1 b2 b3 n (b4 + 1) I else some (.inr 0)
set_option maxRecDepth 20000 in
theorem l88_61_ok {E : Xe} {R : Nat → Nat → Option Nat} {P : Nat} {I0 : St} {o : Outcome} {w : Wd} {T : ((Unit) ⊕ (Int32)) → Prop} {b1 : Int32} {b2 : Int32} {b3 : Int32} (hP : P = 3 ∨ P = 18) (h57_2 : R 57 2 = some P) (hT : ∀ r, T (.inr r) → o = .returned (some (.int r)) ∧ w = wT I0 R) (K : ∀ (q : Unit) (e1 : Value) (_ : is1 e1 = true) (e2 : Value) (_ : is1 e2 = true) (e3 : Value) (_ : is1 e3 = true) (e4 : Value) (_ : is1 e4 = true), T (.inl q) → Rn E 88 (98, [.ref 57, e1, e2, e3, e4], [], wT I0 R) o w) : ∀ (n : Nat) (b4 : Int32), Dq (l88_61 P b1 b2 b3 n b4 I0) T → Rn E 88 (61, [.ref 57, .int b1, .int b2, .int b3, .int b4], [], wT I0 R) o w := by
  rcases hP with rfl | rfl
  all_goals
    intro n
    induction n with
    | zero => intro b4; exact D.none
    | succ n ih =>
      intro b4
      rw [l88_61]
      refine D.run 2 rfl ?_
      refine D.br rfl (by decide) rfl (fun hc => ?_) (fun hc => ?_)
      · exact fun h => D.to h (K _ _ (by first | rfl | assumption) _ (by first | rfl | assumption) _ (by first | rfl | assumption) _ (by first | rfl | assumption))
      · refine D.run 1 rfl ?_
        refine D.st rfl (by decide) (gf_1 h57_2) ?_
        refine D.run 2 rfl ?_
        refine D.ce rfl rfl rfl rfl (x89_ok (by decide) _ _) ?_
        refine D.run 1 rfl ?_
        refine D.st rfl (by decide) (gf_1 h57_2) ?_
        refine D.run 2 rfl ?_
        refine D.ce rfl rfl rfl rfl (x89_ok (by decide) _ _) ?_
        refine D.br rfl (by decide) rfl (fun hc => ?_) (fun hc => ?_)
        · refine D.run 2 rfl ?_
          exact ih _  
        · refine D.run 1 rfl ?_
          exact fun h => by obtain ⟨rfl, rfl⟩ := hT _ (D.some h); exact Rn.ret rfl rfl (by first | rfl | (simp [rt1, rt]; done) | decide)
def x88 (P : Nat) (I : St) (a1 a2 : Int32) : Option (Int32) := if (tget I (P + 7) a1 4) = (tget I (P + 7) a2 4) then if (tget I (P + 7) a1 3) = (tget I (P + 7) a2 3) then (l88_61 P a1 a2 (tget I (P + 7) a1 4) 100000 0 I).bind (Sum.elim (fun q1 => some 1) (fun r => some r)) else some 0 else some 0
set_option maxRecDepth 20000 in
theorem x88_D {E : Xe} {R : Nat → Nat → Option Nat} {P : Nat} {o : Outcome} {w : Wd} {T : (Int32) → Prop} {I : St} (hP : P = 3 ∨ P = 18) (h57_2 : R 57 2 = some P) (a1 a2 : Int32) (hT : ∀ r, T r → o = .returned (some (.int r)) ∧ w = wT I R) : Dq (x88 P I a1 a2) T → Rn E 88 (0, loc0 88 [.ref 57, .int a1, .int a2], [], wT I R) o w := by
  unfold x88
  rcases hP with rfl | rfl
  all_goals
    refine D.run 1 rfl ?_
    refine D.st rfl (by decide) (gf_1 h57_2) ?_
    refine D.run 3 rfl ?_
    refine D.ce rfl rfl rfl rfl (tget_ok (by decide) (by first | rfl | decide) _ _) ?_
    refine D.run 3 rfl ?_
    refine D.st rfl (by decide) (gf_1 h57_2) ?_
    refine D.run 3 rfl ?_
    refine D.ce rfl rfl rfl rfl (tget_ok (by decide) (by first | rfl | decide) _ _) ?_
    refine D.br rfl (by decide) rfl (fun hc => ?_) (fun hc => ?_)
    · refine D.run 1 rfl ?_
      refine D.st rfl (by decide) (gf_1 h57_2) ?_
      refine D.run 3 rfl ?_
      refine D.ce rfl rfl rfl rfl (tget_ok (by decide) (by first | rfl | decide) _ _) ?_
      refine D.run 1 rfl ?_
      refine D.st rfl (by decide) (gf_1 h57_2) ?_
      refine D.run 3 rfl ?_
      refine D.ce rfl rfl rfl rfl (tget_ok (by decide) (by first | rfl | decide) _ _) ?_
      refine D.br rfl (by decide) rfl (fun hc => ?_) (fun hc => ?_)
      · refine D.run 2 rfl ?_
        refine D.bind (l88_61_ok (by decide) h57_2 (fun r h => hT _ (D.some h)) (fun q1 e2 he2 e3 he3 e4 he4 e5 he5 => ?_) 100000 _   )
        refine D.inl ?_
        refine D.run 1 rfl ?_
        exact fun h => by obtain ⟨rfl, rfl⟩ := hT _ (D.some h); exact Rn.ret rfl rfl (by first | rfl | (simp [rt1, rt]; done) | decide)
      · refine D.run 1 rfl ?_
        exact fun h => by obtain ⟨rfl, rfl⟩ := hT _ (D.some h); exact Rn.ret rfl rfl (by first | rfl | (simp [rt1, rt]; done) | decide)
    · refine D.run 1 rfl ?_
      exact fun h => by obtain ⟨rfl, rfl⟩ := hT _ (D.some h); exact Rn.ret rfl rfl (by first | rfl | (simp [rt1, rt]; done) | decide)
set_option maxRecDepth 20000 in
theorem x88_ok {E : Xe} {R : Nat → Nat → Option Nat} {P : Nat} {I : St} (hP : P = 3 ∨ P = 18) (h57_2 : R 57 2 = some P) {a1 a2 : Int32} {q : Int32} (h : x88 P I a1 a2 = some q) : Rn E 88 (0, loc0 88 [.ref 57, .int a1, .int a2], [], wT I R) (.returned (some (.int q))) (wT I R) := x88_D hP h57_2 _ _ (T := fun r => r = q) (by rintro r rfl; exact ⟨rfl, rfl⟩) ⟨_, h, rfl⟩
