/-! FUNCTIONS OF METHODS, by program (wip/gen/all.py): 101 112 130 137 147 157 163 205 213 215 -/
/-- TaintHouse$Verifier.comeTo(I)V -/
def x101 (P : Nat) (I : St) (a1 : Int32) : Option (St) := if (I 58 6) = (-1) then if a1 < (I 58 5) then if (tget I 59 a1 0) = 0 then Lt (tset (tset (tset I 59 a1 0 1) 59 a1 2 ((tset I 59 a1 0 1) 58 7)) 59 a1 3 ((tset (tset I 59 a1 0 1) 59 a1 2 ((tset I 59 a1 0 1) 58 7)) 58 8)) fun J1 => Lt (tset J1 (P + 7) (J1 58 3) 9 (if (tget J1 (P + 7) (J1 58 3) 9) < (J1 58 7) then (J1 58 7) else (tget J1 (P + 7) (J1 58 3) 9))) fun J2 => (x102 (tset J2 59 a1 1 1) a1).bind fun q3 => some q3 else if (tget I 59 a1 2) = (I 58 7) then if (tget I 59 a1 3) = (I 58 8) then (x102 I a1).bind fun q4 => some q4 else (x104 I a1).bind fun q5 => some q5 else (x104 I a1).bind fun q6 => some q6 else some (up2 I 58 6 (tget I 48 (I 58 3) 1)) else some I
set_option maxRecDepth 20000 in
theorem x101_D {E : Xe} {R : Nat → Nat → Option Nat} {P : Nat} {o : Outcome} {w : Wd} {T : (St) → Prop} {I : St} (hP : P = 3 ∨ P = 18) (h58_2 : R 58 2 = some P) (a1 : Int32) (hT : ∀ r, T r → o = .returned none ∧ w = wT r R) : Dq (x101 P I a1) T → Rn E 101 (0, loc0 101 [.ref 58, .int a1], [], wT I R) o w := by
  unfold x101
  rcases hP with rfl | rfl
  · refine D.run 3 rfl ?_
    refine D.br rfl (by decide) rfl (fun hc => ?_) (fun hc => ?_)
    · refine D.run 3 rfl ?_
      refine D.br rfl (by decide) rfl (fun hc => ?_) (fun hc => ?_)
      · refine D.run 4 rfl ?_
        refine D.ce rfl rfl rfl rfl (tget_ok (by decide) (by first | rfl | decide) _ _) ?_
        refine D.br rfl (by decide) rfl (fun hc => ?_) (fun hc => ?_)
        · refine D.run 5 rfl ?_
          refine D.ce rfl rfl rfl rfl (tset_ok (by decide) (by first | rfl | decide) _ _ _) ?_
          refine D.run 6 rfl ?_
          refine D.ce rfl rfl rfl rfl (tset_ok (by decide) (by first | rfl | decide) _ _ _) ?_
          refine D.run 6 rfl ?_
          refine D.ce rfl rfl rfl rfl (tset_ok (by decide) (by first | rfl | decide) _ _ _) ?_
          refine D.letS (fun J1 => ?_)
          show _ → Rn E 101 (87, [.ref 58, .int a1, us], [], wT J1 R) o w
          refine D.run 1 rfl ?_
          refine D.st rfl (by decide) (gf_1 h58_2) ?_
          refine D.run 4 rfl ?_
          refine D.ce rfl rfl rfl rfl (tget_ok (by decide) (by first | rfl | decide) _ _) ?_
          refine D.run 2 rfl ?_
          refine D.st rfl (by decide) (gf_1 h58_2) ?_
          show _ → Rn E 101 (108, [.ref 58, .int a1, .int (tget J1 (3 + 7) (J1 58 3) 9)], [.ref 3], wT J1 R) o w
          refine D.run 7 rfl ?_
          refine D.pr rfl rfl rfl rfl ?_
          refine D.ce rfl rfl rfl rfl (tset_ok (by decide) (by first | rfl | decide) _ _ _) ?_
          refine D.letS (fun J2 => ?_)
          refine D.run 5 rfl ?_
          refine D.ce rfl rfl rfl rfl (tset_ok (by decide) (by first | rfl | decide) _ _ _) ?_
          show _ → Rn E 101 (138, [.ref 58, .int a1, .int (tget J1 (3 + 7) (J1 58 3) 9)], [], wT (tset J2 59 a1 1 1) R) o w
          refine D.run 2 rfl ?_
          refine D.call rfl rfl rfl rfl (fun q h => x102_ok h) (fun q3 => ?_)
          refine D.run 1 rfl ?_
          exact fun h => by obtain ⟨rfl, rfl⟩ := hT _ (D.some h); exact Rn.ret rfl rfl rfl
        · refine D.run 4 rfl ?_
          refine D.ce rfl rfl rfl rfl (tget_ok (by decide) (by first | rfl | decide) _ _) ?_
          refine D.run 2 rfl ?_
          refine D.br rfl (by decide) rfl (fun hc => ?_) (fun hc => ?_)
          · refine D.run 4 rfl ?_
            refine D.ce rfl rfl rfl rfl (tget_ok (by decide) (by first | rfl | decide) _ _) ?_
            refine D.run 2 rfl ?_
            refine D.br rfl (by decide) rfl (fun hc => ?_) (fun hc => ?_)
            · refine D.run 2 rfl ?_
              refine D.call rfl rfl rfl rfl (fun q h => x102_ok h) (fun q4 => ?_)
              exact fun h => by obtain ⟨rfl, rfl⟩ := hT _ (D.some h); exact Rn.ret rfl rfl rfl
            · refine D.run 2 rfl ?_
              refine D.call rfl rfl rfl rfl (fun q h => x104_ok h) (fun q5 => ?_)
              refine D.run 1 rfl ?_
              exact fun h => by obtain ⟨rfl, rfl⟩ := hT _ (D.some h); exact Rn.ret rfl rfl rfl
          · refine D.run 2 rfl ?_
            refine D.call rfl rfl rfl rfl (fun q h => x104_ok h) (fun q6 => ?_)
            refine D.run 1 rfl ?_
            exact fun h => by obtain ⟨rfl, rfl⟩ := hT _ (D.some h); exact Rn.ret rfl rfl rfl
      · refine D.run 7 rfl ?_
        refine D.ce rfl rfl rfl rfl (tget_ok (by decide) (by first | rfl | decide) _ _) ?_
        refine D.run 2 rfl ?_
        exact fun h => by obtain ⟨rfl, rfl⟩ := hT _ (D.some h); exact Rn.ret rfl rfl rfl
    · exact fun h => by obtain ⟨rfl, rfl⟩ := hT _ (D.some h); exact Rn.ret rfl rfl rfl
  · refine D.run 3 rfl ?_
    refine D.br rfl (by decide) rfl (fun hc => ?_) (fun hc => ?_)
    · refine D.run 3 rfl ?_
      refine D.br rfl (by decide) rfl (fun hc => ?_) (fun hc => ?_)
      · refine D.run 4 rfl ?_
        refine D.ce rfl rfl rfl rfl (tget_ok (by decide) (by first | rfl | decide) _ _) ?_
        refine D.br rfl (by decide) rfl (fun hc => ?_) (fun hc => ?_)
        · refine D.run 5 rfl ?_
          refine D.ce rfl rfl rfl rfl (tset_ok (by decide) (by first | rfl | decide) _ _ _) ?_
          refine D.run 6 rfl ?_
          refine D.ce rfl rfl rfl rfl (tset_ok (by decide) (by first | rfl | decide) _ _ _) ?_
          refine D.run 6 rfl ?_
          refine D.ce rfl rfl rfl rfl (tset_ok (by decide) (by first | rfl | decide) _ _ _) ?_
          refine D.letS (fun J1 => ?_)
          show _ → Rn E 101 (87, [.ref 58, .int a1, us], [], wT J1 R) o w
          refine D.run 1 rfl ?_
          refine D.st rfl (by decide) (gf_1 h58_2) ?_
          refine D.run 4 rfl ?_
          refine D.ce rfl rfl rfl rfl (tget_ok (by decide) (by first | rfl | decide) _ _) ?_
          refine D.run 2 rfl ?_
          refine D.st rfl (by decide) (gf_1 h58_2) ?_
          show _ → Rn E 101 (108, [.ref 58, .int a1, .int (tget J1 (18 + 7) (J1 58 3) 9)], [.ref 18], wT J1 R) o w
          refine D.run 7 rfl ?_
          refine D.pr rfl rfl rfl rfl ?_
          refine D.ce rfl rfl rfl rfl (tset_ok (by decide) (by first | rfl | decide) _ _ _) ?_
          refine D.letS (fun J2 => ?_)
          refine D.run 5 rfl ?_
          refine D.ce rfl rfl rfl rfl (tset_ok (by decide) (by first | rfl | decide) _ _ _) ?_
          show _ → Rn E 101 (138, [.ref 58, .int a1, .int (tget J1 (18 + 7) (J1 58 3) 9)], [], wT (tset J2 59 a1 1 1) R) o w
          refine D.run 2 rfl ?_
          refine D.call rfl rfl rfl rfl (fun q h => x102_ok h) (fun q3 => ?_)
          refine D.run 1 rfl ?_
          exact fun h => by obtain ⟨rfl, rfl⟩ := hT _ (D.some h); exact Rn.ret rfl rfl rfl
        · refine D.run 4 rfl ?_
          refine D.ce rfl rfl rfl rfl (tget_ok (by decide) (by first | rfl | decide) _ _) ?_
          refine D.run 2 rfl ?_
          refine D.br rfl (by decide) rfl (fun hc => ?_) (fun hc => ?_)
          · refine D.run 4 rfl ?_
            refine D.ce rfl rfl rfl rfl (tget_ok (by decide) (by first | rfl | decide) _ _) ?_
            refine D.run 2 rfl ?_
            refine D.br rfl (by decide) rfl (fun hc => ?_) (fun hc => ?_)
            · refine D.run 2 rfl ?_
              refine D.call rfl rfl rfl rfl (fun q h => x102_ok h) (fun q4 => ?_)
              exact fun h => by obtain ⟨rfl, rfl⟩ := hT _ (D.some h); exact Rn.ret rfl rfl rfl
            · refine D.run 2 rfl ?_
              refine D.call rfl rfl rfl rfl (fun q h => x104_ok h) (fun q5 => ?_)
              refine D.run 1 rfl ?_
              exact fun h => by obtain ⟨rfl, rfl⟩ := hT _ (D.some h); exact Rn.ret rfl rfl rfl
          · refine D.run 2 rfl ?_
            refine D.call rfl rfl rfl rfl (fun q h => x104_ok h) (fun q6 => ?_)
            refine D.run 1 rfl ?_
            exact fun h => by obtain ⟨rfl, rfl⟩ := hT _ (D.some h); exact Rn.ret rfl rfl rfl
      · refine D.run 7 rfl ?_
        refine D.ce rfl rfl rfl rfl (tget_ok (by decide) (by first | rfl | decide) _ _) ?_
        refine D.run 2 rfl ?_
        exact fun h => by obtain ⟨rfl, rfl⟩ := hT _ (D.some h); exact Rn.ret rfl rfl rfl
    · exact fun h => by obtain ⟨rfl, rfl⟩ := hT _ (D.some h); exact Rn.ret rfl rfl rfl
set_option maxRecDepth 20000 in
theorem x101_ok {E : Xe} {R : Nat → Nat → Option Nat} {P : Nat} {I : St} (hP : P = 3 ∨ P = 18) (h58_2 : R 58 2 = some P) {a1 : Int32} {q : St} (h : x101 P I a1 = some q) : Rn E 101 (0, loc0 101 [.ref 58, .int a1], [], wT I R) (.returned none) (wT q R) := x101_D hP h58_2 _ (T := fun r => r = q) (by rintro r rfl; exact ⟨rfl, rfl⟩) ⟨_, h, rfl⟩
/-- TaintHouse$Verifier.applyMember(II)Z -/
def l112_194 (P : Nat) (b1 : Int32) (b2 : Int32) : Nat → Int32 → Int32 → St → Option (Int32 × St)
  | 0, _, _, _ => none
  | n + 1, b3, b4, I => if b4 < 0 then some (b3, I) else (x111 I).bind fun q15 => if q15.1 = (x89 P q15.2 b2 b4) then if b3 = 0 then l112_194 P b1 b2 n 0 (b4 + (-1)) q15.2 else l112_194 P b1 b2 n 1 (b4 + (-1)) q15.2 else l112_194 P b1 b2 n 0 (b4 + (-1)) q15.2
set_option maxRecDepth 20000 in
theorem l112_194_ok {E : Xe} {R : Nat → Nat → Option Nat} {P : Nat} {o : Outcome} {w : Wd} {T : (Int32 × St) → Prop} {b1 : Int32} {b2 : Int32} (hP : P = 3 ∨ P = 18) (h58_2 : R 58 2 = some P) (K : ∀ (q : Int32 × St) (e4 : Value) (_ : is1 e4 = true), T q → Rn E 112 (232, [.ref 58, .int b1, .int b2, .int q.1, e4], [], wT q.2 R) o w) : ∀ (n : Nat) (b3 : Int32) (b4 : Int32) (I : St), Dq (l112_194 P b1 b2 n b3 b4 I) T → Rn E 112 (194, [.ref 58, .int b1, .int b2, .int b3, .int b4], [], wT I R) o w := by
  rcases hP with rfl | rfl
  · intro n
    induction n with
    | zero => intro b3 b4 I; exact D.none
    | succ n ih =>
      intro b3 b4 I
      rw [l112_194]
      refine D.run 1 rfl ?_
      refine D.br rfl (by decide) rfl (fun hc => ?_) (fun hc => ?_)
      · exact fun h => D.to h (K _ _ (by first | rfl | assumption))
      · refine D.run 1 rfl ?_
        refine D.call rfl rfl rfl rfl (fun q h => x111_ok h) (fun q15 => ?_)
        refine D.run 1 rfl ?_
        refine D.st rfl (by decide) (gf_1 h58_2) ?_
        refine D.run 2 rfl ?_
        refine D.ce rfl rfl rfl rfl (x89_ok (by decide) _ _) ?_
        show _ → Rn E 112 (213, [.ref 58, .int b1, .int b2, .int b3, .int b4], [.int (x89 3 q15.2 b2 b4), .int q15.1], wT q15.2 R) o w
        refine D.br rfl (by decide) rfl (fun hc => ?_) (fun hc => ?_)
        · refine D.run 1 rfl ?_
          refine D.br rfl (by decide) rfl (fun hc => ?_) (fun hc => ?_)
          · refine D.run 4 rfl ?_
            exact ih _ _ _ 
          · refine D.run 5 rfl ?_
            exact ih _ _ _ 
        · refine D.run 4 rfl ?_
          exact ih _ _ _ 
  · intro n
    induction n with
    | zero => intro b3 b4 I; exact D.none
    | succ n ih =>
      intro b3 b4 I
      rw [l112_194]
      refine D.run 1 rfl ?_
      refine D.br rfl (by decide) rfl (fun hc => ?_) (fun hc => ?_)
      · exact fun h => D.to h (K _ _ (by first | rfl | assumption))
      · refine D.run 1 rfl ?_
        refine D.call rfl rfl rfl rfl (fun q h => x111_ok h) (fun q15 => ?_)
        refine D.run 1 rfl ?_
        refine D.st rfl (by decide) (gf_1 h58_2) ?_
        refine D.run 2 rfl ?_
        refine D.ce rfl rfl rfl rfl (x89_ok (by decide) _ _) ?_
        show _ → Rn E 112 (213, [.ref 58, .int b1, .int b2, .int b3, .int b4], [.int (x89 18 q15.2 b2 b4), .int q15.1], wT q15.2 R) o w
        refine D.br rfl (by decide) rfl (fun hc => ?_) (fun hc => ?_)
        · refine D.run 1 rfl ?_
          refine D.br rfl (by decide) rfl (fun hc => ?_) (fun hc => ?_)
          · refine D.run 4 rfl ?_
            exact ih _ _ _ 
          · refine D.run 5 rfl ?_
            exact ih _ _ _ 
        · refine D.run 4 rfl ?_
          exact ih _ _ _ 
def x112 (P : Nat) (I : St) (a1 a2 : Int32) : Option (Int32 × St) := if a1 = 38 then (x111 I).bind fun q1 => (if q1.1 = 2 then some 1 else some 0).bind fun (q2 : Int32) => (x110 q1.2 (tget q1.2 (P + 3) a2 3)).bind fun q3 => if q2 = 0 ∨ q2 = 1 then some (q2, q3) else none else if a1 = 39 then (x111 I).bind fun q4 => if q4.1 = (tget q4.2 (P + 3) a2 3) then (x111 q4.2).bind fun q5 => if q5.1 = 2 then some (1, q5.2) else some (0, q5.2) else some (0, q4.2) else if a1 = 40 then (x110 I (tget I (P + 5) a2 3)).bind fun q6 => some (1, q6) else if a1 = 41 then (x111 I).bind fun q7 => if q7.1 = (tget q7.2 (P + 5) a2 3) then some (1, q7.2) else some (0, q7.2) else if a1 = 42 then (x113 I a1).bind fun q8 => if q8.1 = 0 ∨ q8.1 = 1 then some (q8.1, q8.2) else none else if a1 = 43 then (x113 I a1).bind fun q9 => if q9.1 = 0 ∨ q9.1 = 1 then some (q9.1, q9.2) else none else if a1 = 44 then (x113 I a1).bind fun q10 => if q10.1 = 0 ∨ q10.1 = 1 then some (q10.1, q10.2) else none else if a1 = 45 then (x113 I a1).bind fun q11 => if q11.1 = 0 ∨ q11.1 = 1 then some (q11.1, q11.2) else none else if a1 = 46 then (x113 I a1).bind fun q12 => if q12.1 = 0 ∨ q12.1 = 1 then some (q12.1, q12.2) else none else if a1 = 47 then (x113 I a1).bind fun q13 => if q13.1 = 0 ∨ q13.1 = 1 then some (q13.1, q13.2) else none else if a1 = 48 then (x113 I a1).bind fun q14 => if q14.1 = 0 ∨ q14.1 = 1 then some (q14.1, q14.2) else none else if a1 = 49 then (l112_194 P a1 a2 100000 1 ((tget I (P + 7) a2 4) - 1) I).bind fun q16 => (if a1 = 49 then if q16.1 = 0 then some (0, q16.2) else some (1, q16.2) else (x111 q16.2).bind fun q18 => if q18.1 = 2 then if q16.1 = 0 then some (0, q18.2) else some (1, q18.2) else some (0, q18.2)).bind fun (q19 : Int32 × St) => (x110 q19.2 (tget q19.2 (P + 7) a2 3)).bind fun q20 => if q19.1 = 0 ∨ q19.1 = 1 then some (q19.1, q20) else none else if a1 = 50 then (l112_194 P a1 a2 100000 1 ((tget I (P + 7) a2 4) - 1) I).bind fun q21 => (if a1 = 49 then if q21.1 = 0 then some (0, q21.2) else some (1, q21.2) else (x111 q21.2).bind fun q23 => if q23.1 = 2 then if q21.1 = 0 then some (0, q23.2) else some (1, q23.2) else some (0, q23.2)).bind fun (q24 : Int32 × St) => (x110 q24.2 (tget q24.2 (P + 7) a2 3)).bind fun q25 => if q24.1 = 0 ∨ q24.1 = 1 then some (q24.1, q25) else none else (x113 I a1).bind fun q26 => if q26.1 = 0 ∨ q26.1 = 1 then some (q26.1, q26.2) else none
set_option maxRecDepth 20000 in
theorem x112_D {E : Xe} {R : Nat → Nat → Option Nat} {P : Nat} {o : Outcome} {w : Wd} {T : (Int32 × St) → Prop} {I : St} (hP : P = 3 ∨ P = 18) (h58_2 : R 58 2 = some P) (a1 a2 : Int32) (hT : ∀ r, T r → o = .returned (some (.int r.1)) ∧ w = wT r.2 R) : Dq (x112 P I a1 a2) T → Rn E 112 (0, loc0 112 [.ref 58, .int a1, .int a2], [], wT I R) o w := by
  unfold x112
  rcases hP with rfl | rfl
  · refine D.run 1 rfl ?_
    refine D.sw rfl (by decide) rfl ?_
    show _ → Rn E 112 (swT [(38, 68), (39, 100), (40, 133), (41, 151), (42, 274), (43, 274), (44, 274), (45, 274), (46, 274), (47, 274), (48, 274), (49, 176), (50, 176)] 274 _, _, _, _) _ _
    refine D.swc (fun hc => ?_) (fun hc => ?_)
    · refine D.run 1 rfl ?_
      refine D.call rfl rfl rfl rfl (fun q h => x111_ok h) (fun q1 => ?_)
      refine D.run 1 rfl ?_
      have Kj81 : ∀ (q2 : Int32), Dq ((x110 q1.2 (tget q1.2 (3 + 3) a2 3)).bind fun q3 => if q2 = 0 ∨ q2 = 1 then some (q2, q3) else none) T → Rn E 112 (81, [.ref 58, .int a1, .int a2, us, us], [.int q2], wT q1.2 R) o w := by
        intro q2
        refine D.run 3 rfl ?_
        refine D.st rfl (by decide) (gf_1 h58_2) ?_
        refine D.run 3 rfl ?_
        refine D.ce rfl rfl rfl rfl (tget_ok (by decide) (by first | rfl | decide) _ _) ?_
        refine D.call rfl rfl rfl rfl (fun q h => x110_ok h) (fun q3 => ?_)
        show _ → Rn E 112 (98, [.ref 58, .int a1, .int a2, .int q2, us], [], wT q3 R) o w
        refine D.run 1 rfl ?_
        refine D.gd fun hg => ?_
        exact fun h => by obtain ⟨rfl, rfl⟩ := hT _ (D.some h); exact Rn.ret rfl rfl (if_pos hg)
      refine D.jn (fun T81 c81 => ?_)
      refine D.br rfl (by decide) rfl (fun hc => ?_) (fun hc => ?_)
      · refine D.run 2 rfl ?_
        exact fun h => Kj81 _   (c81 _ (D.some h))
      · refine D.run 1 rfl ?_
        exact fun h => Kj81 _   (c81 _ (D.some h))
    · refine D.swc (fun hc => ?_) (fun hc => ?_)
      · refine D.run 1 rfl ?_
        refine D.call rfl rfl rfl rfl (fun q h => x111_ok h) (fun q4 => ?_)
        refine D.run 1 rfl ?_
        refine D.st rfl (by decide) (gf_1 h58_2) ?_
        refine D.run 3 rfl ?_
        refine D.ce rfl rfl rfl rfl (tget_ok (by decide) (by first | rfl | decide) _ _) ?_
        show _ → Rn E 112 (116, [.ref 58, .int a1, .int a2, us, us], [.int (tget q4.2 (3 + 3) a2 3), .int q4.1], wT q4.2 R) o w
        refine D.br rfl (by decide) rfl (fun hc => ?_) (fun hc => ?_)
        · refine D.run 1 rfl ?_
          refine D.call rfl rfl rfl rfl (fun q h => x111_ok h) (fun q5 => ?_)
          refine D.run 1 rfl ?_
          refine D.br rfl (by decide) rfl (fun hc => ?_) (fun hc => ?_)
          · refine D.run 2 rfl ?_
            exact fun h => by obtain ⟨rfl, rfl⟩ := hT _ (D.some h); exact Rn.ret rfl rfl (by first | rfl | (simp [rt1, rt]; done) | decide)
          · refine D.run 1 rfl ?_
            exact fun h => by obtain ⟨rfl, rfl⟩ := hT _ (D.some h); exact Rn.ret rfl rfl (by first | rfl | (simp [rt1, rt]; done) | decide)
        · refine D.run 1 rfl ?_
          exact fun h => by obtain ⟨rfl, rfl⟩ := hT _ (D.some h); exact Rn.ret rfl rfl (by first | rfl | (simp [rt1, rt]; done) | decide)
      · refine D.swc (fun hc => ?_) (fun hc => ?_)
        · refine D.run 2 rfl ?_
          refine D.st rfl (by decide) (gf_1 h58_2) ?_
          refine D.run 3 rfl ?_
          refine D.ce rfl rfl rfl rfl (tget_ok (by decide) (by first | rfl | decide) _ _) ?_
          refine D.call rfl rfl rfl rfl (fun q h => x110_ok h) (fun q6 => ?_)
          show _ → Rn E 112 (149, [.ref 58, .int a1, .int a2, us, us], [], wT q6 R) o w
          refine D.run 1 rfl ?_
          exact fun h => by obtain ⟨rfl, rfl⟩ := hT _ (D.some h); exact Rn.ret rfl rfl (by first | rfl | (simp [rt1, rt]; done) | decide)
        · refine D.swc (fun hc => ?_) (fun hc => ?_)
          · refine D.run 1 rfl ?_
            refine D.call rfl rfl rfl rfl (fun q h => x111_ok h) (fun q7 => ?_)
            refine D.run 1 rfl ?_
            refine D.st rfl (by decide) (gf_1 h58_2) ?_
            refine D.run 3 rfl ?_
            refine D.ce rfl rfl rfl rfl (tget_ok (by decide) (by first | rfl | decide) _ _) ?_
            show _ → Rn E 112 (167, [.ref 58, .int a1, .int a2, us, us], [.int (tget q7.2 (3 + 5) a2 3), .int q7.1], wT q7.2 R) o w
            refine D.br rfl (by decide) rfl (fun hc => ?_) (fun hc => ?_)
            · refine D.run 2 rfl ?_
              exact fun h => by obtain ⟨rfl, rfl⟩ := hT _ (D.some h); exact Rn.ret rfl rfl (by first | rfl | (simp [rt1, rt]; done) | decide)
            · refine D.run 1 rfl ?_
              exact fun h => by obtain ⟨rfl, rfl⟩ := hT _ (D.some h); exact Rn.ret rfl rfl (by first | rfl | (simp [rt1, rt]; done) | decide)
          · refine D.swc (fun hc => ?_) (fun hc => ?_)
            · refine D.run 2 rfl ?_
              refine D.call rfl rfl rfl rfl (fun q h => x113_ok h) (fun q8 => ?_)
              refine D.gd fun hg => ?_
              exact fun h => by obtain ⟨rfl, rfl⟩ := hT _ (D.some h); exact Rn.ret rfl rfl (if_pos hg)
            · refine D.swc (fun hc => ?_) (fun hc => ?_)
              · refine D.run 2 rfl ?_
                refine D.call rfl rfl rfl rfl (fun q h => x113_ok h) (fun q9 => ?_)
                refine D.gd fun hg => ?_
                exact fun h => by obtain ⟨rfl, rfl⟩ := hT _ (D.some h); exact Rn.ret rfl rfl (if_pos hg)
              · refine D.swc (fun hc => ?_) (fun hc => ?_)
                · refine D.run 2 rfl ?_
                  refine D.call rfl rfl rfl rfl (fun q h => x113_ok h) (fun q10 => ?_)
                  refine D.gd fun hg => ?_
                  exact fun h => by obtain ⟨rfl, rfl⟩ := hT _ (D.some h); exact Rn.ret rfl rfl (if_pos hg)
                · refine D.swc (fun hc => ?_) (fun hc => ?_)
                  · refine D.run 2 rfl ?_
                    refine D.call rfl rfl rfl rfl (fun q h => x113_ok h) (fun q11 => ?_)
                    refine D.gd fun hg => ?_
                    exact fun h => by obtain ⟨rfl, rfl⟩ := hT _ (D.some h); exact Rn.ret rfl rfl (if_pos hg)
                  · refine D.swc (fun hc => ?_) (fun hc => ?_)
                    · refine D.run 2 rfl ?_
                      refine D.call rfl rfl rfl rfl (fun q h => x113_ok h) (fun q12 => ?_)
                      refine D.gd fun hg => ?_
                      exact fun h => by obtain ⟨rfl, rfl⟩ := hT _ (D.some h); exact Rn.ret rfl rfl (if_pos hg)
                    · refine D.swc (fun hc => ?_) (fun hc => ?_)
                      · refine D.run 2 rfl ?_
                        refine D.call rfl rfl rfl rfl (fun q h => x113_ok h) (fun q13 => ?_)
                        refine D.gd fun hg => ?_
                        exact fun h => by obtain ⟨rfl, rfl⟩ := hT _ (D.some h); exact Rn.ret rfl rfl (if_pos hg)
                      · refine D.swc (fun hc => ?_) (fun hc => ?_)
                        · refine D.run 2 rfl ?_
                          refine D.call rfl rfl rfl rfl (fun q h => x113_ok h) (fun q14 => ?_)
                          refine D.gd fun hg => ?_
                          exact fun h => by obtain ⟨rfl, rfl⟩ := hT _ (D.some h); exact Rn.ret rfl rfl (if_pos hg)
                        · refine D.swc (fun hc => ?_) (fun hc => ?_)
                          · refine D.run 3 rfl ?_
                            refine D.st rfl (by decide) (gf_1 h58_2) ?_
                            refine D.run 3 rfl ?_
                            refine D.ce rfl rfl rfl rfl (tget_ok (by decide) (by first | rfl | decide) _ _) ?_
                            refine D.run 3 rfl ?_
                            refine D.bind (l112_194_ok (by decide) h58_2 (fun q16 e17 he17 => ?_) 100000 _ _  _ )
                            refine D.run 2 rfl ?_
                            have Kj255 : ∀ (q19 : Int32 × St), Dq ((x110 q19.2 (tget q19.2 (3 + 7) a2 3)).bind fun q20 => if q19.1 = 0 ∨ q19.1 = 1 then some (q19.1, q20) else none) T → Rn E 112 (255, [.ref 58, .int a1, .int a2, .int q16.1, e17], [.int q19.1], wT q19.2 R) o w := by
                              intro q19
                              refine D.run 3 rfl ?_
                              refine D.st rfl (by decide) (gf_1 h58_2) ?_
                              refine D.run 3 rfl ?_
                              refine D.ce rfl rfl rfl rfl (tget_ok (by decide) (by first | rfl | decide) _ _) ?_
                              refine D.call rfl rfl rfl rfl (fun q h => x110_ok h) (fun q20 => ?_)
                              show _ → Rn E 112 (272, [.ref 58, .int a1, .int a2, .int q19.1, e17], [], wT q20 R) o w
                              refine D.run 1 rfl ?_
                              refine D.gd fun hg => ?_
                              exact fun h => by obtain ⟨rfl, rfl⟩ := hT _ (D.some h); exact Rn.ret rfl rfl (if_pos hg)
                            refine D.jn (fun T255 c255 => ?_)
                            refine D.br rfl (by decide) rfl (fun hc => ?_) (fun hc => ?_)
                            · refine D.run 1 rfl ?_
                              refine D.br rfl (by decide) rfl (fun hc => ?_) (fun hc => ?_)
                              · refine D.run 1 rfl ?_
                                exact fun h => Kj255 _   (c255 _ (D.some h))
                              · refine D.run 2 rfl ?_
                                exact fun h => Kj255 _   (c255 _ (D.some h))
                            · refine D.run 1 rfl ?_
                              refine D.call rfl rfl rfl rfl (fun q h => x111_ok h) (fun q18 => ?_)
                              refine D.run 1 rfl ?_
                              refine D.br rfl (by decide) rfl (fun hc => ?_) (fun hc => ?_)
                              · refine D.run 1 rfl ?_
                                refine D.br rfl (by decide) rfl (fun hc => ?_) (fun hc => ?_)
                                · refine D.run 1 rfl ?_
                                  exact fun h => Kj255 _   (c255 _ (D.some h))
                                · refine D.run 2 rfl ?_
                                  exact fun h => Kj255 _   (c255 _ (D.some h))
                              · refine D.run 1 rfl ?_
                                exact fun h => Kj255 _   (c255 _ (D.some h))
                          · refine D.swc (fun hc => ?_) (fun hc => ?_)
                            · refine D.run 3 rfl ?_
                              refine D.st rfl (by decide) (gf_1 h58_2) ?_
                              refine D.run 3 rfl ?_
                              refine D.ce rfl rfl rfl rfl (tget_ok (by decide) (by first | rfl | decide) _ _) ?_
                              refine D.run 3 rfl ?_
                              refine D.bind (l112_194_ok (by decide) h58_2 (fun q21 e22 he22 => ?_) 100000 _ _  _ )
                              refine D.run 2 rfl ?_
                              have Kj255 : ∀ (q24 : Int32 × St), Dq ((x110 q24.2 (tget q24.2 (3 + 7) a2 3)).bind fun q25 => if q24.1 = 0 ∨ q24.1 = 1 then some (q24.1, q25) else none) T → Rn E 112 (255, [.ref 58, .int a1, .int a2, .int q21.1, e22], [.int q24.1], wT q24.2 R) o w := by
                                intro q24
                                refine D.run 3 rfl ?_
                                refine D.st rfl (by decide) (gf_1 h58_2) ?_
                                refine D.run 3 rfl ?_
                                refine D.ce rfl rfl rfl rfl (tget_ok (by decide) (by first | rfl | decide) _ _) ?_
                                refine D.call rfl rfl rfl rfl (fun q h => x110_ok h) (fun q25 => ?_)
                                show _ → Rn E 112 (272, [.ref 58, .int a1, .int a2, .int q24.1, e22], [], wT q25 R) o w
                                refine D.run 1 rfl ?_
                                refine D.gd fun hg => ?_
                                exact fun h => by obtain ⟨rfl, rfl⟩ := hT _ (D.some h); exact Rn.ret rfl rfl (if_pos hg)
                              refine D.jn (fun T255 c255 => ?_)
                              refine D.br rfl (by decide) rfl (fun hc => ?_) (fun hc => ?_)
                              · refine D.run 1 rfl ?_
                                refine D.br rfl (by decide) rfl (fun hc => ?_) (fun hc => ?_)
                                · refine D.run 1 rfl ?_
                                  exact fun h => Kj255 _   (c255 _ (D.some h))
                                · refine D.run 2 rfl ?_
                                  exact fun h => Kj255 _   (c255 _ (D.some h))
                              · refine D.run 1 rfl ?_
                                refine D.call rfl rfl rfl rfl (fun q h => x111_ok h) (fun q23 => ?_)
                                refine D.run 1 rfl ?_
                                refine D.br rfl (by decide) rfl (fun hc => ?_) (fun hc => ?_)
                                · refine D.run 1 rfl ?_
                                  refine D.br rfl (by decide) rfl (fun hc => ?_) (fun hc => ?_)
                                  · refine D.run 1 rfl ?_
                                    exact fun h => Kj255 _   (c255 _ (D.some h))
                                  · refine D.run 2 rfl ?_
                                    exact fun h => Kj255 _   (c255 _ (D.some h))
                                · refine D.run 1 rfl ?_
                                  exact fun h => Kj255 _   (c255 _ (D.some h))
                            · refine D.run 2 rfl ?_
                              refine D.call rfl rfl rfl rfl (fun q h => x113_ok h) (fun q26 => ?_)
                              refine D.gd fun hg => ?_
                              exact fun h => by obtain ⟨rfl, rfl⟩ := hT _ (D.some h); exact Rn.ret rfl rfl (if_pos hg)
  · refine D.run 1 rfl ?_
    refine D.sw rfl (by decide) rfl ?_
    show _ → Rn E 112 (swT [(38, 68), (39, 100), (40, 133), (41, 151), (42, 274), (43, 274), (44, 274), (45, 274), (46, 274), (47, 274), (48, 274), (49, 176), (50, 176)] 274 _, _, _, _) _ _
    refine D.swc (fun hc => ?_) (fun hc => ?_)
    · refine D.run 1 rfl ?_
      refine D.call rfl rfl rfl rfl (fun q h => x111_ok h) (fun q1 => ?_)
      refine D.run 1 rfl ?_
      have Kj81 : ∀ (q2 : Int32), Dq ((x110 q1.2 (tget q1.2 (18 + 3) a2 3)).bind fun q3 => if q2 = 0 ∨ q2 = 1 then some (q2, q3) else none) T → Rn E 112 (81, [.ref 58, .int a1, .int a2, us, us], [.int q2], wT q1.2 R) o w := by
        intro q2
        refine D.run 3 rfl ?_
        refine D.st rfl (by decide) (gf_1 h58_2) ?_
        refine D.run 3 rfl ?_
        refine D.ce rfl rfl rfl rfl (tget_ok (by decide) (by first | rfl | decide) _ _) ?_
        refine D.call rfl rfl rfl rfl (fun q h => x110_ok h) (fun q3 => ?_)
        show _ → Rn E 112 (98, [.ref 58, .int a1, .int a2, .int q2, us], [], wT q3 R) o w
        refine D.run 1 rfl ?_
        refine D.gd fun hg => ?_
        exact fun h => by obtain ⟨rfl, rfl⟩ := hT _ (D.some h); exact Rn.ret rfl rfl (if_pos hg)
      refine D.jn (fun T81 c81 => ?_)
      refine D.br rfl (by decide) rfl (fun hc => ?_) (fun hc => ?_)
      · refine D.run 2 rfl ?_
        exact fun h => Kj81 _   (c81 _ (D.some h))
      · refine D.run 1 rfl ?_
        exact fun h => Kj81 _   (c81 _ (D.some h))
    · refine D.swc (fun hc => ?_) (fun hc => ?_)
      · refine D.run 1 rfl ?_
        refine D.call rfl rfl rfl rfl (fun q h => x111_ok h) (fun q4 => ?_)
        refine D.run 1 rfl ?_
        refine D.st rfl (by decide) (gf_1 h58_2) ?_
        refine D.run 3 rfl ?_
        refine D.ce rfl rfl rfl rfl (tget_ok (by decide) (by first | rfl | decide) _ _) ?_
        show _ → Rn E 112 (116, [.ref 58, .int a1, .int a2, us, us], [.int (tget q4.2 (18 + 3) a2 3), .int q4.1], wT q4.2 R) o w
        refine D.br rfl (by decide) rfl (fun hc => ?_) (fun hc => ?_)
        · refine D.run 1 rfl ?_
          refine D.call rfl rfl rfl rfl (fun q h => x111_ok h) (fun q5 => ?_)
          refine D.run 1 rfl ?_
          refine D.br rfl (by decide) rfl (fun hc => ?_) (fun hc => ?_)
          · refine D.run 2 rfl ?_
            exact fun h => by obtain ⟨rfl, rfl⟩ := hT _ (D.some h); exact Rn.ret rfl rfl (by first | rfl | (simp [rt1, rt]; done) | decide)
          · refine D.run 1 rfl ?_
            exact fun h => by obtain ⟨rfl, rfl⟩ := hT _ (D.some h); exact Rn.ret rfl rfl (by first | rfl | (simp [rt1, rt]; done) | decide)
        · refine D.run 1 rfl ?_
          exact fun h => by obtain ⟨rfl, rfl⟩ := hT _ (D.some h); exact Rn.ret rfl rfl (by first | rfl | (simp [rt1, rt]; done) | decide)
      · refine D.swc (fun hc => ?_) (fun hc => ?_)
        · refine D.run 2 rfl ?_
          refine D.st rfl (by decide) (gf_1 h58_2) ?_
          refine D.run 3 rfl ?_
          refine D.ce rfl rfl rfl rfl (tget_ok (by decide) (by first | rfl | decide) _ _) ?_
          refine D.call rfl rfl rfl rfl (fun q h => x110_ok h) (fun q6 => ?_)
          show _ → Rn E 112 (149, [.ref 58, .int a1, .int a2, us, us], [], wT q6 R) o w
          refine D.run 1 rfl ?_
          exact fun h => by obtain ⟨rfl, rfl⟩ := hT _ (D.some h); exact Rn.ret rfl rfl (by first | rfl | (simp [rt1, rt]; done) | decide)
        · refine D.swc (fun hc => ?_) (fun hc => ?_)
          · refine D.run 1 rfl ?_
            refine D.call rfl rfl rfl rfl (fun q h => x111_ok h) (fun q7 => ?_)
            refine D.run 1 rfl ?_
            refine D.st rfl (by decide) (gf_1 h58_2) ?_
            refine D.run 3 rfl ?_
            refine D.ce rfl rfl rfl rfl (tget_ok (by decide) (by first | rfl | decide) _ _) ?_
            show _ → Rn E 112 (167, [.ref 58, .int a1, .int a2, us, us], [.int (tget q7.2 (18 + 5) a2 3), .int q7.1], wT q7.2 R) o w
            refine D.br rfl (by decide) rfl (fun hc => ?_) (fun hc => ?_)
            · refine D.run 2 rfl ?_
              exact fun h => by obtain ⟨rfl, rfl⟩ := hT _ (D.some h); exact Rn.ret rfl rfl (by first | rfl | (simp [rt1, rt]; done) | decide)
            · refine D.run 1 rfl ?_
              exact fun h => by obtain ⟨rfl, rfl⟩ := hT _ (D.some h); exact Rn.ret rfl rfl (by first | rfl | (simp [rt1, rt]; done) | decide)
          · refine D.swc (fun hc => ?_) (fun hc => ?_)
            · refine D.run 2 rfl ?_
              refine D.call rfl rfl rfl rfl (fun q h => x113_ok h) (fun q8 => ?_)
              refine D.gd fun hg => ?_
              exact fun h => by obtain ⟨rfl, rfl⟩ := hT _ (D.some h); exact Rn.ret rfl rfl (if_pos hg)
            · refine D.swc (fun hc => ?_) (fun hc => ?_)
              · refine D.run 2 rfl ?_
                refine D.call rfl rfl rfl rfl (fun q h => x113_ok h) (fun q9 => ?_)
                refine D.gd fun hg => ?_
                exact fun h => by obtain ⟨rfl, rfl⟩ := hT _ (D.some h); exact Rn.ret rfl rfl (if_pos hg)
              · refine D.swc (fun hc => ?_) (fun hc => ?_)
                · refine D.run 2 rfl ?_
                  refine D.call rfl rfl rfl rfl (fun q h => x113_ok h) (fun q10 => ?_)
                  refine D.gd fun hg => ?_
                  exact fun h => by obtain ⟨rfl, rfl⟩ := hT _ (D.some h); exact Rn.ret rfl rfl (if_pos hg)
                · refine D.swc (fun hc => ?_) (fun hc => ?_)
                  · refine D.run 2 rfl ?_
                    refine D.call rfl rfl rfl rfl (fun q h => x113_ok h) (fun q11 => ?_)
                    refine D.gd fun hg => ?_
                    exact fun h => by obtain ⟨rfl, rfl⟩ := hT _ (D.some h); exact Rn.ret rfl rfl (if_pos hg)
                  · refine D.swc (fun hc => ?_) (fun hc => ?_)
                    · refine D.run 2 rfl ?_
                      refine D.call rfl rfl rfl rfl (fun q h => x113_ok h) (fun q12 => ?_)
                      refine D.gd fun hg => ?_
                      exact fun h => by obtain ⟨rfl, rfl⟩ := hT _ (D.some h); exact Rn.ret rfl rfl (if_pos hg)
                    · refine D.swc (fun hc => ?_) (fun hc => ?_)
                      · refine D.run 2 rfl ?_
                        refine D.call rfl rfl rfl rfl (fun q h => x113_ok h) (fun q13 => ?_)
                        refine D.gd fun hg => ?_
                        exact fun h => by obtain ⟨rfl, rfl⟩ := hT _ (D.some h); exact Rn.ret rfl rfl (if_pos hg)
                      · refine D.swc (fun hc => ?_) (fun hc => ?_)
                        · refine D.run 2 rfl ?_
                          refine D.call rfl rfl rfl rfl (fun q h => x113_ok h) (fun q14 => ?_)
                          refine D.gd fun hg => ?_
                          exact fun h => by obtain ⟨rfl, rfl⟩ := hT _ (D.some h); exact Rn.ret rfl rfl (if_pos hg)
                        · refine D.swc (fun hc => ?_) (fun hc => ?_)
                          · refine D.run 3 rfl ?_
                            refine D.st rfl (by decide) (gf_1 h58_2) ?_
                            refine D.run 3 rfl ?_
                            refine D.ce rfl rfl rfl rfl (tget_ok (by decide) (by first | rfl | decide) _ _) ?_
                            refine D.run 3 rfl ?_
                            refine D.bind (l112_194_ok (by decide) h58_2 (fun q16 e17 he17 => ?_) 100000 _ _  _ )
                            refine D.run 2 rfl ?_
                            have Kj255 : ∀ (q19 : Int32 × St), Dq ((x110 q19.2 (tget q19.2 (18 + 7) a2 3)).bind fun q20 => if q19.1 = 0 ∨ q19.1 = 1 then some (q19.1, q20) else none) T → Rn E 112 (255, [.ref 58, .int a1, .int a2, .int q16.1, e17], [.int q19.1], wT q19.2 R) o w := by
                              intro q19
                              refine D.run 3 rfl ?_
                              refine D.st rfl (by decide) (gf_1 h58_2) ?_
                              refine D.run 3 rfl ?_
                              refine D.ce rfl rfl rfl rfl (tget_ok (by decide) (by first | rfl | decide) _ _) ?_
                              refine D.call rfl rfl rfl rfl (fun q h => x110_ok h) (fun q20 => ?_)
                              show _ → Rn E 112 (272, [.ref 58, .int a1, .int a2, .int q19.1, e17], [], wT q20 R) o w
                              refine D.run 1 rfl ?_
                              refine D.gd fun hg => ?_
                              exact fun h => by obtain ⟨rfl, rfl⟩ := hT _ (D.some h); exact Rn.ret rfl rfl (if_pos hg)
                            refine D.jn (fun T255 c255 => ?_)
                            refine D.br rfl (by decide) rfl (fun hc => ?_) (fun hc => ?_)
                            · refine D.run 1 rfl ?_
                              refine D.br rfl (by decide) rfl (fun hc => ?_) (fun hc => ?_)
                              · refine D.run 1 rfl ?_
                                exact fun h => Kj255 _   (c255 _ (D.some h))
                              · refine D.run 2 rfl ?_
                                exact fun h => Kj255 _   (c255 _ (D.some h))
                            · refine D.run 1 rfl ?_
                              refine D.call rfl rfl rfl rfl (fun q h => x111_ok h) (fun q18 => ?_)
                              refine D.run 1 rfl ?_
                              refine D.br rfl (by decide) rfl (fun hc => ?_) (fun hc => ?_)
                              · refine D.run 1 rfl ?_
                                refine D.br rfl (by decide) rfl (fun hc => ?_) (fun hc => ?_)
                                · refine D.run 1 rfl ?_
                                  exact fun h => Kj255 _   (c255 _ (D.some h))
                                · refine D.run 2 rfl ?_
                                  exact fun h => Kj255 _   (c255 _ (D.some h))
                              · refine D.run 1 rfl ?_
                                exact fun h => Kj255 _   (c255 _ (D.some h))
                          · refine D.swc (fun hc => ?_) (fun hc => ?_)
                            · refine D.run 3 rfl ?_
                              refine D.st rfl (by decide) (gf_1 h58_2) ?_
                              refine D.run 3 rfl ?_
                              refine D.ce rfl rfl rfl rfl (tget_ok (by decide) (by first | rfl | decide) _ _) ?_
                              refine D.run 3 rfl ?_
                              refine D.bind (l112_194_ok (by decide) h58_2 (fun q21 e22 he22 => ?_) 100000 _ _  _ )
                              refine D.run 2 rfl ?_
                              have Kj255 : ∀ (q24 : Int32 × St), Dq ((x110 q24.2 (tget q24.2 (18 + 7) a2 3)).bind fun q25 => if q24.1 = 0 ∨ q24.1 = 1 then some (q24.1, q25) else none) T → Rn E 112 (255, [.ref 58, .int a1, .int a2, .int q21.1, e22], [.int q24.1], wT q24.2 R) o w := by
                                intro q24
                                refine D.run 3 rfl ?_
                                refine D.st rfl (by decide) (gf_1 h58_2) ?_
                                refine D.run 3 rfl ?_
                                refine D.ce rfl rfl rfl rfl (tget_ok (by decide) (by first | rfl | decide) _ _) ?_
                                refine D.call rfl rfl rfl rfl (fun q h => x110_ok h) (fun q25 => ?_)
                                show _ → Rn E 112 (272, [.ref 58, .int a1, .int a2, .int q24.1, e22], [], wT q25 R) o w
                                refine D.run 1 rfl ?_
                                refine D.gd fun hg => ?_
                                exact fun h => by obtain ⟨rfl, rfl⟩ := hT _ (D.some h); exact Rn.ret rfl rfl (if_pos hg)
                              refine D.jn (fun T255 c255 => ?_)
                              refine D.br rfl (by decide) rfl (fun hc => ?_) (fun hc => ?_)
                              · refine D.run 1 rfl ?_
                                refine D.br rfl (by decide) rfl (fun hc => ?_) (fun hc => ?_)
                                · refine D.run 1 rfl ?_
                                  exact fun h => Kj255 _   (c255 _ (D.some h))
                                · refine D.run 2 rfl ?_
                                  exact fun h => Kj255 _   (c255 _ (D.some h))
                              · refine D.run 1 rfl ?_
                                refine D.call rfl rfl rfl rfl (fun q h => x111_ok h) (fun q23 => ?_)
                                refine D.run 1 rfl ?_
                                refine D.br rfl (by decide) rfl (fun hc => ?_) (fun hc => ?_)
                                · refine D.run 1 rfl ?_
                                  refine D.br rfl (by decide) rfl (fun hc => ?_) (fun hc => ?_)
                                  · refine D.run 1 rfl ?_
                                    exact fun h => Kj255 _   (c255 _ (D.some h))
                                  · refine D.run 2 rfl ?_
                                    exact fun h => Kj255 _   (c255 _ (D.some h))
                                · refine D.run 1 rfl ?_
                                  exact fun h => Kj255 _   (c255 _ (D.some h))
                            · refine D.run 2 rfl ?_
                              refine D.call rfl rfl rfl rfl (fun q h => x113_ok h) (fun q26 => ?_)
                              refine D.gd fun hg => ?_
                              exact fun h => by obtain ⟨rfl, rfl⟩ := hT _ (D.some h); exact Rn.ret rfl rfl (if_pos hg)
set_option maxRecDepth 20000 in
theorem x112_ok {E : Xe} {R : Nat → Nat → Option Nat} {P : Nat} {I : St} (hP : P = 3 ∨ P = 18) (h58_2 : R 58 2 = some P) {a1 a2 : Int32} {q : Int32 × St} (h : x112 P I a1 a2 = some q) : Rn E 112 (0, loc0 112 [.ref 58, .int a1, .int a2], [], wT I R) (.returned (some (.int q.1))) (wT q.2 R) := x112_D hP h58_2 _ _ (T := fun r => r = q) (by rintro r rfl; exact ⟨rfl, rfl⟩) ⟨_, h, rfl⟩
/-- TaintHouse$Machine.doStack(III)V -/
def x130 (I : St) (a1 a2 a3 : Int32) : Option (St) := if a1 = 0 then (x131 I a2 0).bind fun q1 => some q1 else if a1 = 1 then (x131 I (-1) 0).bind fun q2 => some q2 else if a1 = 2 then (x131 I (tget I 80 (x128 I a2) 0) (tget I 80 (x128 I a2) 1)).bind fun q3 => some q3 else if a1 = 3 then (x135 (tset2 I 80 (x128 I a2) (x133 I 0) (x134 I 0)) 1).bind fun q4 => some q4 else if a1 = 4 then some (tset I 80 (x128 I a2) 0 ((tget I 80 (x128 I a2) 0) + a3)) else if a1 = 5 then (x131 I (x133 I 0) (x134 I 0)).bind fun q5 => some q5 else if a1 = 6 then (x135 I 1).bind fun q6 => some q6 else if a1 = 7 then (x136 I 2 (x133 I 0) (x134 I 0)).bind fun q7 => (x131 q7 (x133 I 1) (x134 I 1)).bind fun q8 => some q8 else some I
set_option maxRecDepth 20000 in
theorem x130_D {E : Xe} {R : Nat → Nat → Option Nat} {o : Outcome} {w : Wd} {T : (St) → Prop} {I : St} (a1 a2 a3 : Int32) (hT : ∀ r, T r → o = .returned none ∧ w = wT r R) : Dq (x130 I a1 a2 a3) T → Rn E 130 (0, loc0 130 [.ref 68, .int a1, .int a2, .int a3], [], wT I R) o w := by
  unfold x130
  refine D.run 1 rfl ?_
  refine D.sw rfl (by decide) rfl ?_
  show _ → Rn E 130 (swT [(0, 48), (1, 57), (2, 66), (3, 99), (4, 129), (5, 160), (6, 177), (7, 185)] 225 _, _, _, _) _ _
  refine D.swc (fun hc => ?_) (fun hc => ?_)
  · refine D.run 3 rfl ?_
    refine D.call rfl rfl rfl rfl (fun q h => x131_ok h) (fun q1 => ?_)
    refine D.run 1 rfl ?_
    exact fun h => by obtain ⟨rfl, rfl⟩ := hT _ (D.some h); exact Rn.ret rfl rfl rfl
  · refine D.swc (fun hc => ?_) (fun hc => ?_)
    · refine D.run 3 rfl ?_
      refine D.call rfl rfl rfl rfl (fun q h => x131_ok h) (fun q2 => ?_)
      refine D.run 1 rfl ?_
      exact fun h => by obtain ⟨rfl, rfl⟩ := hT _ (D.some h); exact Rn.ret rfl rfl rfl
    · refine D.swc (fun hc => ?_) (fun hc => ?_)
      · refine D.run 5 rfl ?_
        refine D.ce rfl rfl rfl rfl (x128_ok _) ?_
        refine D.run 1 rfl ?_
        refine D.ce rfl rfl rfl rfl (tget_ok (by decide) (by first | rfl | decide) _ _) ?_
        refine D.run 4 rfl ?_
        refine D.ce rfl rfl rfl rfl (x128_ok _) ?_
        show _ → Rn E 130 (89, [.ref 68, .int a1, .int a2, .int a3, us, us], [.int (x128 I a2), .ref 80, .int (tget I 80 (x128 I a2) 0), .ref 68], wT I R) o w
        refine D.run 1 rfl ?_
        refine D.ce rfl rfl rfl rfl (tget_ok (by decide) (by first | rfl | decide) _ _) ?_
        refine D.call rfl rfl rfl rfl (fun q h => x131_ok h) (fun q3 => ?_)
        refine D.run 1 rfl ?_
        exact fun h => by obtain ⟨rfl, rfl⟩ := hT _ (D.some h); exact Rn.ret rfl rfl rfl
      · refine D.swc (fun hc => ?_) (fun hc => ?_)
        · refine D.run 4 rfl ?_
          refine D.ce rfl rfl rfl rfl (x128_ok _) ?_
          refine D.run 2 rfl ?_
          refine D.ce rfl rfl rfl rfl (x133_ok _) ?_
          refine D.run 2 rfl ?_
          refine D.ce rfl rfl rfl rfl (x134_ok _) ?_
          show _ → Rn E 130 (118, [.ref 68, .int a1, .int a2, .int a3, us, us], [.int (x134 I 0), .int (x133 I 0), .int (x128 I a2), .ref 80], wT I R) o w
          refine D.ce rfl rfl rfl rfl (tsetP_ok (by decide) (by first | rfl | decide) (by decide) _ _ _) ?_
          refine D.run 2 rfl ?_
          refine D.call rfl rfl rfl rfl (fun q h => x135_ok h) (fun q4 => ?_)
          refine D.run 1 rfl ?_
          exact fun h => by obtain ⟨rfl, rfl⟩ := hT _ (D.some h); exact Rn.ret rfl rfl rfl
        · refine D.swc (fun hc => ?_) (fun hc => ?_)
          · refine D.run 4 rfl ?_
            refine D.ce rfl rfl rfl rfl (x128_ok _) ?_
            refine D.run 5 rfl ?_
            refine D.ce rfl rfl rfl rfl (x128_ok _) ?_
            refine D.run 1 rfl ?_
            refine D.ce rfl rfl rfl rfl (tget_ok (by decide) (by first | rfl | decide) _ _) ?_
            show _ → Rn E 130 (152, [.ref 68, .int a1, .int a2, .int a3, us, us], [.int (tget I 80 (x128 I a2) 0), .int 0, .int (x128 I a2), .ref 80], wT I R) o w
            refine D.run 2 rfl ?_
            refine D.ce rfl rfl rfl rfl (tset_ok (by decide) (by first | rfl | decide) _ _ _) ?_
            refine D.run 1 rfl ?_
            exact fun h => by obtain ⟨rfl, rfl⟩ := hT _ (D.some h); exact Rn.ret rfl rfl rfl
          · refine D.swc (fun hc => ?_) (fun hc => ?_)
            · refine D.run 3 rfl ?_
              refine D.ce rfl rfl rfl rfl (x133_ok _) ?_
              refine D.run 2 rfl ?_
              refine D.ce rfl rfl rfl rfl (x134_ok _) ?_
              refine D.call rfl rfl rfl rfl (fun q h => x131_ok h) (fun q5 => ?_)
              show _ → Rn E 130 (174, [.ref 68, .int a1, .int a2, .int a3, us, us], [], wT q5 R) o w
              refine D.run 1 rfl ?_
              exact fun h => by obtain ⟨rfl, rfl⟩ := hT _ (D.some h); exact Rn.ret rfl rfl rfl
            · refine D.swc (fun hc => ?_) (fun hc => ?_)
              · refine D.run 2 rfl ?_
                refine D.call rfl rfl rfl rfl (fun q h => x135_ok h) (fun q6 => ?_)
                refine D.run 1 rfl ?_
                exact fun h => by obtain ⟨rfl, rfl⟩ := hT _ (D.some h); exact Rn.ret rfl rfl rfl
              · refine D.swc (fun hc => ?_) (fun hc => ?_)
                · refine D.run 2 rfl ?_
                  refine D.ce rfl rfl rfl rfl (x133_ok _) ?_
                  refine D.run 3 rfl ?_
                  refine D.ce rfl rfl rfl rfl (x134_ok _) ?_
                  refine D.run 5 rfl ?_
                  refine D.ce rfl rfl rfl rfl (x133_ok _) ?_
                  show _ → Rn E 130 (206, [.ref 68, .int a1, .int a2, .int a3, .int (x133 I 1), .int (x134 I 1)], [.int (x133 I 0), .int 2, .ref 68], wT I R) o w
                  refine D.run 2 rfl ?_
                  refine D.ce rfl rfl rfl rfl (x134_ok _) ?_
                  refine D.call rfl rfl rfl rfl (fun q h => x136_ok h) (fun q7 => ?_)
                  refine D.run 3 rfl ?_
                  refine D.call rfl rfl rfl rfl (fun q h => x131_ok h) (fun q8 => ?_)
                  show _ → Rn E 130 (222, [.ref 68, .int a1, .int a2, .int a3, .int (x133 I 1), .int (x134 I 1)], [], wT q8 R) o w
                  refine D.run 1 rfl ?_
                  exact fun h => by obtain ⟨rfl, rfl⟩ := hT _ (D.some h); exact Rn.ret rfl rfl rfl
                · exact fun h => by obtain ⟨rfl, rfl⟩ := hT _ (D.some h); exact Rn.ret rfl rfl rfl
set_option maxRecDepth 20000 in
theorem x130_ok {E : Xe} {R : Nat → Nat → Option Nat} {I : St} {a1 a2 a3 : Int32} {q : St} (h : x130 I a1 a2 a3 = some q) : Rn E 130 (0, loc0 130 [.ref 68, .int a1, .int a2, .int a3], [], wT I R) (.returned none) (wT q R) := x130_D  _ _ _ (T := fun r => r = q) (by rintro r rfl; exact ⟨rfl, rfl⟩) ⟨_, h, rfl⟩
/-- TaintHouse$Machine.doBinary(I)V -/
def x137 (I : St) (a1 : Int32) : Option (St) := if (x133 I 0) = 0 then if a1 = 11 then (x138 I 5 ((x134 I 1) ||| (x134 I 0))).bind fun q1 => some q1 else if a1 = 12 then (x138 I 5 ((x134 I 1) ||| (x134 I 0))).bind fun q2 => some q2 else (x141 I a1 (x133 I 1) (x133 I 0)).bind fun q3 => (x136 I 2 q3 ((x134 I 1) ||| (x134 I 0))).bind fun q4 => some q4 else (x141 I a1 (x133 I 1) (x133 I 0)).bind fun q5 => (x136 I 2 q5 ((x134 I 1) ||| (x134 I 0))).bind fun q6 => some q6
set_option maxRecDepth 20000 in
theorem x137_D {E : Xe} {R : Nat → Nat → Option Nat} {o : Outcome} {w : Wd} {T : (St) → Prop} {I : St} (a1 : Int32) (hT : ∀ r, T r → o = .returned none ∧ w = wT r R) : Dq (x137 I a1) T → Rn E 137 (0, loc0 137 [.ref 68, .int a1], [], wT I R) o w := by
  unfold x137
  refine D.run 2 rfl ?_
  refine D.ce rfl rfl rfl rfl (x133_ok _) ?_
  refine D.run 3 rfl ?_
  refine D.ce rfl rfl rfl rfl (x133_ok _) ?_
  refine D.run 3 rfl ?_
  refine D.ce rfl rfl rfl rfl (x134_ok _) ?_
  show _ → Rn E 137 (17, [.ref 68, .int a1, .int (x133 I 1), .int (x133 I 0), us], [.int (x134 I 1)], wT I R) o w
  refine D.run 2 rfl ?_
  refine D.ce rfl rfl rfl rfl (x134_ok _) ?_
  refine D.run 3 rfl ?_
  refine D.br rfl (by decide) rfl (fun hc => ?_) (fun hc => ?_)
  · refine D.run 2 rfl ?_
    refine D.br rfl (by decide) rfl (fun hc => ?_) (fun hc => ?_)
    · refine D.run 3 rfl ?_
      refine D.call rfl rfl rfl rfl (fun q h => x138_ok h) (fun q1 => ?_)
      exact fun h => by obtain ⟨rfl, rfl⟩ := hT _ (D.some h); exact Rn.ret rfl rfl rfl
    · refine D.run 2 rfl ?_
      refine D.br rfl (by decide) rfl (fun hc => ?_) (fun hc => ?_)
      · refine D.run 3 rfl ?_
        refine D.call rfl rfl rfl rfl (fun q h => x138_ok h) (fun q2 => ?_)
        exact fun h => by obtain ⟨rfl, rfl⟩ := hT _ (D.some h); exact Rn.ret rfl rfl rfl
      · refine D.run 5 rfl ?_
        refine D.call rfl rfl rfl rfl (fun q h => x141_ok h) (fun q3 => ?_)
        refine D.run 1 rfl ?_
        refine D.call rfl rfl rfl rfl (fun q h => x136_ok h) (fun q4 => ?_)
        exact fun h => by obtain ⟨rfl, rfl⟩ := hT _ (D.some h); exact Rn.ret rfl rfl rfl
  · refine D.run 5 rfl ?_
    refine D.call rfl rfl rfl rfl (fun q h => x141_ok h) (fun q5 => ?_)
    refine D.run 1 rfl ?_
    refine D.call rfl rfl rfl rfl (fun q h => x136_ok h) (fun q6 => ?_)
    exact fun h => by obtain ⟨rfl, rfl⟩ := hT _ (D.some h); exact Rn.ret rfl rfl rfl
set_option maxRecDepth 20000 in
theorem x137_ok {E : Xe} {R : Nat → Nat → Option Nat} {I : St} {a1 : Int32} {q : St} (h : x137 I a1 = some q) : Rn E 137 (0, loc0 137 [.ref 68, .int a1], [], wT I R) (.returned none) (wT q R) := x137_D  _ (T := fun r => r = q) (by rintro r rfl; exact ⟨rfl, rfl⟩) ⟨_, h, rfl⟩
/-- TaintHouse$Machine.getField(II)V -/
def x147 (P : Nat) (I : St) (a1 a2 : Int32) : Option (St) := (x148 P I (x133 I 0) a1).bind fun q1 => if q1 = 0 then (x136 I 1 (x151 I (x133 I 0) a2) ((x152 I (x133 I 0) a2) ||| (x153 I 2 (x134 I 0)))).bind fun q2 => some q2 else (x138 I q1 (x134 I 0)).bind fun q3 => some q3
set_option maxRecDepth 20000 in
theorem x147_D {E : Xe} {R : Nat → Nat → Option Nat} {P : Nat} {o : Outcome} {w : Wd} {T : (St) → Prop} {I : St} (hP : P = 3 ∨ P = 18) (h68_6 : R 68 6 = some P) (a1 a2 : Int32) (hT : ∀ r, T r → o = .returned none ∧ w = wT r R) : Dq (x147 P I a1 a2) T → Rn E 147 (0, loc0 147 [.ref 68, .int a1, .int a2], [], wT I R) o w := by
  unfold x147
  rcases hP with rfl | rfl
  all_goals
    refine D.run 2 rfl ?_
    refine D.ce rfl rfl rfl rfl (x133_ok _) ?_
    refine D.run 3 rfl ?_
    refine D.ce rfl rfl rfl rfl (x134_ok _) ?_
    refine D.run 4 rfl ?_
    refine D.call rfl rfl rfl rfl (fun q h => x148_ok (by decide) h68_6 h) (fun q1 => ?_)
    show _ → Rn E 147 (19, [.ref 68, .int a1, .int a2, .int (x133 I 0), .int (x134 I 0), us], [.int q1], wT I R) o w
    refine D.run 2 rfl ?_
    refine D.br rfl (by decide) rfl (fun hc => ?_) (fun hc => ?_)
    · refine D.run 6 rfl ?_
      refine D.ce rfl rfl rfl rfl (x151_ok _ _) ?_
      refine D.run 4 rfl ?_
      refine D.ce rfl rfl rfl rfl (x152_ok _ _) ?_
      refine D.run 3 rfl ?_
      refine D.ce rfl rfl rfl rfl (x153_ok _ _) ?_
      show _ → Rn E 147 (62, [.ref 68, .int a1, .int a2, .int (x133 I 0), .int (x134 I 0), .int q1], [.int (x153 I 2 (x134 I 0)), .int (x152 I (x133 I 0) a2), .int (x151 I (x133 I 0) a2), .int 1, .ref 68], wT I R) o w
      refine D.run 1 rfl ?_
      refine D.call rfl rfl rfl rfl (fun q h => x136_ok h) (fun q2 => ?_)
      exact fun h => by obtain ⟨rfl, rfl⟩ := hT _ (D.some h); exact Rn.ret rfl rfl rfl
    · refine D.run 3 rfl ?_
      refine D.call rfl rfl rfl rfl (fun q h => x138_ok h) (fun q3 => ?_)
      exact fun h => by obtain ⟨rfl, rfl⟩ := hT _ (D.some h); exact Rn.ret rfl rfl rfl
set_option maxRecDepth 20000 in
theorem x147_ok {E : Xe} {R : Nat → Nat → Option Nat} {P : Nat} {I : St} (hP : P = 3 ∨ P = 18) (h68_6 : R 68 6 = some P) {a1 a2 : Int32} {q : St} (h : x147 P I a1 a2 = some q) : Rn E 147 (0, loc0 147 [.ref 68, .int a1, .int a2], [], wT I R) (.returned none) (wT q R) := x147_D hP h68_6 _ _ (T := fun r => r = q) (by rintro r rfl; exact ⟨rfl, rfl⟩) ⟨_, h, rfl⟩
/-- TaintHouse$Machine.getElement(I)V -/
def x157 (I : St) (a1 : Int32) : Option (St) := if (x158 I (x133 I 1) a1 (x133 I 0)) = 0 then (x136 I 2 (x151 I (x133 I 1) (x133 I 0)) ((x152 I (x133 I 1) (x133 I 0)) ||| ((x153 I 2 (x134 I 1)) ||| (x153 I 1 (x134 I 0))))).bind fun q1 => some q1 else (x138 I (x158 I (x133 I 1) a1 (x133 I 0)) ((x134 I 1) ||| (x134 I 0))).bind fun q2 => some q2
set_option maxRecDepth 20000 in
theorem x157_D {E : Xe} {R : Nat → Nat → Option Nat} {o : Outcome} {w : Wd} {T : (St) → Prop} {I : St} (a1 : Int32) (hT : ∀ r, T r → o = .returned none ∧ w = wT r R) : Dq (x157 I a1) T → Rn E 157 (0, loc0 157 [.ref 68, .int a1], [], wT I R) o w := by
  unfold x157
  refine D.run 2 rfl ?_
  refine D.ce rfl rfl rfl rfl (x133_ok _) ?_
  refine D.run 3 rfl ?_
  refine D.ce rfl rfl rfl rfl (x133_ok _) ?_
  refine D.run 5 rfl ?_
  refine D.ce rfl rfl rfl rfl (x158_ok _ _ _) ?_
  show _ → Rn E 157 (19, [.ref 68, .int a1, .int (x133 I 1), .int (x133 I 0), us, us], [.int (x158 I (x133 I 1) a1 (x133 I 0))], wT I R) o w
  refine D.run 2 rfl ?_
  refine D.br rfl (by decide) rfl (fun hc => ?_) (fun hc => ?_)
  · refine D.run 4 rfl ?_
    refine D.ce rfl rfl rfl rfl (x134_ok _) ?_
    refine D.ce rfl rfl rfl rfl (x153_ok _ _) ?_
    refine D.run 4 rfl ?_
    refine D.ce rfl rfl rfl rfl (x134_ok _) ?_
    show _ → Rn E 157 (61, [.ref 68, .int a1, .int (x133 I 1), .int (x133 I 0), .int (x158 I (x133 I 1) a1 (x133 I 0)), us], [.int (x134 I 0), .int 1, .ref 68, .int (x153 I 2 (x134 I 1))], wT I R) o w
    refine D.ce rfl rfl rfl rfl (x153_ok _ _) ?_
    refine D.run 8 rfl ?_
    refine D.ce rfl rfl rfl rfl (x151_ok _ _) ?_
    refine D.run 4 rfl ?_
    refine D.ce rfl rfl rfl rfl (x152_ok _ _) ?_
    show _ → Rn E 157 (87, [.ref 68, .int a1, .int (x133 I 1), .int (x133 I 0), .int (x158 I (x133 I 1) a1 (x133 I 0)), .int ((x153 I 2 (x134 I 1)) ||| (x153 I 1 (x134 I 0)))], [.int (x152 I (x133 I 1) (x133 I 0)), .int (x151 I (x133 I 1) (x133 I 0)), .int 2, .ref 68], wT I R) o w
    refine D.run 2 rfl ?_
    refine D.call rfl rfl rfl rfl (fun q h => x136_ok h) (fun q1 => ?_)
    exact fun h => by obtain ⟨rfl, rfl⟩ := hT _ (D.some h); exact Rn.ret rfl rfl rfl
  · refine D.run 4 rfl ?_
    refine D.ce rfl rfl rfl rfl (x134_ok _) ?_
    refine D.run 2 rfl ?_
    refine D.ce rfl rfl rfl rfl (x134_ok _) ?_
    refine D.run 1 rfl ?_
    refine D.call rfl rfl rfl rfl (fun q h => x138_ok h) (fun q2 => ?_)
    show _ → Rn E 157 (43, [.ref 68, .int a1, .int (x133 I 1), .int (x133 I 0), .int (x158 I (x133 I 1) a1 (x133 I 0)), us], [], wT q2 R) o w
    exact fun h => by obtain ⟨rfl, rfl⟩ := hT _ (D.some h); exact Rn.ret rfl rfl rfl
set_option maxRecDepth 20000 in
theorem x157_ok {E : Xe} {R : Nat → Nat → Option Nat} {I : St} {a1 : Int32} {q : St} (h : x157 I a1 = some q) : Rn E 157 (0, loc0 157 [.ref 68, .int a1], [], wT I R) (.returned none) (wT q R) := x157_D  _ (T := fun r => r = q) (by rintro r rfl; exact ⟨rfl, rfl⟩) ⟨_, h, rfl⟩
/-- TaintHouse$Machine.doCall(III)V -/
def x163 (P : Nat) (I : St) (a1 a2 a3 : Int32) : Option (St) := if a1 = 49 then (x164 I a3 (tget I (P + 7) a3 4)).bind fun q1 => some q1 else if a1 = 50 then (x165 P I a2 a3).bind fun q2 => some q2 else if a1 = 51 then (x166 P I).bind fun q3 => some q3 else if (x133 I 0) = (-1) then (x138 I 2 (x134 I 0)).bind fun q4 => some q4 else (x140 I (x133 I 0) (x134 I 0)).bind fun q5 => some q5
set_option maxRecDepth 20000 in
theorem x163_D {E : Xe} {R : Nat → Nat → Option Nat} {P : Nat} {o : Outcome} {w : Wd} {T : (St) → Prop} {I : St} (hP : P = 3 ∨ P = 18) (h68_6 : R 68 6 = some P) (a1 a2 a3 : Int32) (hT : ∀ r, T r → o = .returned none ∧ w = wT r R) : Dq (x163 P I a1 a2 a3) T → Rn E 163 (0, loc0 163 [.ref 68, .int a1, .int a2, .int a3], [], wT I R) o w := by
  unfold x163
  rcases hP with rfl | rfl
  all_goals
    refine D.run 1 rfl ?_
    refine D.sw rfl (by decide) rfl ?_
    show _ → Rn E 163 (swT [(49, 28), (50, 48), (51, 57)] 64 _, _, _, _) _ _
    refine D.swc (fun hc => ?_) (fun hc => ?_)
    · refine D.run 3 rfl ?_
      refine D.st rfl (by decide) (gf_1 h68_6) ?_
      refine D.run 3 rfl ?_
      refine D.ce rfl rfl rfl rfl (tget_ok (by decide) (by first | rfl | decide) _ _) ?_
      refine D.call rfl rfl rfl rfl (fun q h => x164_ok h) (fun q1 => ?_)
      show _ → Rn E 163 (45, [.ref 68, .int a1, .int a2, .int a3], [], wT q1 R) o w
      refine D.run 1 rfl ?_
      exact fun h => by obtain ⟨rfl, rfl⟩ := hT _ (D.some h); exact Rn.ret rfl rfl rfl
    · refine D.swc (fun hc => ?_) (fun hc => ?_)
      · refine D.run 3 rfl ?_
        refine D.call rfl rfl rfl rfl (fun q h => x165_ok (by decide) h68_6 h) (fun q2 => ?_)
        refine D.run 1 rfl ?_
        exact fun h => by obtain ⟨rfl, rfl⟩ := hT _ (D.some h); exact Rn.ret rfl rfl rfl
      · refine D.swc (fun hc => ?_) (fun hc => ?_)
        · refine D.run 1 rfl ?_
          refine D.call rfl rfl rfl rfl (fun q h => x166_ok (by decide) h68_6 h) (fun q3 => ?_)
          refine D.run 1 rfl ?_
          exact fun h => by obtain ⟨rfl, rfl⟩ := hT _ (D.some h); exact Rn.ret rfl rfl rfl
        · refine D.run 2 rfl ?_
          refine D.ce rfl rfl rfl rfl (x133_ok _) ?_
          refine D.run 1 rfl ?_
          refine D.br rfl (by decide) rfl (fun hc => ?_) (fun hc => ?_)
          · refine D.run 4 rfl ?_
            refine D.ce rfl rfl rfl rfl (x134_ok _) ?_
            refine D.call rfl rfl rfl rfl (fun q h => x138_ok h) (fun q4 => ?_)
            refine D.run 1 rfl ?_
            exact fun h => by obtain ⟨rfl, rfl⟩ := hT _ (D.some h); exact Rn.ret rfl rfl rfl
          · refine D.run 3 rfl ?_
            refine D.ce rfl rfl rfl rfl (x133_ok _) ?_
            refine D.run 2 rfl ?_
            refine D.ce rfl rfl rfl rfl (x134_ok _) ?_
            refine D.call rfl rfl rfl rfl (fun q h => x140_ok h) (fun q5 => ?_)
            show _ → Rn E 163 (100, [.ref 68, .int a1, .int a2, .int a3], [], wT q5 R) o w
            exact fun h => by obtain ⟨rfl, rfl⟩ := hT _ (D.some h); exact Rn.ret rfl rfl rfl
set_option maxRecDepth 20000 in
theorem x163_ok {E : Xe} {R : Nat → Nat → Option Nat} {P : Nat} {I : St} (hP : P = 3 ∨ P = 18) (h68_6 : R 68 6 = some P) {a1 a2 a3 : Int32} {q : St} (h : x163 P I a1 a2 a3 = some q) : Rn E 163 (0, loc0 163 [.ref 68, .int a1, .int a2, .int a3], [], wT I R) (.returned none) (wT q R) := x163_D hP h68_6 _ _ _ (T := fun r => r = q) (by rintro r rfl; exact ⟨rfl, rfl⟩) ⟨_, h, rfl⟩
/-- TaintHouseModel.readField(I)V -/
def x205 (Z : Nat) (I : St) (a1 : Int32) : Option (St ⊕ (St)) := (x192 I).bind fun q1 => (x201 Z q1).bind (Sum.elim (fun J => some (.inl J)) (fun q2 => (x206 q2.2 a1 q2.1 (q1 82 13)).bind fun q3 => if inb (q3 Z 7) 100 then if inb (q3 Z 7) 100 then (x207 (up2 (up2 q3 (Z + 9) (q3 Z 7).toNatClampNeg a1) (Z + 10) (q3 Z 7).toNatClampNeg q2.1) 0).bind (Sum.elim (fun J => some (.inl J)) (fun q4 => if inb (q3 Z 7) 100 then Lt (up2 (up2 q4.2 (Z + 11) (q3 Z 7).toNatClampNeg q4.1) Z 7 (((up2 q4.2 (Z + 11) (q3 Z 7).toNatClampNeg q4.1) Z 7) + 1)) fun J5 => (x204 J5 59).bind (Sum.elim (fun J => some (.inl J)) (fun q6 => some (.inr q6))) else none)) else none else none))
set_option maxRecDepth 20000 in
theorem x205_D {E : Xe} {R : Nat → Nat → Option Nat} {Z : Nat} {o : Outcome} {w : Wd} {T : (St ⊕ (St)) → Prop} {I : St} (hZ : Z = 85 ∨ Z = 126) (h82_4 : R 82 4 = some Z) (a1 : Int32) (hT : ∀ r, T (.inr r) → o = .returned none ∧ w = wT r R) (hX : ∀ J, T (.inl J) → o = .threw 84 ∧ w = wT J R) : Dq (x205 Z I a1) T → Rn E 205 (0, loc0 205 [.ref 82, .int a1], [], wT I R) o w := by
  unfold x205
  rcases hZ with rfl | rfl
  · refine D.run 1 rfl ?_
    refine D.call rfl rfl rfl rfl (fun q h => x192_ok h) (fun q1 => ?_)
    refine D.run 4 rfl ?_
    refine D.ct rfl rfl rfl rfl rfl (fun q h => x201_ok (by decide) h82_4 h) (fun J h => x201_thr (by decide) h82_4 h) (fun J h => hX _ (D.some h)) (fun q2 => ?_)
    refine D.run 5 rfl ?_
    refine D.call rfl rfl rfl rfl (fun q h => x206_ok h) (fun q3 => ?_)
    show _ → Rn E 205 (21, [.ref 82, .int a1, .int (q1 82 13), .int q2.1, us], [], wT q3 R) o w
    refine D.run 1 rfl ?_
    refine D.st rfl (by decide) (gf_1 h82_4) ?_
    refine D.run 3 rfl ?_
    refine D.st rfl (by decide) (gf_1 h82_4) ?_
    refine D.run 3 rfl ?_
    refine D.gd fun hg => ?_
    refine D.st rfl (by decide) (as_i (by decide) (by first | rfl | decide) hg.1 hg.2) ?_
    show _ → Rn E 205 (41, [.ref 82, .int a1, .int (q1 82 13), .int q2.1, .int (q3 85 7)], [], wT (up2 q3 (85 + 9) (q3 85 7).toNatClampNeg a1) R) o w
    refine D.run 1 rfl ?_
    refine D.st rfl (by decide) (gf_1 h82_4) ?_
    refine D.run 3 rfl ?_
    refine D.gd fun hg => ?_
    refine D.st rfl (by decide) (as_i (by decide) (by first | rfl | decide) hg.1 hg.2) ?_
    show _ → Rn E 205 (52, [.ref 82, .int a1, .int (q1 82 13), .int q2.1, .int (q3 85 7)], [], wT (up2 (up2 q3 (85 + 9) (q3 85 7).toNatClampNeg a1) (85 + 10) (q3 85 7).toNatClampNeg q2.1) R) o w
    refine D.run 1 rfl ?_
    refine D.st rfl (by decide) (gf_1 h82_4) ?_
    refine D.run 4 rfl ?_
    refine D.ct rfl rfl rfl rfl rfl (fun q h => x207_ok h) (fun J h => x207_thr h) (fun J h => hX _ (D.some h)) (fun q4 => ?_)
    refine D.gd fun hg => ?_
    refine D.st rfl (by decide) (as_i (by decide) (by first | rfl | decide) hg.1 hg.2) ?_
    show _ → Rn E 205 (67, [.ref 82, .int a1, .int (q1 82 13), .int q2.1, .int (q3 85 7)], [], wT (up2 q4.2 (85 + 11) (q3 85 7).toNatClampNeg q4.1) R) o w
    refine D.run 1 rfl ?_
    refine D.st rfl (by decide) (gf_1 h82_4) ?_
    refine D.run 5 rfl ?_
    refine D.letS (fun J5 => ?_)
    refine D.run 2 rfl ?_
    refine D.ct rfl rfl rfl rfl rfl (fun q h => x204_ok h) (fun J h => x204_thr h) (fun J h => hX _ (D.some h)) (fun q6 => ?_)
    show _ → Rn E 205 (86, [.ref 82, .int a1, .int (q1 82 13), .int q2.1, .int (q3 85 7)], [], wT q6 R) o w
    exact fun h => by obtain ⟨rfl, rfl⟩ := hT _ (D.some h); exact Rn.ret rfl rfl rfl
  · refine D.run 1 rfl ?_
    refine D.call rfl rfl rfl rfl (fun q h => x192_ok h) (fun q1 => ?_)
    refine D.run 4 rfl ?_
    refine D.ct rfl rfl rfl rfl rfl (fun q h => x201_ok (by decide) h82_4 h) (fun J h => x201_thr (by decide) h82_4 h) (fun J h => hX _ (D.some h)) (fun q2 => ?_)
    refine D.run 5 rfl ?_
    refine D.call rfl rfl rfl rfl (fun q h => x206_ok h) (fun q3 => ?_)
    show _ → Rn E 205 (21, [.ref 82, .int a1, .int (q1 82 13), .int q2.1, us], [], wT q3 R) o w
    refine D.run 1 rfl ?_
    refine D.st rfl (by decide) (gf_1 h82_4) ?_
    refine D.run 3 rfl ?_
    refine D.st rfl (by decide) (gf_1 h82_4) ?_
    refine D.run 3 rfl ?_
    refine D.gd fun hg => ?_
    refine D.st rfl (by decide) (as_i (by decide) (by first | rfl | decide) hg.1 hg.2) ?_
    show _ → Rn E 205 (41, [.ref 82, .int a1, .int (q1 82 13), .int q2.1, .int (q3 126 7)], [], wT (up2 q3 (126 + 9) (q3 126 7).toNatClampNeg a1) R) o w
    refine D.run 1 rfl ?_
    refine D.st rfl (by decide) (gf_1 h82_4) ?_
    refine D.run 3 rfl ?_
    refine D.gd fun hg => ?_
    refine D.st rfl (by decide) (as_i (by decide) (by first | rfl | decide) hg.1 hg.2) ?_
    show _ → Rn E 205 (52, [.ref 82, .int a1, .int (q1 82 13), .int q2.1, .int (q3 126 7)], [], wT (up2 (up2 q3 (126 + 9) (q3 126 7).toNatClampNeg a1) (126 + 10) (q3 126 7).toNatClampNeg q2.1) R) o w
    refine D.run 1 rfl ?_
    refine D.st rfl (by decide) (gf_1 h82_4) ?_
    refine D.run 4 rfl ?_
    refine D.ct rfl rfl rfl rfl rfl (fun q h => x207_ok h) (fun J h => x207_thr h) (fun J h => hX _ (D.some h)) (fun q4 => ?_)
    refine D.gd fun hg => ?_
    refine D.st rfl (by decide) (as_i (by decide) (by first | rfl | decide) hg.1 hg.2) ?_
    show _ → Rn E 205 (67, [.ref 82, .int a1, .int (q1 82 13), .int q2.1, .int (q3 126 7)], [], wT (up2 q4.2 (126 + 11) (q3 126 7).toNatClampNeg q4.1) R) o w
    refine D.run 1 rfl ?_
    refine D.st rfl (by decide) (gf_1 h82_4) ?_
    refine D.run 5 rfl ?_
    refine D.letS (fun J5 => ?_)
    refine D.run 2 rfl ?_
    refine D.ct rfl rfl rfl rfl rfl (fun q h => x204_ok h) (fun J h => x204_thr h) (fun J h => hX _ (D.some h)) (fun q6 => ?_)
    show _ → Rn E 205 (86, [.ref 82, .int a1, .int (q1 82 13), .int q2.1, .int (q3 126 7)], [], wT q6 R) o w
    exact fun h => by obtain ⟨rfl, rfl⟩ := hT _ (D.some h); exact Rn.ret rfl rfl rfl
set_option maxRecDepth 20000 in
theorem x205_ok {E : Xe} {R : Nat → Nat → Option Nat} {Z : Nat} {I : St} (hZ : Z = 85 ∨ Z = 126) (h82_4 : R 82 4 = some Z) {a1 : Int32} {q : St} (h : x205 Z I a1 = some (.inr q)) : Rn E 205 (0, loc0 205 [.ref 82, .int a1], [], wT I R) (.returned none) (wT q R) := x205_D hZ h82_4 _ (T := fun r => r = .inr q) (by rintro r h; cases h; exact ⟨rfl, rfl⟩) (by rintro J h; cases h) ⟨_, h, rfl⟩
set_option maxRecDepth 20000 in
theorem x205_thr {E : Xe} {R : Nat → Nat → Option Nat} {Z : Nat} {I : St} (hZ : Z = 85 ∨ Z = 126) (h82_4 : R 82 4 = some Z) {a1 : Int32} {J : St} (h : x205 Z I a1 = some (.inl J)) : Rn E 205 (0, loc0 205 [.ref 82, .int a1], [], wT I R) (.threw 84) (wT J R) := x205_D hZ h82_4 _ (T := fun r => r = .inl J) (by rintro r h; cases h) (by rintro K h; cases h; exact ⟨rfl, rfl⟩) ⟨_, h, rfl⟩
/-- TaintHouseModel.signed(I)I -/
def x213 (I : St) (a1 : Int32) : Option (St ⊕ (Int32 × St)) := (x203 I 45).bind fun q1 => if q1 = 0 then (if 0 ≤ a1 then some a1 else some 2147483647).bind fun (q2 : Int32) => (x214 I q2).bind (Sum.elim (fun J => some (.inl J)) (fun q3 => some (.inr (q3.1, q3.2)))) else (x192 I).bind fun q4 => if (q4 82 12) = 2 then if (q4 82 15) = (-2147483648) then if 0 ≤ a1 then (if 0 ≤ a1 then some a1 else some 2147483647).bind fun (q5 : Int32) => (x214 q4 q5).bind (Sum.elim (fun J => some (.inl J)) (fun q6 => some (.inr ((-q6.1), q6.2)))) else (x192 q4).bind fun q7 => some (.inr ((-2147483648), q7)) else (if 0 ≤ a1 then some a1 else some 2147483647).bind fun (q8 : Int32) => (x214 q4 q8).bind (Sum.elim (fun J => some (.inl J)) (fun q9 => some (.inr ((-q9.1), q9.2)))) else (if 0 ≤ a1 then some a1 else some 2147483647).bind fun (q10 : Int32) => (x214 q4 q10).bind (Sum.elim (fun J => some (.inl J)) (fun q11 => some (.inr ((-q11.1), q11.2))))
set_option maxRecDepth 20000 in
theorem x213_D {E : Xe} {R : Nat → Nat → Option Nat} {o : Outcome} {w : Wd} {T : (St ⊕ (Int32 × St)) → Prop} {I : St} (a1 : Int32) (hT : ∀ r, T (.inr r) → o = .returned (some (.int r.1)) ∧ w = wT r.2 R) (hX : ∀ J, T (.inl J) → o = .threw 84 ∧ w = wT J R) : Dq (x213 I a1) T → Rn E 213 (0, loc0 213 [.ref 82, .int a1], [], wT I R) o w := by
  unfold x213
  refine D.run 2 rfl ?_
  refine D.call rfl rfl rfl rfl (fun q h => x203_ok h) (fun q1 => ?_)
  refine D.br rfl (by decide) rfl (fun hc => ?_) (fun hc => ?_)
  · refine D.run 2 rfl ?_
    have Kj20 : ∀ (q2 : Int32), Dq ((x214 I q2).bind (Sum.elim (fun J => some (.inl J)) (fun q3 => some (.inr (q3.1, q3.2))))) T → Rn E 213 (20, [.ref 82, .int a1], [.int q2, .ref 82], wT I R) o w := by
      intro q2
      refine D.ct rfl rfl rfl rfl rfl (fun q h => x214_ok h) (fun J h => x214_thr h) (fun J h => hX _ (D.some h)) (fun q3 => ?_)
      exact fun h => by obtain ⟨rfl, rfl⟩ := hT _ (D.some h); exact Rn.ret rfl rfl rfl
    refine D.jn (fun T20 c20 => ?_)
    refine D.br rfl (by decide) rfl (fun hc => ?_) (fun hc => ?_)
    · refine D.run 1 rfl ?_
      exact fun h => Kj20 _   (c20 _ (D.some h))
    · refine D.run 2 rfl ?_
      exact fun h => Kj20 _   (c20 _ (D.some h))
  · refine D.run 1 rfl ?_
    refine D.call rfl rfl rfl rfl (fun q h => x192_ok h) (fun q4 => ?_)
    refine D.run 3 rfl ?_
    refine D.br rfl (by decide) rfl (fun hc => ?_) (fun hc => ?_)
    · refine D.run 3 rfl ?_
      refine D.br rfl (by decide) rfl (fun hc => ?_) (fun hc => ?_)
      · refine D.run 1 rfl ?_
        refine D.br rfl (by decide) rfl (fun hc => ?_) (fun hc => ?_)
        · refine D.run 2 rfl ?_
          have Kj67 : ∀ (q5 : Int32), Dq ((x214 q4 q5).bind (Sum.elim (fun J => some (.inl J)) (fun q6 => some (.inr ((-q6.1), q6.2))))) T → Rn E 213 (67, [.ref 82, .int a1], [.int q5, .ref 82], wT q4 R) o w := by
            intro q5
            refine D.ct rfl rfl rfl rfl rfl (fun q h => x214_ok h) (fun J h => x214_thr h) (fun J h => hX _ (D.some h)) (fun q6 => ?_)
            refine D.run 1 rfl ?_
            exact fun h => by obtain ⟨rfl, rfl⟩ := hT _ (D.some h); exact Rn.ret rfl rfl rfl
          refine D.jn (fun T67 c67 => ?_)
          refine D.br rfl (by decide) rfl (fun hc => ?_) (fun hc => ?_)
          · refine D.run 1 rfl ?_
            exact fun h => Kj67 _   (c67 _ (D.some h))
          · refine D.run 2 rfl ?_
            exact fun h => Kj67 _   (c67 _ (D.some h))
        · refine D.run 1 rfl ?_
          refine D.call rfl rfl rfl rfl (fun q h => x192_ok h) (fun q7 => ?_)
          refine D.run 1 rfl ?_
          exact fun h => by obtain ⟨rfl, rfl⟩ := hT _ (D.some h); exact Rn.ret rfl rfl rfl
      · refine D.run 2 rfl ?_
        have Kj67 : ∀ (q8 : Int32), Dq ((x214 q4 q8).bind (Sum.elim (fun J => some (.inl J)) (fun q9 => some (.inr ((-q9.1), q9.2))))) T → Rn E 213 (67, [.ref 82, .int a1], [.int q8, .ref 82], wT q4 R) o w := by
          intro q8
          refine D.ct rfl rfl rfl rfl rfl (fun q h => x214_ok h) (fun J h => x214_thr h) (fun J h => hX _ (D.some h)) (fun q9 => ?_)
          refine D.run 1 rfl ?_
          exact fun h => by obtain ⟨rfl, rfl⟩ := hT _ (D.some h); exact Rn.ret rfl rfl rfl
        refine D.jn (fun T67 c67 => ?_)
        refine D.br rfl (by decide) rfl (fun hc => ?_) (fun hc => ?_)
        · refine D.run 1 rfl ?_
          exact fun h => Kj67 _   (c67 _ (D.some h))
        · refine D.run 2 rfl ?_
          exact fun h => Kj67 _   (c67 _ (D.some h))
    · refine D.run 2 rfl ?_
      have Kj67 : ∀ (q10 : Int32), Dq ((x214 q4 q10).bind (Sum.elim (fun J => some (.inl J)) (fun q11 => some (.inr ((-q11.1), q11.2))))) T → Rn E 213 (67, [.ref 82, .int a1], [.int q10, .ref 82], wT q4 R) o w := by
        intro q10
        refine D.ct rfl rfl rfl rfl rfl (fun q h => x214_ok h) (fun J h => x214_thr h) (fun J h => hX _ (D.some h)) (fun q11 => ?_)
        refine D.run 1 rfl ?_
        exact fun h => by obtain ⟨rfl, rfl⟩ := hT _ (D.some h); exact Rn.ret rfl rfl rfl
      refine D.jn (fun T67 c67 => ?_)
      refine D.br rfl (by decide) rfl (fun hc => ?_) (fun hc => ?_)
      · refine D.run 1 rfl ?_
        exact fun h => Kj67 _   (c67 _ (D.some h))
      · refine D.run 2 rfl ?_
        exact fun h => Kj67 _   (c67 _ (D.some h))
set_option maxRecDepth 20000 in
theorem x213_ok {E : Xe} {R : Nat → Nat → Option Nat} {I : St} {a1 : Int32} {q : Int32 × St} (h : x213 I a1 = some (.inr q)) : Rn E 213 (0, loc0 213 [.ref 82, .int a1], [], wT I R) (.returned (some (.int q.1))) (wT q.2 R) := x213_D  _ (T := fun r => r = .inr q) (by rintro r h; cases h; exact ⟨rfl, rfl⟩) (by rintro J h; cases h) ⟨_, h, rfl⟩
set_option maxRecDepth 20000 in
theorem x213_thr {E : Xe} {R : Nat → Nat → Option Nat} {I : St} {a1 : Int32} {J : St} (h : x213 I a1 = some (.inl J)) : Rn E 213 (0, loc0 213 [.ref 82, .int a1], [], wT I R) (.threw 84) (wT J R) := x213_D  _ (T := fun r => r = .inl J) (by rintro r h; cases h) (by rintro K h; cases h; exact ⟨rfl, rfl⟩) ⟨_, h, rfl⟩
/-- TaintHouseModel.look()V -/
def l215_3 (Z : Nat) : Nat → Int32 → St → Option (St)
  | 0, _, _ => none
  | n + 1, b1, I => if (I Z 5) ≤ b1 then some I else if inb b1 19 then (x216 Z I (I (Z + 4) b1.toNatClampNeg) b1).bind fun q1 => (if q1 = (-1) then some I else if inb b1 19 then (x217 I 1 (I (Z + 5) b1.toNatClampNeg)).bind fun q2 => some q2 else none).bind fun (q3 : St) => if inb b1 19 then (if (q3 (Z + 6) b1.toNatClampNeg) = (-1) then some 0 else if inb b1 19 then (x216 Z q3 (q3 (Z + 6) b1.toNatClampNeg) b1).bind fun q4 => some q4 else none).bind fun (q5 : Int32) => (if q5 = (-1) then if inb b1 19 then (x217 q3 2 (q3 (Z + 7) b1.toNatClampNeg)).bind fun q6 => some q6 else none else some q3).bind fun (q7 : St) => if q5 = (-1) then if inb b1 19 then l215_3 Z n (b1 + 1) (up2 q7 (Z + 8) b1.toNatClampNeg 0) else none else if inb b1 19 then l215_3 Z n (b1 + 1) (up2 q7 (Z + 8) b1.toNatClampNeg q5) else none else none else none
set_option maxRecDepth 20000 in
theorem l215_3_ok {E : Xe} {R : Nat → Nat → Option Nat} {Z : Nat} {o : Outcome} {w : Wd} {T : (St) → Prop} (hZ : Z = 85 ∨ Z = 126) (h82_4 : R 82 4 = some Z) (K : ∀ (q : St) (e1 : Value) (_ : is1 e1 = true) (e2 : Value) (_ : is1 e2 = true), T q → Rn E 215 (122, [.ref 82, e1, e2], [], wT q R) o w) : ∀ (n : Nat) (b1 : Int32) (d2 : Value) (I : St), is1 d2 = true → Dq (l215_3 Z n b1 I) T → Rn E 215 (3, [.ref 82, .int b1, d2], [], wT I R) o w := by
  rcases hZ with rfl | rfl
  · intro n
    induction n with
    | zero => intro b1 d2 I hd2; exact D.none
    | succ n ih =>
      intro b1 d2 I hd2
      rw [l215_3]
      refine D.run 2 rfl ?_
      refine D.st rfl (by decide) (gf_1 h82_4) ?_
      refine D.run 1 rfl ?_
      refine D.br rfl (by decide) rfl (fun hc => ?_) (fun hc => ?_)
      · exact fun h => D.to h (K _ _ (by first | rfl | assumption) _ (by first | rfl | assumption))
      · refine D.run 2 rfl ?_
        refine D.st rfl (by decide) (gf_1 h82_4) ?_
        refine D.run 2 rfl ?_
        refine D.gd fun hg => ?_
        refine D.st rfl (by decide) (al_i (by decide) (by first | rfl | decide) hg.1 hg.2) ?_
        show _ → Rn E 215 (24, [.ref 82, .int b1, d2], [.int (I (85 + 4) b1.toNatClampNeg), .ref 82], wT I R) o w
        refine D.run 1 rfl ?_
        refine D.call rfl rfl rfl rfl (fun q h => x216_ok (by decide) h82_4 h) (fun q1 => ?_)
        refine D.run 1 rfl ?_
        have Kj46 : ∀ (q3 : St), Dq (if inb b1 19 then (if (q3 (85 + 6) b1.toNatClampNeg) = (-1) then some 0 else if inb b1 19 then (x216 85 q3 (q3 (85 + 6) b1.toNatClampNeg) b1).bind fun q4 => some q4 else none).bind fun (q5 : Int32) => (if q5 = (-1) then if inb b1 19 then (x217 q3 2 (q3 (85 + 7) b1.toNatClampNeg)).bind fun q6 => some q6 else none else some q3).bind fun (q7 : St) => if q5 = (-1) then if inb b1 19 then l215_3 85 n (b1 + 1) (up2 q7 (85 + 8) b1.toNatClampNeg 0) else none else if inb b1 19 then l215_3 85 n (b1 + 1) (up2 q7 (85 + 8) b1.toNatClampNeg q5) else none else none) T → Rn E 215 (46, [.ref 82, .int b1, d2], [], wT q3 R) o w := by
          intro q3
          refine D.run 1 rfl ?_
          refine D.st rfl (by decide) (gf_1 h82_4) ?_
          refine D.run 2 rfl ?_
          refine D.gd fun hg => ?_
          refine D.st rfl (by decide) (al_i (by decide) (by first | rfl | decide) hg.1 hg.2) ?_
          show _ → Rn E 215 (55, [.ref 82, .int b1, d2], [.int (q3 (85 + 6) b1.toNatClampNeg)], wT q3 R) o w
          refine D.run 1 rfl ?_
          have Kj77 : ∀ (q5 : Int32), Dq ((if q5 = (-1) then if inb b1 19 then (x217 q3 2 (q3 (85 + 7) b1.toNatClampNeg)).bind fun q6 => some q6 else none else some q3).bind fun (q7 : St) => if q5 = (-1) then if inb b1 19 then l215_3 85 n (b1 + 1) (up2 q7 (85 + 8) b1.toNatClampNeg 0) else none else if inb b1 19 then l215_3 85 n (b1 + 1) (up2 q7 (85 + 8) b1.toNatClampNeg q5) else none) T → Rn E 215 (77, [.ref 82, .int b1, d2], [.int q5], wT q3 R) o w := by
            intro q5
            refine D.run 3 rfl ?_
            have Kj97 : ∀ (q7 : St), Dq (if q5 = (-1) then if inb b1 19 then l215_3 85 n (b1 + 1) (up2 q7 (85 + 8) b1.toNatClampNeg 0) else none else if inb b1 19 then l215_3 85 n (b1 + 1) (up2 q7 (85 + 8) b1.toNatClampNeg q5) else none) T → Rn E 215 (97, [.ref 82, .int b1, .int q5], [], wT q7 R) o w := by
              intro q7
              refine D.run 1 rfl ?_
              refine D.st rfl (by decide) (gf_1 h82_4) ?_
              refine D.run 4 rfl ?_
              refine D.br rfl (by decide) rfl (fun hc => ?_) (fun hc => ?_)
              · refine D.run 2 rfl ?_
                refine D.gd fun hg => ?_
                refine D.st rfl (by decide) (as_i (by decide) (by first | rfl | decide) hg.1 hg.2) ?_
                refine D.run 2 rfl ?_
                exact ih _ _ _ (by first | rfl | assumption)
              · refine D.run 1 rfl ?_
                refine D.gd fun hg => ?_
                refine D.st rfl (by decide) (as_i (by decide) (by first | rfl | decide) hg.1 hg.2) ?_
                refine D.run 2 rfl ?_
                exact ih _ _ _ (by first | rfl | assumption)
            refine D.jn (fun T97 c97 => ?_)
            refine D.br rfl (by decide) rfl (fun hc => ?_) (fun hc => ?_)
            · refine D.run 3 rfl ?_
              refine D.st rfl (by decide) (gf_1 h82_4) ?_
              refine D.run 2 rfl ?_
              refine D.gd fun hg => ?_
              refine D.st rfl (by decide) (al_i (by decide) (by first | rfl | decide) hg.1 hg.2) ?_
              show _ → Rn E 215 (94, [.ref 82, .int b1, .int q5], [.int (q3 (85 + 7) b1.toNatClampNeg), .int 2, .ref 82], wT q3 R) o w
              refine D.call rfl rfl rfl rfl (fun q h => x217_ok h) (fun q6 => ?_)
              exact fun h => Kj97 _   (c97 _ (D.some h))
            · exact fun h => Kj97 _   (c97 _ (D.some h))
          refine D.jn (fun T77 c77 => ?_)
          refine D.br rfl (by decide) rfl (fun hc => ?_) (fun hc => ?_)
          · refine D.run 2 rfl ?_
            exact fun h => Kj77 _   (c77 _ (D.some h))
          · refine D.run 2 rfl ?_
            refine D.st rfl (by decide) (gf_1 h82_4) ?_
            refine D.run 2 rfl ?_
            refine D.gd fun hg => ?_
            refine D.st rfl (by decide) (al_i (by decide) (by first | rfl | decide) hg.1 hg.2) ?_
            show _ → Rn E 215 (73, [.ref 82, .int b1, d2], [.int (q3 (85 + 6) b1.toNatClampNeg), .ref 82], wT q3 R) o w
            refine D.run 1 rfl ?_
            refine D.call rfl rfl rfl rfl (fun q h => x216_ok (by decide) h82_4 h) (fun q4 => ?_)
            exact fun h => Kj77 _   (c77 _ (D.some h))
        refine D.jn (fun T46 c46 => ?_)
        refine D.br rfl (by decide) rfl (fun hc => ?_) (fun hc => ?_)
        · exact fun h => Kj46 _   (c46 _ (D.some h))
        · refine D.run 3 rfl ?_
          refine D.st rfl (by decide) (gf_1 h82_4) ?_
          refine D.run 2 rfl ?_
          refine D.gd fun hg => ?_
          refine D.st rfl (by decide) (al_i (by decide) (by first | rfl | decide) hg.1 hg.2) ?_
          show _ → Rn E 215 (43, [.ref 82, .int b1, d2], [.int (I (85 + 5) b1.toNatClampNeg), .int 1, .ref 82], wT I R) o w
          refine D.call rfl rfl rfl rfl (fun q h => x217_ok h) (fun q2 => ?_)
          exact fun h => Kj46 _   (c46 _ (D.some h))
  · intro n
    induction n with
    | zero => intro b1 d2 I hd2; exact D.none
    | succ n ih =>
      intro b1 d2 I hd2
      rw [l215_3]
      refine D.run 2 rfl ?_
      refine D.st rfl (by decide) (gf_1 h82_4) ?_
      refine D.run 1 rfl ?_
      refine D.br rfl (by decide) rfl (fun hc => ?_) (fun hc => ?_)
      · exact fun h => D.to h (K _ _ (by first | rfl | assumption) _ (by first | rfl | assumption))
      · refine D.run 2 rfl ?_
        refine D.st rfl (by decide) (gf_1 h82_4) ?_
        refine D.run 2 rfl ?_
        refine D.gd fun hg => ?_
        refine D.st rfl (by decide) (al_i (by decide) (by first | rfl | decide) hg.1 hg.2) ?_
        show _ → Rn E 215 (24, [.ref 82, .int b1, d2], [.int (I (126 + 4) b1.toNatClampNeg), .ref 82], wT I R) o w
        refine D.run 1 rfl ?_
        refine D.call rfl rfl rfl rfl (fun q h => x216_ok (by decide) h82_4 h) (fun q1 => ?_)
        refine D.run 1 rfl ?_
        have Kj46 : ∀ (q3 : St), Dq (if inb b1 19 then (if (q3 (126 + 6) b1.toNatClampNeg) = (-1) then some 0 else if inb b1 19 then (x216 126 q3 (q3 (126 + 6) b1.toNatClampNeg) b1).bind fun q4 => some q4 else none).bind fun (q5 : Int32) => (if q5 = (-1) then if inb b1 19 then (x217 q3 2 (q3 (126 + 7) b1.toNatClampNeg)).bind fun q6 => some q6 else none else some q3).bind fun (q7 : St) => if q5 = (-1) then if inb b1 19 then l215_3 126 n (b1 + 1) (up2 q7 (126 + 8) b1.toNatClampNeg 0) else none else if inb b1 19 then l215_3 126 n (b1 + 1) (up2 q7 (126 + 8) b1.toNatClampNeg q5) else none else none) T → Rn E 215 (46, [.ref 82, .int b1, d2], [], wT q3 R) o w := by
          intro q3
          refine D.run 1 rfl ?_
          refine D.st rfl (by decide) (gf_1 h82_4) ?_
          refine D.run 2 rfl ?_
          refine D.gd fun hg => ?_
          refine D.st rfl (by decide) (al_i (by decide) (by first | rfl | decide) hg.1 hg.2) ?_
          show _ → Rn E 215 (55, [.ref 82, .int b1, d2], [.int (q3 (126 + 6) b1.toNatClampNeg)], wT q3 R) o w
          refine D.run 1 rfl ?_
          have Kj77 : ∀ (q5 : Int32), Dq ((if q5 = (-1) then if inb b1 19 then (x217 q3 2 (q3 (126 + 7) b1.toNatClampNeg)).bind fun q6 => some q6 else none else some q3).bind fun (q7 : St) => if q5 = (-1) then if inb b1 19 then l215_3 126 n (b1 + 1) (up2 q7 (126 + 8) b1.toNatClampNeg 0) else none else if inb b1 19 then l215_3 126 n (b1 + 1) (up2 q7 (126 + 8) b1.toNatClampNeg q5) else none) T → Rn E 215 (77, [.ref 82, .int b1, d2], [.int q5], wT q3 R) o w := by
            intro q5
            refine D.run 3 rfl ?_
            have Kj97 : ∀ (q7 : St), Dq (if q5 = (-1) then if inb b1 19 then l215_3 126 n (b1 + 1) (up2 q7 (126 + 8) b1.toNatClampNeg 0) else none else if inb b1 19 then l215_3 126 n (b1 + 1) (up2 q7 (126 + 8) b1.toNatClampNeg q5) else none) T → Rn E 215 (97, [.ref 82, .int b1, .int q5], [], wT q7 R) o w := by
              intro q7
              refine D.run 1 rfl ?_
              refine D.st rfl (by decide) (gf_1 h82_4) ?_
              refine D.run 4 rfl ?_
              refine D.br rfl (by decide) rfl (fun hc => ?_) (fun hc => ?_)
              · refine D.run 2 rfl ?_
                refine D.gd fun hg => ?_
                refine D.st rfl (by decide) (as_i (by decide) (by first | rfl | decide) hg.1 hg.2) ?_
                refine D.run 2 rfl ?_
                exact ih _ _ _ (by first | rfl | assumption)
              · refine D.run 1 rfl ?_
                refine D.gd fun hg => ?_
                refine D.st rfl (by decide) (as_i (by decide) (by first | rfl | decide) hg.1 hg.2) ?_
                refine D.run 2 rfl ?_
                exact ih _ _ _ (by first | rfl | assumption)
            refine D.jn (fun T97 c97 => ?_)
            refine D.br rfl (by decide) rfl (fun hc => ?_) (fun hc => ?_)
            · refine D.run 3 rfl ?_
              refine D.st rfl (by decide) (gf_1 h82_4) ?_
              refine D.run 2 rfl ?_
              refine D.gd fun hg => ?_
              refine D.st rfl (by decide) (al_i (by decide) (by first | rfl | decide) hg.1 hg.2) ?_
              show _ → Rn E 215 (94, [.ref 82, .int b1, .int q5], [.int (q3 (126 + 7) b1.toNatClampNeg), .int 2, .ref 82], wT q3 R) o w
              refine D.call rfl rfl rfl rfl (fun q h => x217_ok h) (fun q6 => ?_)
              exact fun h => Kj97 _   (c97 _ (D.some h))
            · exact fun h => Kj97 _   (c97 _ (D.some h))
          refine D.jn (fun T77 c77 => ?_)
          refine D.br rfl (by decide) rfl (fun hc => ?_) (fun hc => ?_)
          · refine D.run 2 rfl ?_
            exact fun h => Kj77 _   (c77 _ (D.some h))
          · refine D.run 2 rfl ?_
            refine D.st rfl (by decide) (gf_1 h82_4) ?_
            refine D.run 2 rfl ?_
            refine D.gd fun hg => ?_
            refine D.st rfl (by decide) (al_i (by decide) (by first | rfl | decide) hg.1 hg.2) ?_
            show _ → Rn E 215 (73, [.ref 82, .int b1, d2], [.int (q3 (126 + 6) b1.toNatClampNeg), .ref 82], wT q3 R) o w
            refine D.run 1 rfl ?_
            refine D.call rfl rfl rfl rfl (fun q h => x216_ok (by decide) h82_4 h) (fun q4 => ?_)
            exact fun h => Kj77 _   (c77 _ (D.some h))
        refine D.jn (fun T46 c46 => ?_)
        refine D.br rfl (by decide) rfl (fun hc => ?_) (fun hc => ?_)
        · exact fun h => Kj46 _   (c46 _ (D.some h))
        · refine D.run 3 rfl ?_
          refine D.st rfl (by decide) (gf_1 h82_4) ?_
          refine D.run 2 rfl ?_
          refine D.gd fun hg => ?_
          refine D.st rfl (by decide) (al_i (by decide) (by first | rfl | decide) hg.1 hg.2) ?_
          show _ → Rn E 215 (43, [.ref 82, .int b1, d2], [.int (I (126 + 5) b1.toNatClampNeg), .int 1, .ref 82], wT I R) o w
          refine D.call rfl rfl rfl rfl (fun q h => x217_ok h) (fun q2 => ?_)
          exact fun h => Kj46 _   (c46 _ (D.some h))
def l215_134 (Z : Nat) (b1 : Int32) : Nat → Int32 → St → Option (St)
  | 0, _, _ => none
  | n + 1, b2, I => if b1 ≤ b2 then some I else if inb b1 1300 then if inb b2 1300 then if (I 171 b1.toNatClampNeg) = (I 171 b2.toNatClampNeg) then if inb b1 1300 then if inb b2 1300 then if (I 172 b1.toNatClampNeg) = (I 172 b2.toNatClampNeg) then if inb b1 1300 then (x217 I 1 (I 173 b1.toNatClampNeg)).bind fun q11 => l215_134 Z b1 n (b2 + 1) q11 else none else l215_134 Z b1 n (b2 + 1) I else none else none else l215_134 Z b1 n (b2 + 1) I else none else none
set_option maxRecDepth 20000 in
theorem l215_134_ok {E : Xe} {R : Nat → Nat → Option Nat} {Z : Nat} {o : Outcome} {w : Wd} {T : (St) → Prop} {b1 : Int32} (hZ : Z = 85 ∨ Z = 126) (h82_4 : R 82 4 = some Z) (K : ∀ (q : St) (e2 : Value) (_ : is1 e2 = true), T q → Rn E 215 (186, [.ref 82, .int b1, e2], [], wT q R) o w) : ∀ (n : Nat) (b2 : Int32) (I : St), Dq (l215_134 Z b1 n b2 I) T → Rn E 215 (134, [.ref 82, .int b1, .int b2], [], wT I R) o w := by
  rcases hZ with rfl | rfl
  all_goals
    intro n
    induction n with
    | zero => intro b2 I; exact D.none
    | succ n ih =>
      intro b2 I
      rw [l215_134]
      refine D.run 2 rfl ?_
      refine D.br rfl (by decide) rfl (fun hc => ?_) (fun hc => ?_)
      · exact fun h => D.to h (K _ _ (by first | rfl | assumption))
      · refine D.run 3 rfl ?_
        refine D.gd fun hg => ?_
        refine D.st rfl (by decide) (al_i (by decide) (by first | rfl | decide) hg.1 hg.2) ?_
        refine D.run 3 rfl ?_
        refine D.gd fun hg => ?_
        refine D.st rfl (by decide) (al_i (by decide) (by first | rfl | decide) hg.1 hg.2) ?_
        show _ → Rn E 215 (151, [.ref 82, .int b1, .int b2], [.int (I 171 b2.toNatClampNeg), .int (I 171 b1.toNatClampNeg)], wT I R) o w
        refine D.br rfl (by decide) rfl (fun hc => ?_) (fun hc => ?_)
        · refine D.run 3 rfl ?_
          refine D.gd fun hg => ?_
          refine D.st rfl (by decide) (al_i (by decide) (by first | rfl | decide) hg.1 hg.2) ?_
          refine D.run 3 rfl ?_
          refine D.gd fun hg => ?_
          refine D.st rfl (by decide) (al_i (by decide) (by first | rfl | decide) hg.1 hg.2) ?_
          show _ → Rn E 215 (166, [.ref 82, .int b1, .int b2], [.int (I 172 b2.toNatClampNeg), .int (I 172 b1.toNatClampNeg)], wT I R) o w
          refine D.br rfl (by decide) rfl (fun hc => ?_) (fun hc => ?_)
          · refine D.run 5 rfl ?_
            refine D.gd fun hg => ?_
            refine D.st rfl (by decide) (al_i (by decide) (by first | rfl | decide) hg.1 hg.2) ?_
            refine D.call rfl rfl rfl rfl (fun q h => x217_ok h) (fun q11 => ?_)
            refine D.run 2 rfl ?_
            exact ih _ _ 
          · refine D.run 2 rfl ?_
            exact ih _ _ 
        · refine D.run 2 rfl ?_
          exact ih _ _ 
def l215_124 (Z : Nat) : Nat → Int32 → St → Option (St)
  | 0, _, _ => none
  | n + 1, b1, I => if (I 82 20) ≤ b1 then some I else (l215_134 Z b1 100000 0 I).bind fun q12 => l215_124 Z n (b1 + 1) q12
set_option maxRecDepth 20000 in
theorem l215_124_ok {E : Xe} {R : Nat → Nat → Option Nat} {Z : Nat} {o : Outcome} {w : Wd} {T : (St) → Prop} (hZ : Z = 85 ∨ Z = 126) (h82_4 : R 82 4 = some Z) (K : ∀ (q : St) (e1 : Value) (_ : is1 e1 = true) (e2 : Value) (_ : is1 e2 = true), T q → Rn E 215 (192, [.ref 82, e1, e2], [], wT q R) o w) : ∀ (n : Nat) (b1 : Int32) (d2 : Value) (I : St), is1 d2 = true → Dq (l215_124 Z n b1 I) T → Rn E 215 (124, [.ref 82, .int b1, d2], [], wT I R) o w := by
  rcases hZ with rfl | rfl
  all_goals
    intro n
    induction n with
    | zero => intro b1 d2 I hd2; exact D.none
    | succ n ih =>
      intro b1 d2 I hd2
      rw [l215_124]
      refine D.run 3 rfl ?_
      refine D.br rfl (by decide) rfl (fun hc => ?_) (fun hc => ?_)
      · exact fun h => D.to h (K _ _ (by first | rfl | assumption) _ (by first | rfl | assumption))
      · refine D.run 2 rfl ?_
        refine D.bind (l215_134_ok (by decide) h82_4 (fun q12 e13 he13 => ?_) 100000 _  _ )
        refine D.run 2 rfl ?_
        exact ih _ _ _ (by first | rfl | assumption)
def l215_207 (Z : Nat) (b1 : Int32) : Nat → Int32 → St → Option (St)
  | 0, _, _ => none
  | n + 1, b2, I => if b1 ≤ b2 then some I else if inb b1 2000 then if inb b2 2000 then if (I (Z + 34) b1.toNatClampNeg) = (I (Z + 34) b2.toNatClampNeg) then if inb b1 2000 then if inb b2 2000 then if (I (Z + 35) b1.toNatClampNeg) = (I (Z + 35) b2.toNatClampNeg) then if inb b1 2000 then (x217 I 1 (I 174 b1.toNatClampNeg)).bind fun q17 => l215_207 Z b1 n (b2 + 1) q17 else none else l215_207 Z b1 n (b2 + 1) I else none else none else l215_207 Z b1 n (b2 + 1) I else none else none
set_option maxRecDepth 20000 in
theorem l215_207_ok {E : Xe} {R : Nat → Nat → Option Nat} {Z : Nat} {o : Outcome} {w : Wd} {T : (St) → Prop} {b1 : Int32} (hZ : Z = 85 ∨ Z = 126) (h82_4 : R 82 4 = some Z) (K : ∀ (q : St) (e2 : Value) (_ : is1 e2 = true), T q → Rn E 215 (271, [.ref 82, .int b1, e2], [], wT q R) o w) : ∀ (n : Nat) (b2 : Int32) (I : St), Dq (l215_207 Z b1 n b2 I) T → Rn E 215 (207, [.ref 82, .int b1, .int b2], [], wT I R) o w := by
  rcases hZ with rfl | rfl
  · intro n
    induction n with
    | zero => intro b2 I; exact D.none
    | succ n ih =>
      intro b2 I
      rw [l215_207]
      refine D.run 2 rfl ?_
      refine D.br rfl (by decide) rfl (fun hc => ?_) (fun hc => ?_)
      · exact fun h => D.to h (K _ _ (by first | rfl | assumption))
      · refine D.run 1 rfl ?_
        refine D.st rfl (by decide) (gf_1 h82_4) ?_
        refine D.run 2 rfl ?_
        refine D.gd fun hg => ?_
        refine D.st rfl (by decide) (al_i (by decide) (by first | rfl | decide) hg.1 hg.2) ?_
        show _ → Rn E 215 (221, [.ref 82, .int b1, .int b2], [.int (I (85 + 34) b1.toNatClampNeg)], wT I R) o w
        refine D.run 1 rfl ?_
        refine D.st rfl (by decide) (gf_1 h82_4) ?_
        refine D.run 2 rfl ?_
        refine D.gd fun hg => ?_
        refine D.st rfl (by decide) (al_i (by decide) (by first | rfl | decide) hg.1 hg.2) ?_
        show _ → Rn E 215 (230, [.ref 82, .int b1, .int b2], [.int (I (85 + 34) b2.toNatClampNeg), .int (I (85 + 34) b1.toNatClampNeg)], wT I R) o w
        refine D.br rfl (by decide) rfl (fun hc => ?_) (fun hc => ?_)
        · refine D.run 1 rfl ?_
          refine D.st rfl (by decide) (gf_1 h82_4) ?_
          refine D.run 2 rfl ?_
          refine D.gd fun hg => ?_
          refine D.st rfl (by decide) (al_i (by decide) (by first | rfl | decide) hg.1 hg.2) ?_
          show _ → Rn E 215 (242, [.ref 82, .int b1, .int b2], [.int (I (85 + 35) b1.toNatClampNeg)], wT I R) o w
          refine D.run 1 rfl ?_
          refine D.st rfl (by decide) (gf_1 h82_4) ?_
          refine D.run 2 rfl ?_
          refine D.gd fun hg => ?_
          refine D.st rfl (by decide) (al_i (by decide) (by first | rfl | decide) hg.1 hg.2) ?_
          show _ → Rn E 215 (251, [.ref 82, .int b1, .int b2], [.int (I (85 + 35) b2.toNatClampNeg), .int (I (85 + 35) b1.toNatClampNeg)], wT I R) o w
          refine D.br rfl (by decide) rfl (fun hc => ?_) (fun hc => ?_)
          · refine D.run 5 rfl ?_
            refine D.gd fun hg => ?_
            refine D.st rfl (by decide) (al_i (by decide) (by first | rfl | decide) hg.1 hg.2) ?_
            refine D.call rfl rfl rfl rfl (fun q h => x217_ok h) (fun q17 => ?_)
            refine D.run 2 rfl ?_
            exact ih _ _ 
          · refine D.run 2 rfl ?_
            exact ih _ _ 
        · refine D.run 2 rfl ?_
          exact ih _ _ 
  · intro n
    induction n with
    | zero => intro b2 I; exact D.none
    | succ n ih =>
      intro b2 I
      rw [l215_207]
      refine D.run 2 rfl ?_
      refine D.br rfl (by decide) rfl (fun hc => ?_) (fun hc => ?_)
      · exact fun h => D.to h (K _ _ (by first | rfl | assumption))
      · refine D.run 1 rfl ?_
        refine D.st rfl (by decide) (gf_1 h82_4) ?_
        refine D.run 2 rfl ?_
        refine D.gd fun hg => ?_
        refine D.st rfl (by decide) (al_i (by decide) (by first | rfl | decide) hg.1 hg.2) ?_
        show _ → Rn E 215 (221, [.ref 82, .int b1, .int b2], [.int (I (126 + 34) b1.toNatClampNeg)], wT I R) o w
        refine D.run 1 rfl ?_
        refine D.st rfl (by decide) (gf_1 h82_4) ?_
        refine D.run 2 rfl ?_
        refine D.gd fun hg => ?_
        refine D.st rfl (by decide) (al_i (by decide) (by first | rfl | decide) hg.1 hg.2) ?_
        show _ → Rn E 215 (230, [.ref 82, .int b1, .int b2], [.int (I (126 + 34) b2.toNatClampNeg), .int (I (126 + 34) b1.toNatClampNeg)], wT I R) o w
        refine D.br rfl (by decide) rfl (fun hc => ?_) (fun hc => ?_)
        · refine D.run 1 rfl ?_
          refine D.st rfl (by decide) (gf_1 h82_4) ?_
          refine D.run 2 rfl ?_
          refine D.gd fun hg => ?_
          refine D.st rfl (by decide) (al_i (by decide) (by first | rfl | decide) hg.1 hg.2) ?_
          show _ → Rn E 215 (242, [.ref 82, .int b1, .int b2], [.int (I (126 + 35) b1.toNatClampNeg)], wT I R) o w
          refine D.run 1 rfl ?_
          refine D.st rfl (by decide) (gf_1 h82_4) ?_
          refine D.run 2 rfl ?_
          refine D.gd fun hg => ?_
          refine D.st rfl (by decide) (al_i (by decide) (by first | rfl | decide) hg.1 hg.2) ?_
          show _ → Rn E 215 (251, [.ref 82, .int b1, .int b2], [.int (I (126 + 35) b2.toNatClampNeg), .int (I (126 + 35) b1.toNatClampNeg)], wT I R) o w
          refine D.br rfl (by decide) rfl (fun hc => ?_) (fun hc => ?_)
          · refine D.run 5 rfl ?_
            refine D.gd fun hg => ?_
            refine D.st rfl (by decide) (al_i (by decide) (by first | rfl | decide) hg.1 hg.2) ?_
            refine D.call rfl rfl rfl rfl (fun q h => x217_ok h) (fun q17 => ?_)
            refine D.run 2 rfl ?_
            exact ih _ _ 
          · refine D.run 2 rfl ?_
            exact ih _ _ 
        · refine D.run 2 rfl ?_
          exact ih _ _ 
def l215_194 (Z : Nat) : Nat → Int32 → St → Option (St)
  | 0, _, _ => none
  | n + 1, b1, I => if (I Z 10) ≤ b1 then some I else (l215_207 Z b1 100000 0 I).bind fun q18 => l215_194 Z n (b1 + 1) q18
set_option maxRecDepth 20000 in
theorem l215_194_ok {E : Xe} {R : Nat → Nat → Option Nat} {Z : Nat} {o : Outcome} {w : Wd} {T : (St) → Prop} (hZ : Z = 85 ∨ Z = 126) (h82_4 : R 82 4 = some Z) (K : ∀ (q : St) (e1 : Value) (_ : is1 e1 = true) (e2 : Value) (_ : is1 e2 = true), T q → Rn E 215 (277, [.ref 82, e1, e2], [], wT q R) o w) : ∀ (n : Nat) (b1 : Int32) (d2 : Value) (I : St), is1 d2 = true → Dq (l215_194 Z n b1 I) T → Rn E 215 (194, [.ref 82, .int b1, d2], [], wT I R) o w := by
  rcases hZ with rfl | rfl
  all_goals
    intro n
    induction n with
    | zero => intro b1 d2 I hd2; exact D.none
    | succ n ih =>
      intro b1 d2 I hd2
      rw [l215_194]
      refine D.run 2 rfl ?_
      refine D.st rfl (by decide) (gf_1 h82_4) ?_
      refine D.run 1 rfl ?_
      refine D.br rfl (by decide) rfl (fun hc => ?_) (fun hc => ?_)
      · exact fun h => D.to h (K _ _ (by first | rfl | assumption) _ (by first | rfl | assumption))
      · refine D.run 2 rfl ?_
        refine D.bind (l215_207_ok (by decide) h82_4 (fun q18 e19 he19 => ?_) 100000 _  _ )
        refine D.run 2 rfl ?_
        exact ih _ _ _ (by first | rfl | assumption)
def l215_305 (Z : Nat) (b1 : Int32) : Nat → Int32 → St → Option (St)
  | 0, _, _ => none
  | n + 1, b2, I => if inb b1 24 then if inb b1 24 then if ((I (Z + 21) b1.toNatClampNeg) + (I (Z + 22) b1.toNatClampNeg)) ≤ b2 then some I else (x220 Z I b1 b2).bind fun q24 => l215_305 Z b1 n (b2 + 1) q24 else none else none
set_option maxRecDepth 20000 in
theorem l215_305_ok {E : Xe} {R : Nat → Nat → Option Nat} {Z : Nat} {o : Outcome} {w : Wd} {T : (St) → Prop} {b1 : Int32} (hZ : Z = 85 ∨ Z = 126) (h82_4 : R 82 4 = some Z) (K : ∀ (q : St) (e2 : Value) (_ : is1 e2 = true), T q → Rn E 215 (340, [.ref 82, .int b1, e2], [], wT q R) o w) : ∀ (n : Nat) (b2 : Int32) (I : St), Dq (l215_305 Z b1 n b2 I) T → Rn E 215 (305, [.ref 82, .int b1, .int b2], [], wT I R) o w := by
  rcases hZ with rfl | rfl
  · intro n
    induction n with
    | zero => intro b2 I; exact D.none
    | succ n ih =>
      intro b2 I
      rw [l215_305]
      refine D.run 2 rfl ?_
      refine D.st rfl (by decide) (gf_1 h82_4) ?_
      refine D.run 2 rfl ?_
      refine D.gd fun hg => ?_
      refine D.st rfl (by decide) (al_i (by decide) (by first | rfl | decide) hg.1 hg.2) ?_
      show _ → Rn E 215 (315, [.ref 82, .int b1, .int b2], [.int (I (85 + 21) b1.toNatClampNeg), .int b2], wT I R) o w
      refine D.run 1 rfl ?_
      refine D.st rfl (by decide) (gf_1 h82_4) ?_
      refine D.run 2 rfl ?_
      refine D.gd fun hg => ?_
      refine D.st rfl (by decide) (al_i (by decide) (by first | rfl | decide) hg.1 hg.2) ?_
      show _ → Rn E 215 (324, [.ref 82, .int b1, .int b2], [.int (I (85 + 22) b1.toNatClampNeg), .int (I (85 + 21) b1.toNatClampNeg), .int b2], wT I R) o w
      refine D.run 1 rfl ?_
      refine D.br rfl (by decide) rfl (fun hc => ?_) (fun hc => ?_)
      · exact fun h => D.to h (K _ _ (by first | rfl | assumption))
      · refine D.run 3 rfl ?_
        refine D.call rfl rfl rfl rfl (fun q h => x220_ok (by decide) h82_4 h) (fun q24 => ?_)
        refine D.run 2 rfl ?_
        exact ih _ _ 
  · intro n
    induction n with
    | zero => intro b2 I; exact D.none
    | succ n ih =>
      intro b2 I
      rw [l215_305]
      refine D.run 2 rfl ?_
      refine D.st rfl (by decide) (gf_1 h82_4) ?_
      refine D.run 2 rfl ?_
      refine D.gd fun hg => ?_
      refine D.st rfl (by decide) (al_i (by decide) (by first | rfl | decide) hg.1 hg.2) ?_
      show _ → Rn E 215 (315, [.ref 82, .int b1, .int b2], [.int (I (126 + 21) b1.toNatClampNeg), .int b2], wT I R) o w
      refine D.run 1 rfl ?_
      refine D.st rfl (by decide) (gf_1 h82_4) ?_
      refine D.run 2 rfl ?_
      refine D.gd fun hg => ?_
      refine D.st rfl (by decide) (al_i (by decide) (by first | rfl | decide) hg.1 hg.2) ?_
      show _ → Rn E 215 (324, [.ref 82, .int b1, .int b2], [.int (I (126 + 22) b1.toNatClampNeg), .int (I (126 + 21) b1.toNatClampNeg), .int b2], wT I R) o w
      refine D.run 1 rfl ?_
      refine D.br rfl (by decide) rfl (fun hc => ?_) (fun hc => ?_)
      · exact fun h => D.to h (K _ _ (by first | rfl | assumption))
      · refine D.run 3 rfl ?_
        refine D.call rfl rfl rfl rfl (fun q h => x220_ok (by decide) h82_4 h) (fun q24 => ?_)
        refine D.run 2 rfl ?_
        exact ih _ _ 
def l215_279 (Z : Nat) : Nat → Int32 → St → Option (St)
  | 0, _, _ => none
  | n + 1, b1, I => if (I Z 8) ≤ b1 then some I else (x218 Z I b1).bind fun q23 => if inb b1 24 then (l215_305 Z b1 100000 (q23 (Z + 21) b1.toNatClampNeg) q23).bind fun q25 => l215_279 Z n (b1 + 1) q25 else none
set_option maxRecDepth 20000 in
theorem l215_279_ok {E : Xe} {R : Nat → Nat → Option Nat} {Z : Nat} {o : Outcome} {w : Wd} {T : (St) → Prop} (hZ : Z = 85 ∨ Z = 126) (h82_4 : R 82 4 = some Z) (K : ∀ (q : St) (e1 : Value) (_ : is1 e1 = true) (e2 : Value) (_ : is1 e2 = true), T q → Rn E 215 (346, [.ref 82, e1, e2], [], wT q R) o w) : ∀ (n : Nat) (b1 : Int32) (d2 : Value) (I : St), is1 d2 = true → Dq (l215_279 Z n b1 I) T → Rn E 215 (279, [.ref 82, .int b1, d2], [], wT I R) o w := by
  rcases hZ with rfl | rfl
  · intro n
    induction n with
    | zero => intro b1 d2 I hd2; exact D.none
    | succ n ih =>
      intro b1 d2 I hd2
      rw [l215_279]
      refine D.run 2 rfl ?_
      refine D.st rfl (by decide) (gf_1 h82_4) ?_
      refine D.run 1 rfl ?_
      refine D.br rfl (by decide) rfl (fun hc => ?_) (fun hc => ?_)
      · exact fun h => D.to h (K _ _ (by first | rfl | assumption) _ (by first | rfl | assumption))
      · refine D.run 2 rfl ?_
        refine D.call rfl rfl rfl rfl (fun q h => x218_ok (by decide) h82_4 h) (fun q23 => ?_)
        refine D.run 1 rfl ?_
        refine D.st rfl (by decide) (gf_1 h82_4) ?_
        refine D.run 2 rfl ?_
        refine D.gd fun hg => ?_
        refine D.st rfl (by decide) (al_i (by decide) (by first | rfl | decide) hg.1 hg.2) ?_
        show _ → Rn E 215 (304, [.ref 82, .int b1, d2], [.int (q23 (85 + 21) b1.toNatClampNeg)], wT q23 R) o w
        refine D.run 1 rfl ?_
        refine D.bind (l215_305_ok (by decide) h82_4 (fun q25 e26 he26 => ?_) 100000 _  _ )
        refine D.run 2 rfl ?_
        exact ih _ _ _ (by first | rfl | assumption)
  · intro n
    induction n with
    | zero => intro b1 d2 I hd2; exact D.none
    | succ n ih =>
      intro b1 d2 I hd2
      rw [l215_279]
      refine D.run 2 rfl ?_
      refine D.st rfl (by decide) (gf_1 h82_4) ?_
      refine D.run 1 rfl ?_
      refine D.br rfl (by decide) rfl (fun hc => ?_) (fun hc => ?_)
      · exact fun h => D.to h (K _ _ (by first | rfl | assumption) _ (by first | rfl | assumption))
      · refine D.run 2 rfl ?_
        refine D.call rfl rfl rfl rfl (fun q h => x218_ok (by decide) h82_4 h) (fun q23 => ?_)
        refine D.run 1 rfl ?_
        refine D.st rfl (by decide) (gf_1 h82_4) ?_
        refine D.run 2 rfl ?_
        refine D.gd fun hg => ?_
        refine D.st rfl (by decide) (al_i (by decide) (by first | rfl | decide) hg.1 hg.2) ?_
        show _ → Rn E 215 (304, [.ref 82, .int b1, d2], [.int (q23 (126 + 21) b1.toNatClampNeg)], wT q23 R) o w
        refine D.run 1 rfl ?_
        refine D.bind (l215_305_ok (by decide) h82_4 (fun q25 e26 he26 => ?_) 100000 _  _ )
        refine D.run 2 rfl ?_
        exact ih _ _ _ (by first | rfl | assumption)
def l215_348 (Z : Nat) : Nat → Int32 → St → Option (St)
  | 0, _, _ => none
  | n + 1, b1, I => if (I Z 11) ≤ b1 then some I else (x224 Z I b1).bind fun q30 => l215_348 Z n (b1 + 1) q30
set_option maxRecDepth 20000 in
theorem l215_348_ok {E : Xe} {R : Nat → Nat → Option Nat} {Z : Nat} {o : Outcome} {w : Wd} {T : (St) → Prop} (hZ : Z = 85 ∨ Z = 126) (h82_4 : R 82 4 = some Z) (K : ∀ (q : St) (e1 : Value) (_ : is1 e1 = true) (e2 : Value) (_ : is1 e2 = true), T q → Rn E 215 (370, [.ref 82, e1, e2], [], wT q R) o w) : ∀ (n : Nat) (b1 : Int32) (d2 : Value) (I : St), is1 d2 = true → Dq (l215_348 Z n b1 I) T → Rn E 215 (348, [.ref 82, .int b1, d2], [], wT I R) o w := by
  rcases hZ with rfl | rfl
  all_goals
    intro n
    induction n with
    | zero => intro b1 d2 I hd2; exact D.none
    | succ n ih =>
      intro b1 d2 I hd2
      rw [l215_348]
      refine D.run 2 rfl ?_
      refine D.st rfl (by decide) (gf_1 h82_4) ?_
      refine D.run 1 rfl ?_
      refine D.br rfl (by decide) rfl (fun hc => ?_) (fun hc => ?_)
      · exact fun h => D.to h (K _ _ (by first | rfl | assumption) _ (by first | rfl | assumption))
      · refine D.run 2 rfl ?_
        refine D.call rfl rfl rfl rfl (fun q h => x224_ok (by decide) h82_4 h) (fun q30 => ?_)
        refine D.run 2 rfl ?_
        exact ih _ _ _ (by first | rfl | assumption)
def x215 (Z : Nat) (I : St) : Option (St) := (l215_3 Z 100000 7 I).bind fun q8 => (l215_124 Z 100000 0 q8).bind fun q14 => (l215_194 Z 100000 0 q14).bind fun q20 => (l215_279 Z 100000 0 q20).bind fun q27 => (l215_348 Z 100000 0 q27).bind fun q31 => some q31
set_option maxRecDepth 20000 in
theorem x215_D {E : Xe} {R : Nat → Nat → Option Nat} {Z : Nat} {o : Outcome} {w : Wd} {T : (St) → Prop} {I : St} (hZ : Z = 85 ∨ Z = 126) (h82_4 : R 82 4 = some Z) (hT : ∀ r, T r → o = .returned none ∧ w = wT r R) : Dq (x215 Z I) T → Rn E 215 (0, loc0 215 [.ref 82], [], wT I R) o w := by
  unfold x215
  rcases hZ with rfl | rfl
  all_goals
    refine D.run 2 rfl ?_
    refine D.bind (l215_3_ok (by decide) h82_4 (fun q8 e9 he9 e10 he10 => ?_) 100000 _ _ _ (by first | rfl | assumption))
    refine D.run 2 rfl ?_
    refine D.bind (l215_124_ok (by decide) h82_4 (fun q14 e15 he15 e16 he16 => ?_) 100000 _ _ _ (by first | rfl | assumption))
    refine D.run 2 rfl ?_
    refine D.bind (l215_194_ok (by decide) h82_4 (fun q20 e21 he21 e22 he22 => ?_) 100000 _ _ _ (by first | rfl | assumption))
    refine D.run 2 rfl ?_
    refine D.bind (l215_279_ok (by decide) h82_4 (fun q27 e28 he28 e29 he29 => ?_) 100000 _ _ _ (by first | rfl | assumption))
    refine D.run 2 rfl ?_
    refine D.bind (l215_348_ok (by decide) h82_4 (fun q31 e32 he32 e33 he33 => ?_) 100000 _ _ _ (by first | rfl | assumption))
    exact fun h => by obtain ⟨rfl, rfl⟩ := hT _ (D.some h); exact Rn.ret rfl rfl rfl
set_option maxRecDepth 20000 in
theorem x215_ok {E : Xe} {R : Nat → Nat → Option Nat} {Z : Nat} {I : St} (hZ : Z = 85 ∨ Z = 126) (h82_4 : R 82 4 = some Z) {q : St} (h : x215 Z I = some q) : Rn E 215 (0, loc0 215 [.ref 82], [], wT I R) (.returned none) (wT q R) := x215_D hZ h82_4 (T := fun r => r = q) (by rintro r rfl; exact ⟨rfl, rfl⟩) ⟨_, h, rfl⟩
