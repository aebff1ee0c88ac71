/-! FUNCTIONS OF METHODS, by program (wip/gen/all.py): 230 242 251 53 106 129 -/
/-- TaintHouseModel.step(I)V -/
def l230_17 (Z : Nat) (b1 : Int32) (b2 : Int32) : Nat → Int32 → St → Option (St)
  | 0, _, _ => none
  | n + 1, b3, I => if 16 ≤ b3 then some I else if inb ((16 * b1) + b3) 1600 then if inb b3 16 then l230_17 Z b1 b2 n (b3 + 1) (up2 I 180 b3.toNatClampNeg (I 179 ((16 * b1) + b3).toNatClampNeg)) else none else none
set_option maxRecDepth 20000 in
set_option maxHeartbeats 30000000 in
theorem l230_17_ok {E : Xe} {R : Nat → Nat → Option Nat} {Z : Nat} {o : Outcome} {w : Wd} {T : (St) → Prop} {b1 : Int32} {b2 : Int32} (hZ : Z = 85 ∨ Z = 126) (h82_4 : R 82 4 = some Z) (K : ∀ (q : St) (e3 : Value) (_ : is1 e3 = true) (e4 : Value) (_ : is1 e4 = true) (e5 : Value) (_ : is1 e5 = true) (e6 : Value) (_ : is1 e6 = true) (e7 : Value) (_ : is1 e7 = true) (e8 : Value) (_ : is1 e8 = true) (e9 : Value) (_ : is1 e9 = true), T q → Rn E 230 (46, [.ref 82, .int b1, .int b2, e3, e4, e5, e6, e7, e8, e9], [], wT q R) o w) : ∀ (n : Nat) (b3 : Int32) (d4 : Value) (d5 : Value) (d6 : Value) (d7 : Value) (d8 : Value) (d9 : Value) (I : St), is1 d4 = true → is1 d5 = true → is1 d6 = true → is1 d7 = true → is1 d8 = true → is1 d9 = true → Dq (l230_17 Z b1 b2 n b3 I) T → Rn E 230 (17, [.ref 82, .int b1, .int b2, .int b3, d4, d5, d6, d7, d8, d9], [], wT I R) o w := by
  rcases hZ with rfl | rfl
  all_goals
    intro n
    induction n with
    | zero => intro b3 d4 d5 d6 d7 d8 d9 I hd4 hd5 hd6 hd7 hd8 hd9; exact D.none
    | succ n ih =>
      intro b3 d4 d5 d6 d7 d8 d9 I hd4 hd5 hd6 hd7 hd8 hd9
      rw [l230_17]
      refine D.run 2 rfl ?_
      refine D.br rfl (by decide) rfl (fun hc => ?_) (fun hc => ?_)
      · exact fun h => D.to h (K _ _ (by first | rfl | assumption) _ (by first | rfl | assumption) _ (by first | rfl | assumption) _ (by first | rfl | assumption) _ (by first | rfl | assumption) _ (by first | rfl | assumption) _ (by first | rfl | assumption))
      · refine D.run 10 rfl ?_
        refine D.gd fun hg => ?_
        refine D.st rfl (by decide) (al_i (by decide) (by first | rfl | decide) hg.1 hg.2) ?_
        refine D.gd fun hg => ?_
        refine D.st rfl (by decide) (as_i (by decide) (by first | rfl | decide) hg.1 hg.2) ?_
        show _ → Rn E 230 (40, [.ref 82, .int b1, .int b2, .int b3, d4, d5, d6, d7, d8, d9], [], wT (up2 I 180 b3.toNatClampNeg (I 179 ((16 * b1) + b3).toNatClampNeg)) R) o w
        refine D.run 2 rfl ?_
        exact ih _ _ _ _ _ _ _ _ (by first | rfl | assumption) (by first | rfl | assumption) (by first | rfl | assumption) (by first | rfl | assumption) (by first | rfl | assumption) (by first | rfl | assumption)
def l230_323 (Z : Nat) (b2 : Int32) : Nat → Int32 → St → Option (St)
  | 0, _, _ => none
  | n + 1, b9, I => if (I Z 11) ≤ b9 then some I else if inb b9 200 then if (I (Z + 37) b9.toNatClampNeg) = (I 82 32) then if inb (4 * b9) 800 then if b2 < (I (Z + 40) (4 * b9).toNatClampNeg) then l230_323 Z b2 n (b9 + 1) I else if inb ((4 * b9) + 1) 800 then if (I (Z + 40) ((4 * b9) + 1).toNatClampNeg) ≤ b2 then l230_323 Z b2 n (b9 + 1) I else if inb ((4 * b9) + 2) 800 then if inb (I 82 32) 24 then (x227 Z I ((I (Z + 40) ((4 * b9) + 2).toNatClampNeg) - (I (Z + 21) (I 82 32).toNatClampNeg)) 1 1).bind fun q23 => l230_323 Z b2 n (b9 + 1) q23 else none else none else none else none else l230_323 Z b2 n (b9 + 1) I else none
set_option maxRecDepth 20000 in
set_option maxHeartbeats 30000000 in
theorem l230_323_ok {E : Xe} {R : Nat → Nat → Option Nat} {Z : Nat} {o : Outcome} {w : Wd} {T : (St) → Prop} {b2 : Int32} (hZ : Z = 85 ∨ Z = 126) (h82_4 : R 82 4 = some Z) (K : ∀ (q : St) (e1 : Value) (_ : is1 e1 = true) (e2 : Value) (_ : is1 e2 = true) (e3 : Value) (_ : is1 e3 = true) (e4 : Value) (_ : is1 e4 = true) (e5 : Value) (_ : is1 e5 = true) (e6 : Value) (_ : is1 e6 = true) (e7 : Value) (_ : is1 e7 = true) (e8 : Value) (_ : is1 e8 = true) (e9 : Value) (_ : is1 e9 = true), T q → Rn E 230 (425, [.ref 82, e1, e2, e3, e4, e5, e6, e7, e8, e9], [], wT q R) o w) : ∀ (n : Nat) (b9 : Int32) (d1 : Value) (d3 : Value) (d4 : Value) (d5 : Value) (d6 : Value) (d7 : Value) (d8 : Value) (I : St), is1 d1 = true → is1 d3 = true → is1 d4 = true → is1 d5 = true → is1 d6 = true → is1 d7 = true → is1 d8 = true → Dq (l230_323 Z b2 n b9 I) T → Rn E 230 (323, [.ref 82, d1, .int b2, d3, d4, d5, d6, d7, d8, .int b9], [], wT I R) o w := by
  rcases hZ with rfl | rfl
  · intro n
    induction n with
    | zero => intro b9 d1 d3 d4 d5 d6 d7 d8 I hd1 hd3 hd4 hd5 hd6 hd7 hd8; exact D.none
    | succ n ih =>
      intro b9 d1 d3 d4 d5 d6 d7 d8 I hd1 hd3 hd4 hd5 hd6 hd7 hd8
      rw [l230_323]
      refine D.run 2 rfl ?_
      refine D.st rfl (by decide) (gf_1 h82_4) ?_
      refine D.run 1 rfl ?_
      refine D.br rfl (by decide) rfl (fun hc => ?_) (fun hc => ?_)
      · exact fun h => D.to h (K _ _ (by first | rfl | assumption) _ (by first | rfl | assumption) _ (by first | rfl | assumption) _ (by first | rfl | assumption) _ (by first | rfl | assumption) _ (by first | rfl | assumption) _ (by first | rfl | assumption) _ (by first | rfl | assumption) _ (by first | rfl | assumption))
      · refine D.run 1 rfl ?_
        refine D.st rfl (by decide) (gf_1 h82_4) ?_
        refine D.run 2 rfl ?_
        refine D.gd fun hg => ?_
        refine D.st rfl (by decide) (al_i (by decide) (by first | rfl | decide) hg.1 hg.2) ?_
        show _ → Rn E 230 (345, [.ref 82, d1, .int b2, d3, d4, d5, d6, d7, d8, .int b9], [.int (I (85 + 37) b9.toNatClampNeg)], wT I R) o w
        refine D.run 2 rfl ?_
        refine D.br rfl (by decide) rfl (fun hc => ?_) (fun hc => ?_)
        · refine D.run 2 rfl ?_
          refine D.st rfl (by decide) (gf_1 h82_4) ?_
          refine D.run 4 rfl ?_
          refine D.gd fun hg => ?_
          refine D.st rfl (by decide) (al_i (by decide) (by first | rfl | decide) hg.1 hg.2) ?_
          show _ → Rn E 230 (365, [.ref 82, d1, .int b2, d3, d4, d5, d6, d7, d8, .int b9], [.int (I (85 + 40) (4 * b9).toNatClampNeg), .int b2], wT I R) o w
          refine D.br rfl (by decide) rfl (fun hc => ?_) (fun hc => ?_)
          · refine D.st rfl (by decide) (iinc_d rfl rfl (by first | rfl | assumption) rfl) ?_
            refine D.run 1 rfl ?_
            exact ih _ _ _ _ _ _ _ _ _ (by first | rfl | assumption) (by first | rfl | assumption) (by first | rfl | assumption) (by first | rfl | assumption) (by first | rfl | assumption) (by first | rfl | assumption) (by first | rfl | assumption)
          · refine D.run 2 rfl ?_
            refine D.st rfl (by decide) (gf_1 h82_4) ?_
            refine D.run 6 rfl ?_
            refine D.gd fun hg => ?_
            refine D.st rfl (by decide) (al_i (by decide) (by first | rfl | decide) hg.1 hg.2) ?_
            show _ → Rn E 230 (383, [.ref 82, d1, .int b2, d3, d4, d5, d6, d7, d8, .int b9], [.int (I (85 + 40) ((4 * b9) + 1).toNatClampNeg), .int b2], wT I R) o w
            refine D.br rfl (by decide) rfl (fun hc => ?_) (fun hc => ?_)
            · refine D.st rfl (by decide) (iinc_d rfl rfl (by first | rfl | assumption) rfl) ?_
              refine D.run 1 rfl ?_
              exact ih _ _ _ _ _ _ _ _ _ (by first | rfl | assumption) (by first | rfl | assumption) (by first | rfl | assumption) (by first | rfl | assumption) (by first | rfl | assumption) (by first | rfl | assumption) (by first | rfl | assumption)
            · refine D.run 2 rfl ?_
              refine D.st rfl (by decide) (gf_1 h82_4) ?_
              refine D.run 6 rfl ?_
              refine D.gd fun hg => ?_
              refine D.st rfl (by decide) (al_i (by decide) (by first | rfl | decide) hg.1 hg.2) ?_
              show _ → Rn E 230 (401, [.ref 82, d1, .int b2, d3, d4, d5, d6, d7, d8, .int b9], [.int (I (85 + 40) ((4 * b9) + 2).toNatClampNeg), .ref 82], wT I R) o w
              refine D.run 1 rfl ?_
              refine D.st rfl (by decide) (gf_1 h82_4) ?_
              refine D.run 3 rfl ?_
              refine D.gd fun hg => ?_
              refine D.st rfl (by decide) (al_i (by decide) (by first | rfl | decide) hg.1 hg.2) ?_
              show _ → Rn E 230 (413, [.ref 82, d1, .int b2, d3, d4, d5, d6, d7, d8, .int b9], [.int (I (85 + 21) (I 82 32).toNatClampNeg), .int (I (85 + 40) ((4 * b9) + 2).toNatClampNeg), .ref 82], wT I R) o w
              refine D.run 3 rfl ?_
              refine D.call rfl rfl rfl rfl (fun q h => x227_ok (by decide) h82_4 h) (fun q23 => ?_)
              refine D.st rfl (by decide) (iinc_d rfl rfl (by first | rfl | assumption) rfl) ?_
              refine D.run 1 rfl ?_
              exact ih _ _ _ _ _ _ _ _ _ (by first | rfl | assumption) (by first | rfl | assumption) (by first | rfl | assumption) (by first | rfl | assumption) (by first | rfl | assumption) (by first | rfl | assumption) (by first | rfl | assumption)
        · refine D.st rfl (by decide) (iinc_d rfl rfl (by first | rfl | assumption) rfl) ?_
          refine D.run 1 rfl ?_
          exact ih _ _ _ _ _ _ _ _ _ (by first | rfl | assumption) (by first | rfl | assumption) (by first | rfl | assumption) (by first | rfl | assumption) (by first | rfl | assumption) (by first | rfl | assumption) (by first | rfl | assumption)
  · intro n
    induction n with
    | zero => intro b9 d1 d3 d4 d5 d6 d7 d8 I hd1 hd3 hd4 hd5 hd6 hd7 hd8; exact D.none
    | succ n ih =>
      intro b9 d1 d3 d4 d5 d6 d7 d8 I hd1 hd3 hd4 hd5 hd6 hd7 hd8
      rw [l230_323]
      refine D.run 2 rfl ?_
      refine D.st rfl (by decide) (gf_1 h82_4) ?_
      refine D.run 1 rfl ?_
      refine D.br rfl (by decide) rfl (fun hc => ?_) (fun hc => ?_)
      · exact fun h => D.to h (K _ _ (by first | rfl | assumption) _ (by first | rfl | assumption) _ (by first | rfl | assumption) _ (by first | rfl | assumption) _ (by first | rfl | assumption) _ (by first | rfl | assumption) _ (by first | rfl | assumption) _ (by first | rfl | assumption) _ (by first | rfl | assumption))
      · refine D.run 1 rfl ?_
        refine D.st rfl (by decide) (gf_1 h82_4) ?_
        refine D.run 2 rfl ?_
        refine D.gd fun hg => ?_
        refine D.st rfl (by decide) (al_i (by decide) (by first | rfl | decide) hg.1 hg.2) ?_
        show _ → Rn E 230 (345, [.ref 82, d1, .int b2, d3, d4, d5, d6, d7, d8, .int b9], [.int (I (126 + 37) b9.toNatClampNeg)], wT I R) o w
        refine D.run 2 rfl ?_
        refine D.br rfl (by decide) rfl (fun hc => ?_) (fun hc => ?_)
        · refine D.run 2 rfl ?_
          refine D.st rfl (by decide) (gf_1 h82_4) ?_
          refine D.run 4 rfl ?_
          refine D.gd fun hg => ?_
          refine D.st rfl (by decide) (al_i (by decide) (by first | rfl | decide) hg.1 hg.2) ?_
          show _ → Rn E 230 (365, [.ref 82, d1, .int b2, d3, d4, d5, d6, d7, d8, .int b9], [.int (I (126 + 40) (4 * b9).toNatClampNeg), .int b2], wT I R) o w
          refine D.br rfl (by decide) rfl (fun hc => ?_) (fun hc => ?_)
          · refine D.st rfl (by decide) (iinc_d rfl rfl (by first | rfl | assumption) rfl) ?_
            refine D.run 1 rfl ?_
            exact ih _ _ _ _ _ _ _ _ _ (by first | rfl | assumption) (by first | rfl | assumption) (by first | rfl | assumption) (by first | rfl | assumption) (by first | rfl | assumption) (by first | rfl | assumption) (by first | rfl | assumption)
          · refine D.run 2 rfl ?_
            refine D.st rfl (by decide) (gf_1 h82_4) ?_
            refine D.run 6 rfl ?_
            refine D.gd fun hg => ?_
            refine D.st rfl (by decide) (al_i (by decide) (by first | rfl | decide) hg.1 hg.2) ?_
            show _ → Rn E 230 (383, [.ref 82, d1, .int b2, d3, d4, d5, d6, d7, d8, .int b9], [.int (I (126 + 40) ((4 * b9) + 1).toNatClampNeg), .int b2], wT I R) o w
            refine D.br rfl (by decide) rfl (fun hc => ?_) (fun hc => ?_)
            · refine D.st rfl (by decide) (iinc_d rfl rfl (by first | rfl | assumption) rfl) ?_
              refine D.run 1 rfl ?_
              exact ih _ _ _ _ _ _ _ _ _ (by first | rfl | assumption) (by first | rfl | assumption) (by first | rfl | assumption) (by first | rfl | assumption) (by first | rfl | assumption) (by first | rfl | assumption) (by first | rfl | assumption)
            · refine D.run 2 rfl ?_
              refine D.st rfl (by decide) (gf_1 h82_4) ?_
              refine D.run 6 rfl ?_
              refine D.gd fun hg => ?_
              refine D.st rfl (by decide) (al_i (by decide) (by first | rfl | decide) hg.1 hg.2) ?_
              show _ → Rn E 230 (401, [.ref 82, d1, .int b2, d3, d4, d5, d6, d7, d8, .int b9], [.int (I (126 + 40) ((4 * b9) + 2).toNatClampNeg), .ref 82], wT I R) o w
              refine D.run 1 rfl ?_
              refine D.st rfl (by decide) (gf_1 h82_4) ?_
              refine D.run 3 rfl ?_
              refine D.gd fun hg => ?_
              refine D.st rfl (by decide) (al_i (by decide) (by first | rfl | decide) hg.1 hg.2) ?_
              show _ → Rn E 230 (413, [.ref 82, d1, .int b2, d3, d4, d5, d6, d7, d8, .int b9], [.int (I (126 + 21) (I 82 32).toNatClampNeg), .int (I (126 + 40) ((4 * b9) + 2).toNatClampNeg), .ref 82], wT I R) o w
              refine D.run 3 rfl ?_
              refine D.call rfl rfl rfl rfl (fun q h => x227_ok (by decide) h82_4 h) (fun q23 => ?_)
              refine D.st rfl (by decide) (iinc_d rfl rfl (by first | rfl | assumption) rfl) ?_
              refine D.run 1 rfl ?_
              exact ih _ _ _ _ _ _ _ _ _ (by first | rfl | assumption) (by first | rfl | assumption) (by first | rfl | assumption) (by first | rfl | assumption) (by first | rfl | assumption) (by first | rfl | assumption) (by first | rfl | assumption)
        · refine D.st rfl (by decide) (iinc_d rfl rfl (by first | rfl | assumption) rfl) ?_
          refine D.run 1 rfl ?_
          exact ih _ _ _ _ _ _ _ _ _ (by first | rfl | assumption) (by first | rfl | assumption) (by first | rfl | assumption) (by first | rfl | assumption) (by first | rfl | assumption) (by first | rfl | assumption) (by first | rfl | assumption)
def x230 (Z : Nat) (I : St) (a1 : Int32) : Option (St) := if inb (I 82 32) 24 then (l230_17 Z a1 ((I (Z + 21) (I 82 32).toNatClampNeg) + a1) 100000 0 I).bind fun q1 => if inb a1 100 then if inb a1 100 then Lt (up2 (up2 q1 82 29 (q1 177 a1.toNatClampNeg)) 82 30 ((up2 q1 82 29 (q1 177 a1.toNatClampNeg)) 178 a1.toNatClampNeg)) fun J9 => if inb ((I (Z + 21) (I 82 32).toNatClampNeg) + a1) 2400 then Lt (((up2 J9 82 31 1) (Z + 27) ((I (Z + 21) (I 82 32).toNatClampNeg) + a1).toNatClampNeg) &&& 15) fun v10 => if inb v10 16 then if inb ((I (Z + 21) (I 82 32).toNatClampNeg) + a1) 2400 then Lt ((up2 J9 82 31 1) (Z + 26) ((I (Z + 21) (I 82 32).toNatClampNeg) + a1).toNatClampNeg) fun v11 => (if v11 = 3 then (x231 (up2 J9 82 31 1) 0).bind fun q12 => some (q12.1, q12.2) else if v11 = 2 then (if ((up2 J9 82 31 1) 180 v10.toNatClampNeg) = 1 then some 1 else if ((up2 J9 82 31 1) 180 v10.toNatClampNeg) = 2 then some 1 else some 0).bind fun (q13 : Int32) => if q13 = 0 ∨ q13 = 1 then (x232 (up2 (up2 J9 82 31 1) 82 31 q13) ((up2 J9 82 31 1) 180 v10.toNatClampNeg)).bind fun q14 => some ((-1), q14) else none else if v11 = 4 then if ((up2 J9 82 31 1) 180 v10.toNatClampNeg) = 1 then some ((-1), (up2 (up2 J9 82 31 1) 82 31 1)) else some ((-1), (up2 (up2 J9 82 31 1) 82 31 0)) else (x233 Z (up2 J9 82 31 1) ((I (Z + 21) (I 82 32).toNatClampNeg) + a1) v11).bind fun q15 => some ((-1), q15)).bind fun (q16 : Int32 × St) => if (q16.2 82 31) = 0 then if inb ((I (Z + 21) (I 82 32).toNatClampNeg) + a1) 2400 then (x228 q16.2 (q16.2 (Z + 28) ((I (Z + 21) (I 82 32).toNatClampNeg) + a1).toNatClampNeg)).bind fun q17 => some q17 else none else (if q16.1 = (-1) then some q16.2 else if inb v10 16 then some (up2 q16.2 180 v10.toNatClampNeg q16.1) else none).bind fun (q18 : St) => (if v11 = 20 then some q18 else if v11 = 51 then some q18 else if v11 = 52 then some q18 else (x227 Z q18 (a1 + 1) (q16.2 82 29) (q16.2 82 30)).bind fun q19 => some q19).bind fun (q20 : St) => (if v11 < 20 then some q20 else if 36 < v11 then some q20 else if inb ((I (Z + 21) (I 82 32).toNatClampNeg) + a1) 2400 then if inb (q20 82 32) 24 then (x227 Z q20 ((q20 (Z + 33) ((I (Z + 21) (I 82 32).toNatClampNeg) + a1).toNatClampNeg) - (q20 (Z + 21) (q20 82 32).toNatClampNeg)) (q16.2 82 29) (q16.2 82 30)).bind fun q21 => some q21 else none else none).bind fun (q22 : St) => if inb v10 16 then (l230_323 Z ((I (Z + 21) (I 82 32).toNatClampNeg) + a1) 100000 0 (up2 q22 180 v10.toNatClampNeg ((up2 J9 82 31 1) 180 v10.toNatClampNeg))).bind fun q24 => some q24 else none else none else none else none else none else none else none
set_option maxRecDepth 20000 in
set_option maxHeartbeats 30000000 in
theorem x230_D {E : Xe} {R : Nat → Nat → Option Nat} {Z : Nat} {o : Outcome} {w : Wd} {T : (St) → Prop} {I : St} (hZ : Z = 85 ∨ Z = 126) (h82_4 : R 82 4 = some Z) (a1 : Int32) (hT : ∀ r, T r → o = .returned none ∧ w = wT r R) : Dq (x230 Z I a1) T → Rn E 230 (0, loc0 230 [.ref 82, .int a1], [], wT I R) o w := by
  unfold x230
  rcases hZ with rfl | rfl
  · refine D.run 1 rfl ?_
    refine D.st rfl (by decide) (gf_1 h82_4) ?_
    refine D.run 3 rfl ?_
    refine D.gd fun hg => ?_
    refine D.st rfl (by decide) (al_i (by decide) (by first | rfl | decide) hg.1 hg.2) ?_
    show _ → Rn E 230 (12, [.ref 82, .int a1, us, us, us, us, us, us, us, us], [.int (I (85 + 21) (I 82 32).toNatClampNeg)], wT I R) o w
    refine D.run 5 rfl ?_
    refine D.bind (l230_17_ok (by decide) h82_4 (fun q1 e2 he2 e3 he3 e4 he4 e5 he5 e6 he6 e7 he7 e8 he8 => ?_) 100000 _ _ _ _ _ _ _ _ (by first | rfl | assumption) (by first | rfl | assumption) (by first | rfl | assumption) (by first | rfl | assumption) (by first | rfl | assumption) (by first | rfl | assumption))
    refine D.run 4 rfl ?_
    refine D.gd fun hg => ?_
    refine D.st rfl (by decide) (al_i (by decide) (by first | rfl | decide) hg.1 hg.2) ?_
    refine D.run 5 rfl ?_
    refine D.gd fun hg => ?_
    refine D.st rfl (by decide) (al_i (by decide) (by first | rfl | decide) hg.1 hg.2) ?_
    show _ → Rn E 230 (63, [.ref 82, .int a1, .int ((I (85 + 21) (I 82 32).toNatClampNeg) + a1), e2, e3, e4, e5, e6, e7, e8], [.int ((up2 q1 82 29 (q1 177 a1.toNatClampNeg)) 178 a1.toNatClampNeg), .ref 82], wT (up2 q1 82 29 (q1 177 a1.toNatClampNeg)) R) o w
    refine D.run 1 rfl ?_
    refine D.letS (fun J9 => ?_)
    refine D.run 4 rfl ?_
    refine D.st rfl (by decide) (gf_1 h82_4) ?_
    refine D.run 2 rfl ?_
    refine D.gd fun hg => ?_
    refine D.st rfl (by decide) (al_i (by decide) (by first | rfl | decide) hg.1 hg.2) ?_
    show _ → Rn E 230 (80, [.ref 82, .int a1, .int ((I (85 + 21) (I 82 32).toNatClampNeg) + a1), e2, e3, e4, e5, e6, e7, e8], [.int ((up2 J9 82 31 1) (85 + 27) ((I (85 + 21) (I 82 32).toNatClampNeg) + a1).toNatClampNeg)], wT (up2 J9 82 31 1) R) o w
    refine D.run 3 rfl ?_
    refine D.letV (frame := fun v10 => (84, [.ref 82, .int a1, .int ((I (85 + 21) (I 82 32).toNatClampNeg) + a1), .int v10, e3, e4, e5, e6, e7, e8], [], wT (up2 J9 82 31 1) R)) (fun v10 => ?_)
    refine D.run 3 rfl ?_
    refine D.gd fun hg => ?_
    refine D.st rfl (by decide) (al_i (by decide) (by first | rfl | decide) hg.1 hg.2) ?_
    show _ → Rn E 230 (90, [.ref 82, .int a1, .int ((I (85 + 21) (I 82 32).toNatClampNeg) + a1), .int v10, e3, e4, e5, e6, e7, e8], [.int ((up2 J9 82 31 1) 180 v10.toNatClampNeg)], wT (up2 J9 82 31 1) R) o w
    refine D.run 4 rfl ?_
    refine D.st rfl (by decide) (gf_1 h82_4) ?_
    refine D.run 2 rfl ?_
    refine D.gd fun hg => ?_
    refine D.st rfl (by decide) (al_i (by decide) (by first | rfl | decide) hg.1 hg.2) ?_
    show _ → Rn E 230 (104, [.ref 82, .int a1, .int ((I (85 + 21) (I 82 32).toNatClampNeg) + a1), .int v10, .int ((up2 J9 82 31 1) 180 v10.toNatClampNeg), .int (-1), e5, e6, e7, e8], [.int ((up2 J9 82 31 1) (85 + 26) ((I (85 + 21) (I 82 32).toNatClampNeg) + a1).toNatClampNeg)], wT (up2 J9 82 31 1) R) o w
    refine D.run 1 rfl ?_
    refine D.letV (frame := fun v11 => (106, [.ref 82, .int a1, .int ((I (85 + 21) (I 82 32).toNatClampNeg) + a1), .int v10, .int ((up2 J9 82 31 1) 180 v10.toNatClampNeg), .int (-1), .int v11, e6, e7, e8], [], wT (up2 J9 82 31 1) R)) (fun v11 => ?_)
    refine D.run 2 rfl ?_
    have Kj189 : ∀ (q16 : Int32 × St), Dq (if (q16.2 82 31) = 0 then if inb ((I (85 + 21) (I 82 32).toNatClampNeg) + a1) 2400 then (x228 q16.2 (q16.2 (85 + 28) ((I (85 + 21) (I 82 32).toNatClampNeg) + a1).toNatClampNeg)).bind fun q17 => some q17 else none else (if q16.1 = (-1) then some q16.2 else if inb v10 16 then some (up2 q16.2 180 v10.toNatClampNeg q16.1) else none).bind fun (q18 : St) => (if v11 = 20 then some q18 else if v11 = 51 then some q18 else if v11 = 52 then some q18 else (x227 85 q18 (a1 + 1) (q16.2 82 29) (q16.2 82 30)).bind fun q19 => some q19).bind fun (q20 : St) => (if v11 < 20 then some q20 else if 36 < v11 then some q20 else if inb ((I (85 + 21) (I 82 32).toNatClampNeg) + a1) 2400 then if inb (q20 82 32) 24 then (x227 85 q20 ((q20 (85 + 33) ((I (85 + 21) (I 82 32).toNatClampNeg) + a1).toNatClampNeg) - (q20 (85 + 21) (q20 82 32).toNatClampNeg)) (q16.2 82 29) (q16.2 82 30)).bind fun q21 => some q21 else none else none).bind fun (q22 : St) => if inb v10 16 then (l230_323 85 ((I (85 + 21) (I 82 32).toNatClampNeg) + a1) 100000 0 (up2 q22 180 v10.toNatClampNeg ((up2 J9 82 31 1) 180 v10.toNatClampNeg))).bind fun q24 => some q24 else none) T → Rn E 230 (189, [.ref 82, .int a1, .int ((I (85 + 21) (I 82 32).toNatClampNeg) + a1), .int v10, .int ((up2 J9 82 31 1) 180 v10.toNatClampNeg), .int q16.1, .int v11, e6, e7, e8], [], wT q16.2 R) o w := by
      intro q16
      refine D.run 2 rfl ?_
      refine D.br rfl (by decide) rfl (fun hc => ?_) (fun hc => ?_)
      · refine D.run 2 rfl ?_
        refine D.st rfl (by decide) (gf_1 h82_4) ?_
        refine D.run 2 rfl ?_
        refine D.gd fun hg => ?_
        refine D.st rfl (by decide) (al_i (by decide) (by first | rfl | decide) hg.1 hg.2) ?_
        show _ → Rn E 230 (206, [.ref 82, .int a1, .int ((I (85 + 21) (I 82 32).toNatClampNeg) + a1), .int v10, .int ((up2 J9 82 31 1) 180 v10.toNatClampNeg), .int q16.1, .int v11, e6, e7, e8], [.int (q16.2 (85 + 28) ((I (85 + 21) (I 82 32).toNatClampNeg) + a1).toNatClampNeg), .ref 82], wT q16.2 R) o w
        refine D.call rfl rfl rfl rfl (fun q h => x228_ok h) (fun q17 => ?_)
        exact fun h => by obtain ⟨rfl, rfl⟩ := hT _ (D.some h); exact Rn.ret rfl rfl rfl
      · refine D.run 8 rfl ?_
        have Kj236 : ∀ (q18 : St), Dq ((if v11 = 20 then some q18 else if v11 = 51 then some q18 else if v11 = 52 then some q18 else (x227 85 q18 (a1 + 1) (q16.2 82 29) (q16.2 82 30)).bind fun q19 => some q19).bind fun (q20 : St) => (if v11 < 20 then some q20 else if 36 < v11 then some q20 else if inb ((I (85 + 21) (I 82 32).toNatClampNeg) + a1) 2400 then if inb (q20 82 32) 24 then (x227 85 q20 ((q20 (85 + 33) ((I (85 + 21) (I 82 32).toNatClampNeg) + a1).toNatClampNeg) - (q20 (85 + 21) (q20 82 32).toNatClampNeg)) (q16.2 82 29) (q16.2 82 30)).bind fun q21 => some q21 else none else none).bind fun (q22 : St) => if inb v10 16 then (l230_323 85 ((I (85 + 21) (I 82 32).toNatClampNeg) + a1) 100000 0 (up2 q22 180 v10.toNatClampNeg ((up2 J9 82 31 1) 180 v10.toNatClampNeg))).bind fun q24 => some q24 else none) T → Rn E 230 (236, [.ref 82, .int a1, .int ((I (85 + 21) (I 82 32).toNatClampNeg) + a1), .int v10, .int ((up2 J9 82 31 1) 180 v10.toNatClampNeg), .int q16.1, .int v11, .int (q16.2 82 29), .int (q16.2 82 30), e8], [], wT q18 R) o w := by
          intro q18
          refine D.run 2 rfl ?_
          have Kj268 : ∀ (q20 : St), Dq ((if v11 < 20 then some q20 else if 36 < v11 then some q20 else if inb ((I (85 + 21) (I 82 32).toNatClampNeg) + a1) 2400 then if inb (q20 82 32) 24 then (x227 85 q20 ((q20 (85 + 33) ((I (85 + 21) (I 82 32).toNatClampNeg) + a1).toNatClampNeg) - (q20 (85 + 21) (q20 82 32).toNatClampNeg)) (q16.2 82 29) (q16.2 82 30)).bind fun q21 => some q21 else none else none).bind fun (q22 : St) => if inb v10 16 then (l230_323 85 ((I (85 + 21) (I 82 32).toNatClampNeg) + a1) 100000 0 (up2 q22 180 v10.toNatClampNeg ((up2 J9 82 31 1) 180 v10.toNatClampNeg))).bind fun q24 => some q24 else none) T → Rn E 230 (268, [.ref 82, .int a1, .int ((I (85 + 21) (I 82 32).toNatClampNeg) + a1), .int v10, .int ((up2 J9 82 31 1) 180 v10.toNatClampNeg), .int q16.1, .int v11, .int (q16.2 82 29), .int (q16.2 82 30), e8], [], wT q20 R) o w := by
            intro q20
            refine D.run 2 rfl ?_
            have Kj312 : ∀ (q22 : St), Dq (if inb v10 16 then (l230_323 85 ((I (85 + 21) (I 82 32).toNatClampNeg) + a1) 100000 0 (up2 q22 180 v10.toNatClampNeg ((up2 J9 82 31 1) 180 v10.toNatClampNeg))).bind fun q24 => some q24 else none) T → Rn E 230 (312, [.ref 82, .int a1, .int ((I (85 + 21) (I 82 32).toNatClampNeg) + a1), .int v10, .int ((up2 J9 82 31 1) 180 v10.toNatClampNeg), .int q16.1, .int v11, .int (q16.2 82 29), .int (q16.2 82 30), e8], [], wT q22 R) o w := by
              intro q22
              refine D.run 4 rfl ?_
              refine D.gd fun hg => ?_
              refine D.st rfl (by decide) (as_i (by decide) (by first | rfl | decide) hg.1 hg.2) ?_
              refine D.run 2 rfl ?_
              refine D.bind (l230_323_ok (by decide) h82_4 (fun q24 e25 he25 e26 he26 e27 he27 e28 he28 e29 he29 e30 he30 e31 he31 e32 he32 e33 he33 => ?_) 100000 _ _ _ _ _ _ _ _ _ (by first | rfl | assumption) (by first | rfl | assumption) (by first | rfl | assumption) (by first | rfl | assumption) (by first | rfl | assumption) (by first | rfl | assumption) (by first | rfl | assumption))
              exact fun h => by obtain ⟨rfl, rfl⟩ := hT _ (D.some h); exact Rn.ret rfl rfl rfl
            refine D.jn (fun T312 c312 => ?_)
            refine D.br rfl (by decide) rfl (fun hc => ?_) (fun hc => ?_)
            · exact fun h => Kj312 _   (c312 _ (D.some h))
            · refine D.run 2 rfl ?_
              refine D.br rfl (by decide) rfl (fun hc => ?_) (fun hc => ?_)
              · exact fun h => Kj312 _   (c312 _ (D.some h))
              · refine D.run 2 rfl ?_
                refine D.st rfl (by decide) (gf_1 h82_4) ?_
                refine D.run 2 rfl ?_
                refine D.gd fun hg => ?_
                refine D.st rfl (by decide) (al_i (by decide) (by first | rfl | decide) hg.1 hg.2) ?_
                show _ → Rn E 230 (292, [.ref 82, .int a1, .int ((I (85 + 21) (I 82 32).toNatClampNeg) + a1), .int v10, .int ((up2 J9 82 31 1) 180 v10.toNatClampNeg), .int q16.1, .int v11, .int (q16.2 82 29), .int (q16.2 82 30), e8], [.int (q20 (85 + 33) ((I (85 + 21) (I 82 32).toNatClampNeg) + a1).toNatClampNeg), .ref 82], wT q20 R) o w
                refine D.run 1 rfl ?_
                refine D.st rfl (by decide) (gf_1 h82_4) ?_
                refine D.run 3 rfl ?_
                refine D.gd fun hg => ?_
                refine D.st rfl (by decide) (al_i (by decide) (by first | rfl | decide) hg.1 hg.2) ?_
                show _ → Rn E 230 (304, [.ref 82, .int a1, .int ((I (85 + 21) (I 82 32).toNatClampNeg) + a1), .int v10, .int ((up2 J9 82 31 1) 180 v10.toNatClampNeg), .int q16.1, .int v11, .int (q16.2 82 29), .int (q16.2 82 30), e8], [.int (q20 (85 + 21) (q20 82 32).toNatClampNeg), .int (q20 (85 + 33) ((I (85 + 21) (I 82 32).toNatClampNeg) + a1).toNatClampNeg), .ref 82], wT q20 R) o w
                refine D.run 3 rfl ?_
                refine D.call rfl rfl rfl rfl (fun q h => x227_ok (by decide) h82_4 h) (fun q21 => ?_)
                exact fun h => Kj312 _   (c312 _ (D.some h))
          refine D.jn (fun T268 c268 => ?_)
          refine D.br rfl (by decide) rfl (fun hc => ?_) (fun hc => ?_)
          · exact fun h => Kj268 _   (c268 _ (D.some h))
          · refine D.run 2 rfl ?_
            refine D.br rfl (by decide) rfl (fun hc => ?_) (fun hc => ?_)
            · exact fun h => Kj268 _   (c268 _ (D.some h))
            · refine D.run 2 rfl ?_
              refine D.br rfl (by decide) rfl (fun hc => ?_) (fun hc => ?_)
              · exact fun h => Kj268 _   (c268 _ (D.some h))
              · refine D.run 6 rfl ?_
                refine D.call rfl rfl rfl rfl (fun q h => x227_ok (by decide) h82_4 h) (fun q19 => ?_)
                exact fun h => Kj268 _   (c268 _ (D.some h))
        refine D.jn (fun T236 c236 => ?_)
        refine D.br rfl (by decide) rfl (fun hc => ?_) (fun hc => ?_)
        · exact fun h => Kj236 _   (c236 _ (D.some h))
        · refine D.run 4 rfl ?_
          refine D.gd fun hg => ?_
          refine D.st rfl (by decide) (as_i (by decide) (by first | rfl | decide) hg.1 hg.2) ?_
          exact fun h => Kj236 _   (c236 _ (D.some h))
    refine D.jn (fun T189 c189 => ?_)
    refine D.br rfl (by decide) rfl (fun hc => ?_) (fun hc => ?_)
    · refine D.run 2 rfl ?_
      refine D.call rfl rfl rfl rfl (fun q h => x231_ok h) (fun q12 => ?_)
      refine D.run 2 rfl ?_
      exact fun h => Kj189 _   (c189 _ (D.some h))
    · refine D.run 2 rfl ?_
      refine D.br rfl (by decide) rfl (fun hc => ?_) (fun hc => ?_)
      · refine D.run 3 rfl ?_
        have Kj146 : ∀ (q13 : Int32), Dq (if q13 = 0 ∨ q13 = 1 then (x232 (up2 (up2 J9 82 31 1) 82 31 q13) ((up2 J9 82 31 1) 180 v10.toNatClampNeg)).bind fun q14 => some ((-1), q14) else none) T189 → Rn E 230 (146, [.ref 82, .int a1, .int ((I (85 + 21) (I 82 32).toNatClampNeg) + a1), .int v10, .int ((up2 J9 82 31 1) 180 v10.toNatClampNeg), .int (-1), .int v11, e6, e7, e8], [.int q13, .ref 82], wT (up2 J9 82 31 1) R) o w := by
          intro q13
          refine D.gd fun hg => ?_
          refine D.st rfl (by decide) (pf_4 (by decide) rfl hg) ?_
          refine D.run 2 rfl ?_
          refine D.call rfl rfl rfl rfl (fun q h => x232_ok h) (fun q14 => ?_)
          refine D.run 1 rfl ?_
          exact fun h => Kj189 _   (c189 _ (D.some h))
        refine D.jn (fun T146 c146 => ?_)
        refine D.br rfl (by decide) rfl (fun hc => ?_) (fun hc => ?_)
        · refine D.run 2 rfl ?_
          exact fun h => Kj146 _   (c146 _ (D.some h))
        · refine D.run 2 rfl ?_
          refine D.br rfl (by decide) rfl (fun hc => ?_) (fun hc => ?_)
          · refine D.run 2 rfl ?_
            exact fun h => Kj146 _   (c146 _ (D.some h))
          · refine D.run 1 rfl ?_
            exact fun h => Kj146 _   (c146 _ (D.some h))
      · refine D.run 2 rfl ?_
        refine D.br rfl (by decide) rfl (fun hc => ?_) (fun hc => ?_)
        · refine D.run 3 rfl ?_
          refine D.br rfl (by decide) rfl (fun hc => ?_) (fun hc => ?_)
          · refine D.run 4 rfl ?_
            exact fun h => Kj189 _   (c189 _ (D.some h))
          · refine D.run 3 rfl ?_
            exact fun h => Kj189 _   (c189 _ (D.some h))
        · refine D.run 3 rfl ?_
          refine D.call rfl rfl rfl rfl (fun q h => x233_ok (by decide) h82_4 h) (fun q15 => ?_)
          exact fun h => Kj189 _   (c189 _ (D.some h))
  · refine D.run 1 rfl ?_
    refine D.st rfl (by decide) (gf_1 h82_4) ?_
    refine D.run 3 rfl ?_
    refine D.gd fun hg => ?_
    refine D.st rfl (by decide) (al_i (by decide) (by first | rfl | decide) hg.1 hg.2) ?_
    show _ → Rn E 230 (12, [.ref 82, .int a1, us, us, us, us, us, us, us, us], [.int (I (126 + 21) (I 82 32).toNatClampNeg)], wT I R) o w
    refine D.run 5 rfl ?_
    refine D.bind (l230_17_ok (by decide) h82_4 (fun q1 e2 he2 e3 he3 e4 he4 e5 he5 e6 he6 e7 he7 e8 he8 => ?_) 100000 _ _ _ _ _ _ _ _ (by first | rfl | assumption) (by first | rfl | assumption) (by first | rfl | assumption) (by first | rfl | assumption) (by first | rfl | assumption) (by first | rfl | assumption))
    refine D.run 4 rfl ?_
    refine D.gd fun hg => ?_
    refine D.st rfl (by decide) (al_i (by decide) (by first | rfl | decide) hg.1 hg.2) ?_
    refine D.run 5 rfl ?_
    refine D.gd fun hg => ?_
    refine D.st rfl (by decide) (al_i (by decide) (by first | rfl | decide) hg.1 hg.2) ?_
    show _ → Rn E 230 (63, [.ref 82, .int a1, .int ((I (126 + 21) (I 82 32).toNatClampNeg) + a1), e2, e3, e4, e5, e6, e7, e8], [.int ((up2 q1 82 29 (q1 177 a1.toNatClampNeg)) 178 a1.toNatClampNeg), .ref 82], wT (up2 q1 82 29 (q1 177 a1.toNatClampNeg)) R) o w
    refine D.run 1 rfl ?_
    refine D.letS (fun J9 => ?_)
    refine D.run 4 rfl ?_
    refine D.st rfl (by decide) (gf_1 h82_4) ?_
    refine D.run 2 rfl ?_
    refine D.gd fun hg => ?_
    refine D.st rfl (by decide) (al_i (by decide) (by first | rfl | decide) hg.1 hg.2) ?_
    show _ → Rn E 230 (80, [.ref 82, .int a1, .int ((I (126 + 21) (I 82 32).toNatClampNeg) + a1), e2, e3, e4, e5, e6, e7, e8], [.int ((up2 J9 82 31 1) (126 + 27) ((I (126 + 21) (I 82 32).toNatClampNeg) + a1).toNatClampNeg)], wT (up2 J9 82 31 1) R) o w
    refine D.run 3 rfl ?_
    refine D.letV (frame := fun v10 => (84, [.ref 82, .int a1, .int ((I (126 + 21) (I 82 32).toNatClampNeg) + a1), .int v10, e3, e4, e5, e6, e7, e8], [], wT (up2 J9 82 31 1) R)) (fun v10 => ?_)
    refine D.run 3 rfl ?_
    refine D.gd fun hg => ?_
    refine D.st rfl (by decide) (al_i (by decide) (by first | rfl | decide) hg.1 hg.2) ?_
    show _ → Rn E 230 (90, [.ref 82, .int a1, .int ((I (126 + 21) (I 82 32).toNatClampNeg) + a1), .int v10, e3, e4, e5, e6, e7, e8], [.int ((up2 J9 82 31 1) 180 v10.toNatClampNeg)], wT (up2 J9 82 31 1) R) o w
    refine D.run 4 rfl ?_
    refine D.st rfl (by decide) (gf_1 h82_4) ?_
    refine D.run 2 rfl ?_
    refine D.gd fun hg => ?_
    refine D.st rfl (by decide) (al_i (by decide) (by first | rfl | decide) hg.1 hg.2) ?_
    show _ → Rn E 230 (104, [.ref 82, .int a1, .int ((I (126 + 21) (I 82 32).toNatClampNeg) + a1), .int v10, .int ((up2 J9 82 31 1) 180 v10.toNatClampNeg), .int (-1), e5, e6, e7, e8], [.int ((up2 J9 82 31 1) (126 + 26) ((I (126 + 21) (I 82 32).toNatClampNeg) + a1).toNatClampNeg)], wT (up2 J9 82 31 1) R) o w
    refine D.run 1 rfl ?_
    refine D.letV (frame := fun v11 => (106, [.ref 82, .int a1, .int ((I (126 + 21) (I 82 32).toNatClampNeg) + a1), .int v10, .int ((up2 J9 82 31 1) 180 v10.toNatClampNeg), .int (-1), .int v11, e6, e7, e8], [], wT (up2 J9 82 31 1) R)) (fun v11 => ?_)
    refine D.run 2 rfl ?_
    have Kj189 : ∀ (q16 : Int32 × St), Dq (if (q16.2 82 31) = 0 then if inb ((I (126 + 21) (I 82 32).toNatClampNeg) + a1) 2400 then (x228 q16.2 (q16.2 (126 + 28) ((I (126 + 21) (I 82 32).toNatClampNeg) + a1).toNatClampNeg)).bind fun q17 => some q17 else none else (if q16.1 = (-1) then some q16.2 else if inb v10 16 then some (up2 q16.2 180 v10.toNatClampNeg q16.1) else none).bind fun (q18 : St) => (if v11 = 20 then some q18 else if v11 = 51 then some q18 else if v11 = 52 then some q18 else (x227 126 q18 (a1 + 1) (q16.2 82 29) (q16.2 82 30)).bind fun q19 => some q19).bind fun (q20 : St) => (if v11 < 20 then some q20 else if 36 < v11 then some q20 else if inb ((I (126 + 21) (I 82 32).toNatClampNeg) + a1) 2400 then if inb (q20 82 32) 24 then (x227 126 q20 ((q20 (126 + 33) ((I (126 + 21) (I 82 32).toNatClampNeg) + a1).toNatClampNeg) - (q20 (126 + 21) (q20 82 32).toNatClampNeg)) (q16.2 82 29) (q16.2 82 30)).bind fun q21 => some q21 else none else none).bind fun (q22 : St) => if inb v10 16 then (l230_323 126 ((I (126 + 21) (I 82 32).toNatClampNeg) + a1) 100000 0 (up2 q22 180 v10.toNatClampNeg ((up2 J9 82 31 1) 180 v10.toNatClampNeg))).bind fun q24 => some q24 else none) T → Rn E 230 (189, [.ref 82, .int a1, .int ((I (126 + 21) (I 82 32).toNatClampNeg) + a1), .int v10, .int ((up2 J9 82 31 1) 180 v10.toNatClampNeg), .int q16.1, .int v11, e6, e7, e8], [], wT q16.2 R) o w := by
      intro q16
      refine D.run 2 rfl ?_
      refine D.br rfl (by decide) rfl (fun hc => ?_) (fun hc => ?_)
      · refine D.run 2 rfl ?_
        refine D.st rfl (by decide) (gf_1 h82_4) ?_
        refine D.run 2 rfl ?_
        refine D.gd fun hg => ?_
        refine D.st rfl (by decide) (al_i (by decide) (by first | rfl | decide) hg.1 hg.2) ?_
        show _ → Rn E 230 (206, [.ref 82, .int a1, .int ((I (126 + 21) (I 82 32).toNatClampNeg) + a1), .int v10, .int ((up2 J9 82 31 1) 180 v10.toNatClampNeg), .int q16.1, .int v11, e6, e7, e8], [.int (q16.2 (126 + 28) ((I (126 + 21) (I 82 32).toNatClampNeg) + a1).toNatClampNeg), .ref 82], wT q16.2 R) o w
        refine D.call rfl rfl rfl rfl (fun q h => x228_ok h) (fun q17 => ?_)
        exact fun h => by obtain ⟨rfl, rfl⟩ := hT _ (D.some h); exact Rn.ret rfl rfl rfl
      · refine D.run 8 rfl ?_
        have Kj236 : ∀ (q18 : St), Dq ((if v11 = 20 then some q18 else if v11 = 51 then some q18 else if v11 = 52 then some q18 else (x227 126 q18 (a1 + 1) (q16.2 82 29) (q16.2 82 30)).bind fun q19 => some q19).bind fun (q20 : St) => (if v11 < 20 then some q20 else if 36 < v11 then some q20 else if inb ((I (126 + 21) (I 82 32).toNatClampNeg) + a1) 2400 then if inb (q20 82 32) 24 then (x227 126 q20 ((q20 (126 + 33) ((I (126 + 21) (I 82 32).toNatClampNeg) + a1).toNatClampNeg) - (q20 (126 + 21) (q20 82 32).toNatClampNeg)) (q16.2 82 29) (q16.2 82 30)).bind fun q21 => some q21 else none else none).bind fun (q22 : St) => if inb v10 16 then (l230_323 126 ((I (126 + 21) (I 82 32).toNatClampNeg) + a1) 100000 0 (up2 q22 180 v10.toNatClampNeg ((up2 J9 82 31 1) 180 v10.toNatClampNeg))).bind fun q24 => some q24 else none) T → Rn E 230 (236, [.ref 82, .int a1, .int ((I (126 + 21) (I 82 32).toNatClampNeg) + a1), .int v10, .int ((up2 J9 82 31 1) 180 v10.toNatClampNeg), .int q16.1, .int v11, .int (q16.2 82 29), .int (q16.2 82 30), e8], [], wT q18 R) o w := by
          intro q18
          refine D.run 2 rfl ?_
          have Kj268 : ∀ (q20 : St), Dq ((if v11 < 20 then some q20 else if 36 < v11 then some q20 else if inb ((I (126 + 21) (I 82 32).toNatClampNeg) + a1) 2400 then if inb (q20 82 32) 24 then (x227 126 q20 ((q20 (126 + 33) ((I (126 + 21) (I 82 32).toNatClampNeg) + a1).toNatClampNeg) - (q20 (126 + 21) (q20 82 32).toNatClampNeg)) (q16.2 82 29) (q16.2 82 30)).bind fun q21 => some q21 else none else none).bind fun (q22 : St) => if inb v10 16 then (l230_323 126 ((I (126 + 21) (I 82 32).toNatClampNeg) + a1) 100000 0 (up2 q22 180 v10.toNatClampNeg ((up2 J9 82 31 1) 180 v10.toNatClampNeg))).bind fun q24 => some q24 else none) T → Rn E 230 (268, [.ref 82, .int a1, .int ((I (126 + 21) (I 82 32).toNatClampNeg) + a1), .int v10, .int ((up2 J9 82 31 1) 180 v10.toNatClampNeg), .int q16.1, .int v11, .int (q16.2 82 29), .int (q16.2 82 30), e8], [], wT q20 R) o w := by
            intro q20
            refine D.run 2 rfl ?_
            have Kj312 : ∀ (q22 : St), Dq (if inb v10 16 then (l230_323 126 ((I (126 + 21) (I 82 32).toNatClampNeg) + a1) 100000 0 (up2 q22 180 v10.toNatClampNeg ((up2 J9 82 31 1) 180 v10.toNatClampNeg))).bind fun q24 => some q24 else none) T → Rn E 230 (312, [.ref 82, .int a1, .int ((I (126 + 21) (I 82 32).toNatClampNeg) + a1), .int v10, .int ((up2 J9 82 31 1) 180 v10.toNatClampNeg), .int q16.1, .int v11, .int (q16.2 82 29), .int (q16.2 82 30), e8], [], wT q22 R) o w := by
              intro q22
              refine D.run 4 rfl ?_
              refine D.gd fun hg => ?_
              refine D.st rfl (by decide) (as_i (by decide) (by first | rfl | decide) hg.1 hg.2) ?_
              refine D.run 2 rfl ?_
              refine D.bind (l230_323_ok (by decide) h82_4 (fun q24 e25 he25 e26 he26 e27 he27 e28 he28 e29 he29 e30 he30 e31 he31 e32 he32 e33 he33 => ?_) 100000 _ _ _ _ _ _ _ _ _ (by first | rfl | assumption) (by first | rfl | assumption) (by first | rfl | assumption) (by first | rfl | assumption) (by first | rfl | assumption) (by first | rfl | assumption) (by first | rfl | assumption))
              exact fun h => by obtain ⟨rfl, rfl⟩ := hT _ (D.some h); exact Rn.ret rfl rfl rfl
            refine D.jn (fun T312 c312 => ?_)
            refine D.br rfl (by decide) rfl (fun hc => ?_) (fun hc => ?_)
            · exact fun h => Kj312 _   (c312 _ (D.some h))
            · refine D.run 2 rfl ?_
              refine D.br rfl (by decide) rfl (fun hc => ?_) (fun hc => ?_)
              · exact fun h => Kj312 _   (c312 _ (D.some h))
              · refine D.run 2 rfl ?_
                refine D.st rfl (by decide) (gf_1 h82_4) ?_
                refine D.run 2 rfl ?_
                refine D.gd fun hg => ?_
                refine D.st rfl (by decide) (al_i (by decide) (by first | rfl | decide) hg.1 hg.2) ?_
                show _ → Rn E 230 (292, [.ref 82, .int a1, .int ((I (126 + 21) (I 82 32).toNatClampNeg) + a1), .int v10, .int ((up2 J9 82 31 1) 180 v10.toNatClampNeg), .int q16.1, .int v11, .int (q16.2 82 29), .int (q16.2 82 30), e8], [.int (q20 (126 + 33) ((I (126 + 21) (I 82 32).toNatClampNeg) + a1).toNatClampNeg), .ref 82], wT q20 R) o w
                refine D.run 1 rfl ?_
                refine D.st rfl (by decide) (gf_1 h82_4) ?_
                refine D.run 3 rfl ?_
                refine D.gd fun hg => ?_
                refine D.st rfl (by decide) (al_i (by decide) (by first | rfl | decide) hg.1 hg.2) ?_
                show _ → Rn E 230 (304, [.ref 82, .int a1, .int ((I (126 + 21) (I 82 32).toNatClampNeg) + a1), .int v10, .int ((up2 J9 82 31 1) 180 v10.toNatClampNeg), .int q16.1, .int v11, .int (q16.2 82 29), .int (q16.2 82 30), e8], [.int (q20 (126 + 21) (q20 82 32).toNatClampNeg), .int (q20 (126 + 33) ((I (126 + 21) (I 82 32).toNatClampNeg) + a1).toNatClampNeg), .ref 82], wT q20 R) o w
                refine D.run 3 rfl ?_
                refine D.call rfl rfl rfl rfl (fun q h => x227_ok (by decide) h82_4 h) (fun q21 => ?_)
                exact fun h => Kj312 _   (c312 _ (D.some h))
          refine D.jn (fun T268 c268 => ?_)
          refine D.br rfl (by decide) rfl (fun hc => ?_) (fun hc => ?_)
          · exact fun h => Kj268 _   (c268 _ (D.some h))
          · refine D.run 2 rfl ?_
            refine D.br rfl (by decide) rfl (fun hc => ?_) (fun hc => ?_)
            · exact fun h => Kj268 _   (c268 _ (D.some h))
            · refine D.run 2 rfl ?_
              refine D.br rfl (by decide) rfl (fun hc => ?_) (fun hc => ?_)
              · exact fun h => Kj268 _   (c268 _ (D.some h))
              · refine D.run 6 rfl ?_
                refine D.call rfl rfl rfl rfl (fun q h => x227_ok (by decide) h82_4 h) (fun q19 => ?_)
                exact fun h => Kj268 _   (c268 _ (D.some h))
        refine D.jn (fun T236 c236 => ?_)
        refine D.br rfl (by decide) rfl (fun hc => ?_) (fun hc => ?_)
        · exact fun h => Kj236 _   (c236 _ (D.some h))
        · refine D.run 4 rfl ?_
          refine D.gd fun hg => ?_
          refine D.st rfl (by decide) (as_i (by decide) (by first | rfl | decide) hg.1 hg.2) ?_
          exact fun h => Kj236 _   (c236 _ (D.some h))
    refine D.jn (fun T189 c189 => ?_)
    refine D.br rfl (by decide) rfl (fun hc => ?_) (fun hc => ?_)
    · refine D.run 2 rfl ?_
      refine D.call rfl rfl rfl rfl (fun q h => x231_ok h) (fun q12 => ?_)
      refine D.run 2 rfl ?_
      exact fun h => Kj189 _   (c189 _ (D.some h))
    · refine D.run 2 rfl ?_
      refine D.br rfl (by decide) rfl (fun hc => ?_) (fun hc => ?_)
      · refine D.run 3 rfl ?_
        have Kj146 : ∀ (q13 : Int32), Dq (if q13 = 0 ∨ q13 = 1 then (x232 (up2 (up2 J9 82 31 1) 82 31 q13) ((up2 J9 82 31 1) 180 v10.toNatClampNeg)).bind fun q14 => some ((-1), q14) else none) T189 → Rn E 230 (146, [.ref 82, .int a1, .int ((I (126 + 21) (I 82 32).toNatClampNeg) + a1), .int v10, .int ((up2 J9 82 31 1) 180 v10.toNatClampNeg), .int (-1), .int v11, e6, e7, e8], [.int q13, .ref 82], wT (up2 J9 82 31 1) R) o w := by
          intro q13
          refine D.gd fun hg => ?_
          refine D.st rfl (by decide) (pf_4 (by decide) rfl hg) ?_
          refine D.run 2 rfl ?_
          refine D.call rfl rfl rfl rfl (fun q h => x232_ok h) (fun q14 => ?_)
          refine D.run 1 rfl ?_
          exact fun h => Kj189 _   (c189 _ (D.some h))
        refine D.jn (fun T146 c146 => ?_)
        refine D.br rfl (by decide) rfl (fun hc => ?_) (fun hc => ?_)
        · refine D.run 2 rfl ?_
          exact fun h => Kj146 _   (c146 _ (D.some h))
        · refine D.run 2 rfl ?_
          refine D.br rfl (by decide) rfl (fun hc => ?_) (fun hc => ?_)
          · refine D.run 2 rfl ?_
            exact fun h => Kj146 _   (c146 _ (D.some h))
          · refine D.run 1 rfl ?_
            exact fun h => Kj146 _   (c146 _ (D.some h))
      · refine D.run 2 rfl ?_
        refine D.br rfl (by decide) rfl (fun hc => ?_) (fun hc => ?_)
        · refine D.run 3 rfl ?_
          refine D.br rfl (by decide) rfl (fun hc => ?_) (fun hc => ?_)
          · refine D.run 4 rfl ?_
            exact fun h => Kj189 _   (c189 _ (D.some h))
          · refine D.run 3 rfl ?_
            exact fun h => Kj189 _   (c189 _ (D.some h))
        · refine D.run 3 rfl ?_
          refine D.call rfl rfl rfl rfl (fun q h => x233_ok (by decide) h82_4 h) (fun q15 => ?_)
          exact fun h => Kj189 _   (c189 _ (D.some h))
set_option maxRecDepth 20000 in
set_option maxHeartbeats 30000000 in
theorem x230_ok {E : Xe} {R : Nat → Nat → Option Nat} {Z : Nat} {I : St} (hZ : Z = 85 ∨ Z = 126) (h82_4 : R 82 4 = some Z) {a1 : Int32} {q : St} (h : x230 Z I a1 = some q) : Rn E 230 (0, loc0 230 [.ref 82, .int a1], [], wT I R) (.returned none) (wT q R) := x230_D hZ h82_4 _ (T := fun r => r = q) (by rintro r rfl; exact ⟨rfl, rfl⟩) ⟨_, h, rfl⟩
/-- TaintHouseModel.reckon(II)V -/
def x242 (Q : Nat) (I : St) (a1 a2 : Int32) : Option (St) := (x240 I).bind fun q1 => (x240 q1.2).bind fun q2 => if a2 = 11 then if q1.1 = 0 then (x243 Q q2.2 5 ((q1.2 82 66) ||| (q2.2 82 66))).bind fun q3 => some q3 else (x248 q2.2 (a2 - 8) q2.1 q1.1).bind fun q4 => (x239 q2.2 q4 ((q1.2 82 66) ||| (q2.2 82 66))).bind fun q5 => some (up2 q5 82 64 (a1 + 1)) else if a2 = 12 then if q1.1 = 0 then (x243 Q q2.2 5 ((q1.2 82 66) ||| (q2.2 82 66))).bind fun q6 => some q6 else (x248 q2.2 (a2 - 8) q2.1 q1.1).bind fun q7 => (x239 q2.2 q7 ((q1.2 82 66) ||| (q2.2 82 66))).bind fun q8 => some (up2 q8 82 64 (a1 + 1)) else (x248 q2.2 (a2 - 8) q2.1 q1.1).bind fun q9 => (x239 q2.2 q9 ((q1.2 82 66) ||| (q2.2 82 66))).bind fun q10 => some (up2 q10 82 64 (a1 + 1))
set_option maxRecDepth 20000 in
set_option maxHeartbeats 30000000 in
theorem x242_D {E : Xe} {R : Nat → Nat → Option Nat} {Q : Nat} {o : Outcome} {w : Wd} {T : (St) → Prop} {I : St} (hQ : Q = 85 ∨ Q = 126) (h82_3 : R 82 3 = some Q) (a1 a2 : Int32) (hT : ∀ r, T r → o = .returned none ∧ w = wT r R) : Dq (x242 Q I a1 a2) T → Rn E 242 (0, loc0 242 [.ref 82, .int a1, .int a2], [], wT I R) o w := by
  unfold x242
  rcases hQ with rfl | rfl
  all_goals
    refine D.run 1 rfl ?_
    refine D.call rfl rfl rfl rfl (fun q h => x240_ok h) (fun q1 => ?_)
    refine D.run 5 rfl ?_
    refine D.call rfl rfl rfl rfl (fun q h => x240_ok h) (fun q2 => ?_)
    refine D.run 8 rfl ?_
    refine D.br rfl (by decide) rfl (fun hc => ?_) (fun hc => ?_)
    · refine D.run 1 rfl ?_
      refine D.br rfl (by decide) rfl (fun hc => ?_) (fun hc => ?_)
      · refine D.run 3 rfl ?_
        refine D.call rfl rfl rfl rfl (fun q h => x243_ok (by decide) h82_3 h) (fun q3 => ?_)
        exact fun h => by obtain ⟨rfl, rfl⟩ := hT _ (D.some h); exact Rn.ret rfl rfl rfl
      · refine D.run 6 rfl ?_
        refine D.call rfl rfl rfl rfl (fun q h => x248_ok h) (fun q4 => ?_)
        refine D.run 1 rfl ?_
        refine D.call rfl rfl rfl rfl (fun q h => x239_ok h) (fun q5 => ?_)
        refine D.run 5 rfl ?_
        exact fun h => by obtain ⟨rfl, rfl⟩ := hT _ (D.some h); exact Rn.ret rfl rfl rfl
    · refine D.run 2 rfl ?_
      refine D.br rfl (by decide) rfl (fun hc => ?_) (fun hc => ?_)
      · refine D.run 1 rfl ?_
        refine D.br rfl (by decide) rfl (fun hc => ?_) (fun hc => ?_)
        · refine D.run 3 rfl ?_
          refine D.call rfl rfl rfl rfl (fun q h => x243_ok (by decide) h82_3 h) (fun q6 => ?_)
          exact fun h => by obtain ⟨rfl, rfl⟩ := hT _ (D.some h); exact Rn.ret rfl rfl rfl
        · refine D.run 6 rfl ?_
          refine D.call rfl rfl rfl rfl (fun q h => x248_ok h) (fun q7 => ?_)
          refine D.run 1 rfl ?_
          refine D.call rfl rfl rfl rfl (fun q h => x239_ok h) (fun q8 => ?_)
          refine D.run 5 rfl ?_
          exact fun h => by obtain ⟨rfl, rfl⟩ := hT _ (D.some h); exact Rn.ret rfl rfl rfl
      · refine D.run 6 rfl ?_
        refine D.call rfl rfl rfl rfl (fun q h => x248_ok h) (fun q9 => ?_)
        refine D.run 1 rfl ?_
        refine D.call rfl rfl rfl rfl (fun q h => x239_ok h) (fun q10 => ?_)
        refine D.run 5 rfl ?_
        exact fun h => by obtain ⟨rfl, rfl⟩ := hT _ (D.some h); exact Rn.ret rfl rfl rfl
set_option maxRecDepth 20000 in
set_option maxHeartbeats 30000000 in
theorem x242_ok {E : Xe} {R : Nat → Nat → Option Nat} {Q : Nat} {I : St} (hQ : Q = 85 ∨ Q = 126) (h82_3 : R 82 3 = some Q) {a1 a2 : Int32} {q : St} (h : x242 Q I a1 a2 = some q) : Rn E 242 (0, loc0 242 [.ref 82, .int a1, .int a2], [], wT I R) (.returned none) (wT q R) := x242_D hQ h82_3 _ _ (T := fun r => r = q) (by rintro r rfl; exact ⟨rfl, rfl⟩) ⟨_, h, rfl⟩
/-- TaintHouseModel.parts(II)V -/
def x251 (Q : Nat) (I : St) (a1 a2 : Int32) : Option (St) := if a2 = 37 then if inb a1 2400 then if inb a1 2400 then (x252 Q I (I (Q + 33) a1.toNatClampNeg)).bind fun q1 => (x244 I (I (Q + 33) a1.toNatClampNeg) q1).bind fun q2 => if (q2.2 82 34) = 6 then some q2.2 else (x239 q2.2 q2.1 0).bind fun q3 => some (up2 q3 82 64 (a1 + 1)) else none else none else if a2 = 38 then (x253 Q I a1 a2).bind fun q4 => some q4 else if a2 = 39 then (x253 Q I a1 a2).bind fun q5 => some q5 else if a2 = 40 then if inb a1 2400 then if inb (I (Q + 27) a1.toNatClampNeg) 16 then if inb a1 2400 then if inb (I (Q + 27) a1.toNatClampNeg) 16 then (x239 I (I 187 (I (Q + 27) a1.toNatClampNeg).toNatClampNeg) (I 188 (I (Q + 27) a1.toNatClampNeg).toNatClampNeg)).bind fun q6 => some (up2 q6 82 64 (a1 + 1)) else none else none else none else none else if a2 = 41 then (x240 I).bind fun q7 => if inb a1 2400 then if inb (q7.2 (Q + 27) a1.toNatClampNeg) 16 then if inb a1 2400 then if inb ((up2 q7.2 187 (q7.2 (Q + 27) a1.toNatClampNeg).toNatClampNeg q7.1) (Q + 27) a1.toNatClampNeg) 16 then Lt (up2 (up2 q7.2 187 (q7.2 (Q + 27) a1.toNatClampNeg).toNatClampNeg q7.1) 188 ((up2 q7.2 187 (q7.2 (Q + 27) a1.toNatClampNeg).toNatClampNeg q7.1) (Q + 27) a1.toNatClampNeg).toNatClampNeg (q7.2 82 66)) fun J8 => some (up2 J8 82 64 (a1 + 1)) else none else none else none else none else if a2 = 42 then (x256 Q I a1 a2).bind fun q9 => some q9 else if a2 = 43 then (x256 Q I a1 a2).bind fun q10 => some q10 else if a2 = 44 then (x257 Q I a1 a2).bind fun q11 => some q11 else if a2 = 45 then (x257 Q I a1 a2).bind fun q12 => some q12 else if a2 = 46 then (x257 Q I a1 a2).bind fun q13 => some q13 else if a2 = 47 then (x257 Q I a1 a2).bind fun q14 => some q14 else if a2 = 48 then (x258 Q I a1).bind fun q15 => some q15 else if a2 = 49 then (x259 Q I a1 a2).bind fun q16 => some q16 else if a2 = 50 then (x259 Q I a1 a2).bind fun q17 => some q17 else if a2 = 51 then (x260 Q I).bind fun q18 => some q18 else if a2 = 52 then (x240 I).bind fun q19 => if q19.1 = 0 then (x243 Q q19.2 2 (q19.2 82 66)).bind fun q20 => some q20 else (x245 Q q19.2 q19.1 (q19.2 82 66)).bind fun q21 => some q21 else if a2 = 53 then (x240 I).bind fun q22 => (if q22.1 = 0 then some 0 else if inb a1 2400 then (x246 Q q22.2 q22.1 (q22.2 (Q + 33) a1.toNatClampNeg)).bind fun q23 => if q23 = 0 then some 0 else some 1 else none).bind fun (q24 : Int32) => (x239 q22.2 q24 (q22.2 82 66)).bind fun q25 => some (up2 q25 82 64 (a1 + 1)) else (x240 I).bind fun q26 => if q26.1 = 0 then (x239 q26.2 q26.1 (q26.2 82 66)).bind fun q27 => some (up2 q27 82 64 (a1 + 1)) else if inb a1 2400 then (x246 Q q26.2 q26.1 (q26.2 (Q + 33) a1.toNatClampNeg)).bind fun q28 => if q28 = 0 then (x243 Q q26.2 6 (q26.2 82 66)).bind fun q29 => some q29 else (x239 q26.2 q26.1 (q26.2 82 66)).bind fun q30 => some (up2 q30 82 64 (a1 + 1)) else none
set_option maxRecDepth 20000 in
set_option maxHeartbeats 30000000 in
theorem x251_D {E : Xe} {R : Nat → Nat → Option Nat} {Q : Nat} {o : Outcome} {w : Wd} {T : (St) → Prop} {I : St} (hQ : Q = 85 ∨ Q = 126) (h82_3 : R 82 3 = some Q) (a1 a2 : Int32) (hT : ∀ r, T r → o = .returned none ∧ w = wT r R) : Dq (x251 Q I a1 a2) T → Rn E 251 (0, loc0 251 [.ref 82, .int a1, .int a2], [], wT I R) o w := by
  unfold x251
  rcases hQ with rfl | rfl
  · refine D.run 1 rfl ?_
    refine D.sw rfl (by decide) rfl ?_
    show _ → Rn E 251 (swT [(37, 84), (38, 137), (39, 137), (40, 146), (41, 188), (42, 236), (43, 236), (44, 245), (45, 245), (46, 245), (47, 245), (48, 254), (49, 262), (50, 262), (51, 271), (52, 278), (53, 311)] 360 _, _, _, _) _ _
    refine D.swc (fun hc => ?_) (fun hc => ?_)
    · refine D.run 2 rfl ?_
      refine D.st rfl (by decide) (gf_1 h82_3) ?_
      refine D.run 2 rfl ?_
      refine D.gd fun hg => ?_
      refine D.st rfl (by decide) (al_i (by decide) (by first | rfl | decide) hg.1 hg.2) ?_
      show _ → Rn E 251 (94, [.ref 82, .int a1, .int a2, us], [.int (I (85 + 33) a1.toNatClampNeg), .ref 82], wT I R) o w
      refine D.run 2 rfl ?_
      refine D.st rfl (by decide) (gf_1 h82_3) ?_
      refine D.run 2 rfl ?_
      refine D.gd fun hg => ?_
      refine D.st rfl (by decide) (al_i (by decide) (by first | rfl | decide) hg.1 hg.2) ?_
      show _ → Rn E 251 (104, [.ref 82, .int a1, .int a2, us], [.int (I (85 + 33) a1.toNatClampNeg), .ref 82, .int (I (85 + 33) a1.toNatClampNeg), .ref 82], wT I R) o w
      refine D.call rfl rfl rfl rfl (fun q h => x252_ok (by decide) h82_3 h) (fun q1 => ?_)
      refine D.call rfl rfl rfl rfl (fun q h => x244_ok h) (fun q2 => ?_)
      refine D.run 4 rfl ?_
      refine D.br rfl (by decide) rfl (fun hc => ?_) (fun hc => ?_)
      · exact fun h => by obtain ⟨rfl, rfl⟩ := hT _ (D.some h); exact Rn.ret rfl rfl rfl
      · refine D.run 3 rfl ?_
        refine D.call rfl rfl rfl rfl (fun q h => x239_ok h) (fun q3 => ?_)
        refine D.run 6 rfl ?_
        exact fun h => by obtain ⟨rfl, rfl⟩ := hT _ (D.some h); exact Rn.ret rfl rfl rfl
    · refine D.swc (fun hc => ?_) (fun hc => ?_)
      · refine D.run 3 rfl ?_
        refine D.call rfl rfl rfl rfl (fun q h => x253_ok (by decide) h82_3 h) (fun q4 => ?_)
        refine D.run 1 rfl ?_
        exact fun h => by obtain ⟨rfl, rfl⟩ := hT _ (D.some h); exact Rn.ret rfl rfl rfl
      · refine D.swc (fun hc => ?_) (fun hc => ?_)
        · refine D.run 3 rfl ?_
          refine D.call rfl rfl rfl rfl (fun q h => x253_ok (by decide) h82_3 h) (fun q5 => ?_)
          refine D.run 1 rfl ?_
          exact fun h => by obtain ⟨rfl, rfl⟩ := hT _ (D.some h); exact Rn.ret rfl rfl rfl
        · refine D.swc (fun hc => ?_) (fun hc => ?_)
          · refine D.run 4 rfl ?_
            refine D.st rfl (by decide) (gf_1 h82_3) ?_
            refine D.run 2 rfl ?_
            refine D.gd fun hg => ?_
            refine D.st rfl (by decide) (al_i (by decide) (by first | rfl | decide) hg.1 hg.2) ?_
            show _ → Rn E 251 (160, [.ref 82, .int a1, .int a2, us], [.int (I (85 + 27) a1.toNatClampNeg), .ref 187, .ref 82], wT I R) o w
            refine D.gd fun hg => ?_
            refine D.st rfl (by decide) (al_i (by decide) (by first | rfl | decide) hg.1 hg.2) ?_
            refine D.run 3 rfl ?_
            refine D.st rfl (by decide) (gf_1 h82_3) ?_
            refine D.run 2 rfl ?_
            refine D.gd fun hg => ?_
            refine D.st rfl (by decide) (al_i (by decide) (by first | rfl | decide) hg.1 hg.2) ?_
            show _ → Rn E 251 (174, [.ref 82, .int a1, .int a2, us], [.int (I (85 + 27) a1.toNatClampNeg), .ref 188, .int (I 187 (I (85 + 27) a1.toNatClampNeg).toNatClampNeg), .ref 82], wT I R) o w
            refine D.gd fun hg => ?_
            refine D.st rfl (by decide) (al_i (by decide) (by first | rfl | decide) hg.1 hg.2) ?_
            refine D.call rfl rfl rfl rfl (fun q h => x239_ok h) (fun q6 => ?_)
            refine D.run 6 rfl ?_
            exact fun h => by obtain ⟨rfl, rfl⟩ := hT _ (D.some h); exact Rn.ret rfl rfl rfl
          · refine D.swc (fun hc => ?_) (fun hc => ?_)
            · refine D.run 1 rfl ?_
              refine D.call rfl rfl rfl rfl (fun q h => x240_ok h) (fun q7 => ?_)
              refine D.run 4 rfl ?_
              refine D.st rfl (by decide) (gf_1 h82_3) ?_
              refine D.run 2 rfl ?_
              refine D.gd fun hg => ?_
              refine D.st rfl (by decide) (al_i (by decide) (by first | rfl | decide) hg.1 hg.2) ?_
              show _ → Rn E 251 (206, [.ref 82, .int a1, .int a2, .int q7.1], [.int (q7.2 (85 + 27) a1.toNatClampNeg), .ref 187], wT q7.2 R) o w
              refine D.run 1 rfl ?_
              refine D.gd fun hg => ?_
              refine D.st rfl (by decide) (as_i (by decide) (by first | rfl | decide) hg.1 hg.2) ?_
              refine D.run 3 rfl ?_
              refine D.st rfl (by decide) (gf_1 h82_3) ?_
              show _ → Rn E 251 (216, [.ref 82, .int a1, .int a2, .int q7.1], [.ref 85, .ref 188], wT (up2 q7.2 187 (q7.2 (85 + 27) a1.toNatClampNeg).toNatClampNeg q7.1) R) o w
              refine D.run 2 rfl ?_
              refine D.gd fun hg => ?_
              refine D.st rfl (by decide) (al_i (by decide) (by first | rfl | decide) hg.1 hg.2) ?_
              refine D.run 2 rfl ?_
              refine D.gd fun hg => ?_
              refine D.st rfl (by decide) (as_i (by decide) (by first | rfl | decide) hg.1 hg.2) ?_
              refine D.letS (fun J8 => ?_)
              show _ → Rn E 251 (226, [.ref 82, .int a1, .int a2, .int q7.1], [], wT J8 R) o w
              refine D.run 6 rfl ?_
              exact fun h => by obtain ⟨rfl, rfl⟩ := hT _ (D.some h); exact Rn.ret rfl rfl rfl
            · refine D.swc (fun hc => ?_) (fun hc => ?_)
              · refine D.run 3 rfl ?_
                refine D.call rfl rfl rfl rfl (fun q h => x256_ok (by decide) h82_3 h) (fun q9 => ?_)
                refine D.run 1 rfl ?_
                exact fun h => by obtain ⟨rfl, rfl⟩ := hT _ (D.some h); exact Rn.ret rfl rfl rfl
              · refine D.swc (fun hc => ?_) (fun hc => ?_)
                · refine D.run 3 rfl ?_
                  refine D.call rfl rfl rfl rfl (fun q h => x256_ok (by decide) h82_3 h) (fun q10 => ?_)
                  refine D.run 1 rfl ?_
                  exact fun h => by obtain ⟨rfl, rfl⟩ := hT _ (D.some h); exact Rn.ret rfl rfl rfl
                · refine D.swc (fun hc => ?_) (fun hc => ?_)
                  · refine D.run 3 rfl ?_
                    refine D.call rfl rfl rfl rfl (fun q h => x257_ok (by decide) h82_3 h) (fun q11 => ?_)
                    refine D.run 1 rfl ?_
                    exact fun h => by obtain ⟨rfl, rfl⟩ := hT _ (D.some h); exact Rn.ret rfl rfl rfl
                  · refine D.swc (fun hc => ?_) (fun hc => ?_)
                    · refine D.run 3 rfl ?_
                      refine D.call rfl rfl rfl rfl (fun q h => x257_ok (by decide) h82_3 h) (fun q12 => ?_)
                      refine D.run 1 rfl ?_
                      exact fun h => by obtain ⟨rfl, rfl⟩ := hT _ (D.some h); exact Rn.ret rfl rfl rfl
                    · refine D.swc (fun hc => ?_) (fun hc => ?_)
                      · refine D.run 3 rfl ?_
                        refine D.call rfl rfl rfl rfl (fun q h => x257_ok (by decide) h82_3 h) (fun q13 => ?_)
                        refine D.run 1 rfl ?_
                        exact fun h => by obtain ⟨rfl, rfl⟩ := hT _ (D.some h); exact Rn.ret rfl rfl rfl
                      · refine D.swc (fun hc => ?_) (fun hc => ?_)
                        · refine D.run 3 rfl ?_
                          refine D.call rfl rfl rfl rfl (fun q h => x257_ok (by decide) h82_3 h) (fun q14 => ?_)
                          refine D.run 1 rfl ?_
                          exact fun h => by obtain ⟨rfl, rfl⟩ := hT _ (D.some h); exact Rn.ret rfl rfl rfl
                        · refine D.swc (fun hc => ?_) (fun hc => ?_)
                          · refine D.run 2 rfl ?_
                            refine D.call rfl rfl rfl rfl (fun q h => x258_ok (by decide) h82_3 h) (fun q15 => ?_)
                            refine D.run 1 rfl ?_
                            exact fun h => by obtain ⟨rfl, rfl⟩ := hT _ (D.some h); exact Rn.ret rfl rfl rfl
                          · refine D.swc (fun hc => ?_) (fun hc => ?_)
                            · refine D.run 3 rfl ?_
                              refine D.call rfl rfl rfl rfl (fun q h => x259_ok (by decide) h82_3 h) (fun q16 => ?_)
                              refine D.run 1 rfl ?_
                              exact fun h => by obtain ⟨rfl, rfl⟩ := hT _ (D.some h); exact Rn.ret rfl rfl rfl
                            · refine D.swc (fun hc => ?_) (fun hc => ?_)
                              · refine D.run 3 rfl ?_
                                refine D.call rfl rfl rfl rfl (fun q h => x259_ok (by decide) h82_3 h) (fun q17 => ?_)
                                refine D.run 1 rfl ?_
                                exact fun h => by obtain ⟨rfl, rfl⟩ := hT _ (D.some h); exact Rn.ret rfl rfl rfl
                              · refine D.swc (fun hc => ?_) (fun hc => ?_)
                                · refine D.run 1 rfl ?_
                                  refine D.call rfl rfl rfl rfl (fun q h => x260_ok (by decide) h82_3 h) (fun q18 => ?_)
                                  refine D.run 1 rfl ?_
                                  exact fun h => by obtain ⟨rfl, rfl⟩ := hT _ (D.some h); exact Rn.ret rfl rfl rfl
                                · refine D.swc (fun hc => ?_) (fun hc => ?_)
                                  · refine D.run 1 rfl ?_
                                    refine D.call rfl rfl rfl rfl (fun q h => x240_ok h) (fun q19 => ?_)
                                    refine D.run 2 rfl ?_
                                    refine D.br rfl (by decide) rfl (fun hc => ?_) (fun hc => ?_)
                                    · refine D.run 4 rfl ?_
                                      refine D.call rfl rfl rfl rfl (fun q h => x243_ok (by decide) h82_3 h) (fun q20 => ?_)
                                      refine D.run 1 rfl ?_
                                      exact fun h => by obtain ⟨rfl, rfl⟩ := hT _ (D.some h); exact Rn.ret rfl rfl rfl
                                    · refine D.run 4 rfl ?_
                                      refine D.call rfl rfl rfl rfl (fun q h => x245_ok (by decide) h82_3 h) (fun q21 => ?_)
                                      refine D.run 1 rfl ?_
                                      exact fun h => by obtain ⟨rfl, rfl⟩ := hT _ (D.some h); exact Rn.ret rfl rfl rfl
                                  · refine D.swc (fun hc => ?_) (fun hc => ?_)
                                    · refine D.run 1 rfl ?_
                                      refine D.call rfl rfl rfl rfl (fun q h => x240_ok h) (fun q22 => ?_)
                                      refine D.run 3 rfl ?_
                                      have Kj343 : ∀ (q24 : Int32), Dq ((x239 q22.2 q24 (q22.2 82 66)).bind fun q25 => some (up2 q25 82 64 (a1 + 1))) T → Rn E 251 (343, [.ref 82, .int a1, .int a2, .int q22.1], [.int q24, .ref 82], wT q22.2 R) o w := by
                                        intro q24
                                        refine D.run 2 rfl ?_
                                        refine D.call rfl rfl rfl rfl (fun q h => x239_ok h) (fun q25 => ?_)
                                        refine D.run 6 rfl ?_
                                        exact fun h => by obtain ⟨rfl, rfl⟩ := hT _ (D.some h); exact Rn.ret rfl rfl rfl
                                      refine D.jn (fun T343 c343 => ?_)
                                      refine D.br rfl (by decide) rfl (fun hc => ?_) (fun hc => ?_)
                                      · refine D.run 1 rfl ?_
                                        exact fun h => Kj343 _   (c343 _ (D.some h))
                                      · refine D.run 3 rfl ?_
                                        refine D.st rfl (by decide) (gf_1 h82_3) ?_
                                        refine D.run 2 rfl ?_
                                        refine D.gd fun hg => ?_
                                        refine D.st rfl (by decide) (al_i (by decide) (by first | rfl | decide) hg.1 hg.2) ?_
                                        show _ → Rn E 251 (332, [.ref 82, .int a1, .int a2, .int q22.1], [.int (q22.2 (85 + 33) a1.toNatClampNeg), .int q22.1, .ref 82, .ref 82], wT q22.2 R) o w
                                        refine D.call rfl rfl rfl rfl (fun q h => x246_ok (by decide) h82_3 h) (fun q23 => ?_)
                                        refine D.br rfl (by decide) rfl (fun hc => ?_) (fun hc => ?_)
                                        · refine D.run 1 rfl ?_
                                          exact fun h => Kj343 _   (c343 _ (D.some h))
                                        · refine D.run 2 rfl ?_
                                          exact fun h => Kj343 _   (c343 _ (D.some h))
                                    · refine D.run 1 rfl ?_
                                      refine D.call rfl rfl rfl rfl (fun q h => x240_ok h) (fun q26 => ?_)
                                      refine D.run 2 rfl ?_
                                      refine D.br rfl (by decide) rfl (fun hc => ?_) (fun hc => ?_)
                                      · refine D.run 4 rfl ?_
                                        refine D.call rfl rfl rfl rfl (fun q h => x239_ok h) (fun q27 => ?_)
                                        refine D.run 6 rfl ?_
                                        exact fun h => by obtain ⟨rfl, rfl⟩ := hT _ (D.some h); exact Rn.ret rfl rfl rfl
                                      · refine D.run 3 rfl ?_
                                        refine D.st rfl (by decide) (gf_1 h82_3) ?_
                                        refine D.run 2 rfl ?_
                                        refine D.gd fun hg => ?_
                                        refine D.st rfl (by decide) (al_i (by decide) (by first | rfl | decide) hg.1 hg.2) ?_
                                        show _ → Rn E 251 (380, [.ref 82, .int a1, .int a2, .int q26.1], [.int (q26.2 (85 + 33) a1.toNatClampNeg), .int q26.1, .ref 82], wT q26.2 R) o w
                                        refine D.call rfl rfl rfl rfl (fun q h => x246_ok (by decide) h82_3 h) (fun q28 => ?_)
                                        refine D.br rfl (by decide) rfl (fun hc => ?_) (fun hc => ?_)
                                        · refine D.run 4 rfl ?_
                                          refine D.call rfl rfl rfl rfl (fun q h => x243_ok (by decide) h82_3 h) (fun q29 => ?_)
                                          refine D.run 1 rfl ?_
                                          exact fun h => by obtain ⟨rfl, rfl⟩ := hT _ (D.some h); exact Rn.ret rfl rfl rfl
                                        · refine D.run 4 rfl ?_
                                          refine D.call rfl rfl rfl rfl (fun q h => x239_ok h) (fun q30 => ?_)
                                          refine D.run 6 rfl ?_
                                          exact fun h => by obtain ⟨rfl, rfl⟩ := hT _ (D.some h); exact Rn.ret rfl rfl rfl
  · refine D.run 1 rfl ?_
    refine D.sw rfl (by decide) rfl ?_
    show _ → Rn E 251 (swT [(37, 84), (38, 137), (39, 137), (40, 146), (41, 188), (42, 236), (43, 236), (44, 245), (45, 245), (46, 245), (47, 245), (48, 254), (49, 262), (50, 262), (51, 271), (52, 278), (53, 311)] 360 _, _, _, _) _ _
    refine D.swc (fun hc => ?_) (fun hc => ?_)
    · refine D.run 2 rfl ?_
      refine D.st rfl (by decide) (gf_1 h82_3) ?_
      refine D.run 2 rfl ?_
      refine D.gd fun hg => ?_
      refine D.st rfl (by decide) (al_i (by decide) (by first | rfl | decide) hg.1 hg.2) ?_
      show _ → Rn E 251 (94, [.ref 82, .int a1, .int a2, us], [.int (I (126 + 33) a1.toNatClampNeg), .ref 82], wT I R) o w
      refine D.run 2 rfl ?_
      refine D.st rfl (by decide) (gf_1 h82_3) ?_
      refine D.run 2 rfl ?_
      refine D.gd fun hg => ?_
      refine D.st rfl (by decide) (al_i (by decide) (by first | rfl | decide) hg.1 hg.2) ?_
      show _ → Rn E 251 (104, [.ref 82, .int a1, .int a2, us], [.int (I (126 + 33) a1.toNatClampNeg), .ref 82, .int (I (126 + 33) a1.toNatClampNeg), .ref 82], wT I R) o w
      refine D.call rfl rfl rfl rfl (fun q h => x252_ok (by decide) h82_3 h) (fun q1 => ?_)
      refine D.call rfl rfl rfl rfl (fun q h => x244_ok h) (fun q2 => ?_)
      refine D.run 4 rfl ?_
      refine D.br rfl (by decide) rfl (fun hc => ?_) (fun hc => ?_)
      · exact fun h => by obtain ⟨rfl, rfl⟩ := hT _ (D.some h); exact Rn.ret rfl rfl rfl
      · refine D.run 3 rfl ?_
        refine D.call rfl rfl rfl rfl (fun q h => x239_ok h) (fun q3 => ?_)
        refine D.run 6 rfl ?_
        exact fun h => by obtain ⟨rfl, rfl⟩ := hT _ (D.some h); exact Rn.ret rfl rfl rfl
    · refine D.swc (fun hc => ?_) (fun hc => ?_)
      · refine D.run 3 rfl ?_
        refine D.call rfl rfl rfl rfl (fun q h => x253_ok (by decide) h82_3 h) (fun q4 => ?_)
        refine D.run 1 rfl ?_
        exact fun h => by obtain ⟨rfl, rfl⟩ := hT _ (D.some h); exact Rn.ret rfl rfl rfl
      · refine D.swc (fun hc => ?_) (fun hc => ?_)
        · refine D.run 3 rfl ?_
          refine D.call rfl rfl rfl rfl (fun q h => x253_ok (by decide) h82_3 h) (fun q5 => ?_)
          refine D.run 1 rfl ?_
          exact fun h => by obtain ⟨rfl, rfl⟩ := hT _ (D.some h); exact Rn.ret rfl rfl rfl
        · refine D.swc (fun hc => ?_) (fun hc => ?_)
          · refine D.run 4 rfl ?_
            refine D.st rfl (by decide) (gf_1 h82_3) ?_
            refine D.run 2 rfl ?_
            refine D.gd fun hg => ?_
            refine D.st rfl (by decide) (al_i (by decide) (by first | rfl | decide) hg.1 hg.2) ?_
            show _ → Rn E 251 (160, [.ref 82, .int a1, .int a2, us], [.int (I (126 + 27) a1.toNatClampNeg), .ref 187, .ref 82], wT I R) o w
            refine D.gd fun hg => ?_
            refine D.st rfl (by decide) (al_i (by decide) (by first | rfl | decide) hg.1 hg.2) ?_
            refine D.run 3 rfl ?_
            refine D.st rfl (by decide) (gf_1 h82_3) ?_
            refine D.run 2 rfl ?_
            refine D.gd fun hg => ?_
            refine D.st rfl (by decide) (al_i (by decide) (by first | rfl | decide) hg.1 hg.2) ?_
            show _ → Rn E 251 (174, [.ref 82, .int a1, .int a2, us], [.int (I (126 + 27) a1.toNatClampNeg), .ref 188, .int (I 187 (I (126 + 27) a1.toNatClampNeg).toNatClampNeg), .ref 82], wT I R) o w
            refine D.gd fun hg => ?_
            refine D.st rfl (by decide) (al_i (by decide) (by first | rfl | decide) hg.1 hg.2) ?_
            refine D.call rfl rfl rfl rfl (fun q h => x239_ok h) (fun q6 => ?_)
            refine D.run 6 rfl ?_
            exact fun h => by obtain ⟨rfl, rfl⟩ := hT _ (D.some h); exact Rn.ret rfl rfl rfl
          · refine D.swc (fun hc => ?_) (fun hc => ?_)
            · refine D.run 1 rfl ?_
              refine D.call rfl rfl rfl rfl (fun q h => x240_ok h) (fun q7 => ?_)
              refine D.run 4 rfl ?_
              refine D.st rfl (by decide) (gf_1 h82_3) ?_
              refine D.run 2 rfl ?_
              refine D.gd fun hg => ?_
              refine D.st rfl (by decide) (al_i (by decide) (by first | rfl | decide) hg.1 hg.2) ?_
              show _ → Rn E 251 (206, [.ref 82, .int a1, .int a2, .int q7.1], [.int (q7.2 (126 + 27) a1.toNatClampNeg), .ref 187], wT q7.2 R) o w
              refine D.run 1 rfl ?_
              refine D.gd fun hg => ?_
              refine D.st rfl (by decide) (as_i (by decide) (by first | rfl | decide) hg.1 hg.2) ?_
              refine D.run 3 rfl ?_
              refine D.st rfl (by decide) (gf_1 h82_3) ?_
              show _ → Rn E 251 (216, [.ref 82, .int a1, .int a2, .int q7.1], [.ref 126, .ref 188], wT (up2 q7.2 187 (q7.2 (126 + 27) a1.toNatClampNeg).toNatClampNeg q7.1) R) o w
              refine D.run 2 rfl ?_
              refine D.gd fun hg => ?_
              refine D.st rfl (by decide) (al_i (by decide) (by first | rfl | decide) hg.1 hg.2) ?_
              refine D.run 2 rfl ?_
              refine D.gd fun hg => ?_
              refine D.st rfl (by decide) (as_i (by decide) (by first | rfl | decide) hg.1 hg.2) ?_
              refine D.letS (fun J8 => ?_)
              show _ → Rn E 251 (226, [.ref 82, .int a1, .int a2, .int q7.1], [], wT J8 R) o w
              refine D.run 6 rfl ?_
              exact fun h => by obtain ⟨rfl, rfl⟩ := hT _ (D.some h); exact Rn.ret rfl rfl rfl
            · refine D.swc (fun hc => ?_) (fun hc => ?_)
              · refine D.run 3 rfl ?_
                refine D.call rfl rfl rfl rfl (fun q h => x256_ok (by decide) h82_3 h) (fun q9 => ?_)
                refine D.run 1 rfl ?_
                exact fun h => by obtain ⟨rfl, rfl⟩ := hT _ (D.some h); exact Rn.ret rfl rfl rfl
              · refine D.swc (fun hc => ?_) (fun hc => ?_)
                · refine D.run 3 rfl ?_
                  refine D.call rfl rfl rfl rfl (fun q h => x256_ok (by decide) h82_3 h) (fun q10 => ?_)
                  refine D.run 1 rfl ?_
                  exact fun h => by obtain ⟨rfl, rfl⟩ := hT _ (D.some h); exact Rn.ret rfl rfl rfl
                · refine D.swc (fun hc => ?_) (fun hc => ?_)
                  · refine D.run 3 rfl ?_
                    refine D.call rfl rfl rfl rfl (fun q h => x257_ok (by decide) h82_3 h) (fun q11 => ?_)
                    refine D.run 1 rfl ?_
                    exact fun h => by obtain ⟨rfl, rfl⟩ := hT _ (D.some h); exact Rn.ret rfl rfl rfl
                  · refine D.swc (fun hc => ?_) (fun hc => ?_)
                    · refine D.run 3 rfl ?_
                      refine D.call rfl rfl rfl rfl (fun q h => x257_ok (by decide) h82_3 h) (fun q12 => ?_)
                      refine D.run 1 rfl ?_
                      exact fun h => by obtain ⟨rfl, rfl⟩ := hT _ (D.some h); exact Rn.ret rfl rfl rfl
                    · refine D.swc (fun hc => ?_) (fun hc => ?_)
                      · refine D.run 3 rfl ?_
                        refine D.call rfl rfl rfl rfl (fun q h => x257_ok (by decide) h82_3 h) (fun q13 => ?_)
                        refine D.run 1 rfl ?_
                        exact fun h => by obtain ⟨rfl, rfl⟩ := hT _ (D.some h); exact Rn.ret rfl rfl rfl
                      · refine D.swc (fun hc => ?_) (fun hc => ?_)
                        · refine D.run 3 rfl ?_
                          refine D.call rfl rfl rfl rfl (fun q h => x257_ok (by decide) h82_3 h) (fun q14 => ?_)
                          refine D.run 1 rfl ?_
                          exact fun h => by obtain ⟨rfl, rfl⟩ := hT _ (D.some h); exact Rn.ret rfl rfl rfl
                        · refine D.swc (fun hc => ?_) (fun hc => ?_)
                          · refine D.run 2 rfl ?_
                            refine D.call rfl rfl rfl rfl (fun q h => x258_ok (by decide) h82_3 h) (fun q15 => ?_)
                            refine D.run 1 rfl ?_
                            exact fun h => by obtain ⟨rfl, rfl⟩ := hT _ (D.some h); exact Rn.ret rfl rfl rfl
                          · refine D.swc (fun hc => ?_) (fun hc => ?_)
                            · refine D.run 3 rfl ?_
                              refine D.call rfl rfl rfl rfl (fun q h => x259_ok (by decide) h82_3 h) (fun q16 => ?_)
                              refine D.run 1 rfl ?_
                              exact fun h => by obtain ⟨rfl, rfl⟩ := hT _ (D.some h); exact Rn.ret rfl rfl rfl
                            · refine D.swc (fun hc => ?_) (fun hc => ?_)
                              · refine D.run 3 rfl ?_
                                refine D.call rfl rfl rfl rfl (fun q h => x259_ok (by decide) h82_3 h) (fun q17 => ?_)
                                refine D.run 1 rfl ?_
                                exact fun h => by obtain ⟨rfl, rfl⟩ := hT _ (D.some h); exact Rn.ret rfl rfl rfl
                              · refine D.swc (fun hc => ?_) (fun hc => ?_)
                                · refine D.run 1 rfl ?_
                                  refine D.call rfl rfl rfl rfl (fun q h => x260_ok (by decide) h82_3 h) (fun q18 => ?_)
                                  refine D.run 1 rfl ?_
                                  exact fun h => by obtain ⟨rfl, rfl⟩ := hT _ (D.some h); exact Rn.ret rfl rfl rfl
                                · refine D.swc (fun hc => ?_) (fun hc => ?_)
                                  · refine D.run 1 rfl ?_
                                    refine D.call rfl rfl rfl rfl (fun q h => x240_ok h) (fun q19 => ?_)
                                    refine D.run 2 rfl ?_
                                    refine D.br rfl (by decide) rfl (fun hc => ?_) (fun hc => ?_)
                                    · refine D.run 4 rfl ?_
                                      refine D.call rfl rfl rfl rfl (fun q h => x243_ok (by decide) h82_3 h) (fun q20 => ?_)
                                      refine D.run 1 rfl ?_
                                      exact fun h => by obtain ⟨rfl, rfl⟩ := hT _ (D.some h); exact Rn.ret rfl rfl rfl
                                    · refine D.run 4 rfl ?_
                                      refine D.call rfl rfl rfl rfl (fun q h => x245_ok (by decide) h82_3 h) (fun q21 => ?_)
                                      refine D.run 1 rfl ?_
                                      exact fun h => by obtain ⟨rfl, rfl⟩ := hT _ (D.some h); exact Rn.ret rfl rfl rfl
                                  · refine D.swc (fun hc => ?_) (fun hc => ?_)
                                    · refine D.run 1 rfl ?_
                                      refine D.call rfl rfl rfl rfl (fun q h => x240_ok h) (fun q22 => ?_)
                                      refine D.run 3 rfl ?_
                                      have Kj343 : ∀ (q24 : Int32), Dq ((x239 q22.2 q24 (q22.2 82 66)).bind fun q25 => some (up2 q25 82 64 (a1 + 1))) T → Rn E 251 (343, [.ref 82, .int a1, .int a2, .int q22.1], [.int q24, .ref 82], wT q22.2 R) o w := by
                                        intro q24
                                        refine D.run 2 rfl ?_
                                        refine D.call rfl rfl rfl rfl (fun q h => x239_ok h) (fun q25 => ?_)
                                        refine D.run 6 rfl ?_
                                        exact fun h => by obtain ⟨rfl, rfl⟩ := hT _ (D.some h); exact Rn.ret rfl rfl rfl
                                      refine D.jn (fun T343 c343 => ?_)
                                      refine D.br rfl (by decide) rfl (fun hc => ?_) (fun hc => ?_)
                                      · refine D.run 1 rfl ?_
                                        exact fun h => Kj343 _   (c343 _ (D.some h))
                                      · refine D.run 3 rfl ?_
                                        refine D.st rfl (by decide) (gf_1 h82_3) ?_
                                        refine D.run 2 rfl ?_
                                        refine D.gd fun hg => ?_
                                        refine D.st rfl (by decide) (al_i (by decide) (by first | rfl | decide) hg.1 hg.2) ?_
                                        show _ → Rn E 251 (332, [.ref 82, .int a1, .int a2, .int q22.1], [.int (q22.2 (126 + 33) a1.toNatClampNeg), .int q22.1, .ref 82, .ref 82], wT q22.2 R) o w
                                        refine D.call rfl rfl rfl rfl (fun q h => x246_ok (by decide) h82_3 h) (fun q23 => ?_)
                                        refine D.br rfl (by decide) rfl (fun hc => ?_) (fun hc => ?_)
                                        · refine D.run 1 rfl ?_
                                          exact fun h => Kj343 _   (c343 _ (D.some h))
                                        · refine D.run 2 rfl ?_
                                          exact fun h => Kj343 _   (c343 _ (D.some h))
                                    · refine D.run 1 rfl ?_
                                      refine D.call rfl rfl rfl rfl (fun q h => x240_ok h) (fun q26 => ?_)
                                      refine D.run 2 rfl ?_
                                      refine D.br rfl (by decide) rfl (fun hc => ?_) (fun hc => ?_)
                                      · refine D.run 4 rfl ?_
                                        refine D.call rfl rfl rfl rfl (fun q h => x239_ok h) (fun q27 => ?_)
                                        refine D.run 6 rfl ?_
                                        exact fun h => by obtain ⟨rfl, rfl⟩ := hT _ (D.some h); exact Rn.ret rfl rfl rfl
                                      · refine D.run 3 rfl ?_
                                        refine D.st rfl (by decide) (gf_1 h82_3) ?_
                                        refine D.run 2 rfl ?_
                                        refine D.gd fun hg => ?_
                                        refine D.st rfl (by decide) (al_i (by decide) (by first | rfl | decide) hg.1 hg.2) ?_
                                        show _ → Rn E 251 (380, [.ref 82, .int a1, .int a2, .int q26.1], [.int (q26.2 (126 + 33) a1.toNatClampNeg), .int q26.1, .ref 82], wT q26.2 R) o w
                                        refine D.call rfl rfl rfl rfl (fun q h => x246_ok (by decide) h82_3 h) (fun q28 => ?_)
                                        refine D.br rfl (by decide) rfl (fun hc => ?_) (fun hc => ?_)
                                        · refine D.run 4 rfl ?_
                                          refine D.call rfl rfl rfl rfl (fun q h => x243_ok (by decide) h82_3 h) (fun q29 => ?_)
                                          refine D.run 1 rfl ?_
                                          exact fun h => by obtain ⟨rfl, rfl⟩ := hT _ (D.some h); exact Rn.ret rfl rfl rfl
                                        · refine D.run 4 rfl ?_
                                          refine D.call rfl rfl rfl rfl (fun q h => x239_ok h) (fun q30 => ?_)
                                          refine D.run 6 rfl ?_
                                          exact fun h => by obtain ⟨rfl, rfl⟩ := hT _ (D.some h); exact Rn.ret rfl rfl rfl
set_option maxRecDepth 20000 in
set_option maxHeartbeats 30000000 in
theorem x251_ok {E : Xe} {R : Nat → Nat → Option Nat} {Q : Nat} {I : St} (hQ : Q = 85 ∨ Q = 126) (h82_3 : R 82 3 = some Q) {a1 a2 : Int32} {q : St} (h : x251 Q I a1 a2 = some q) : Rn E 251 (0, loc0 251 [.ref 82, .int a1, .int a2], [], wT I R) (.returned none) (wT q R) := x251_D hQ h82_3 _ _ (T := fun r => r = q) (by rintro r rfl; exact ⟨rfl, rfl⟩) ⟨_, h, rfl⟩
/-- TaintHouse$Parser.readText(LTaintHouse$Program;)I -/
def l53_36 (P : Nat) : Nat → Int32 → St → Option (St)
  | 0, _, _ => none
  | n + 1, b2, I => if 4000 < b2 then some I else if (I 56 5) = (-1) then if (I 56 4) = 3 then some I else if (I 56 4) = 0 then (x55 P I).bind fun q3 => l53_36 P n (b2 + 1) q3 else if (I 56 4) = 1 then (x63 P I).bind fun q4 => l53_36 P n (b2 + 1) q4 else (x71 P I).bind fun q5 => l53_36 P n (b2 + 1) q5 else some I
set_option maxRecDepth 20000 in
set_option maxHeartbeats 30000000 in
theorem l53_36_ok {E : Xe} {R : Nat → Nat → Option Nat} {P : Nat} {o : Outcome} {w : Wd} {T : (St) → Prop} (hP : P = 3 ∨ P = 18) (h56_2 : R 56 2 = some P) (K : ∀ (q : St) (e2 : Value) (_ : is1 e2 = true), T q → Rn E 53 (98, [.ref 56, .ref P, e2], [], wT q R) o w) : ∀ (n : Nat) (b2 : Int32) (I : St), Dq (l53_36 P n b2 I) T → Rn E 53 (36, [.ref 56, .ref P, .int b2], [], wT I R) o w := by
  rcases hP with rfl | rfl
  all_goals
    intro n
    induction n with
    | zero => intro b2 I; exact D.none
    | succ n ih =>
      intro b2 I
      rw [l53_36]
      refine D.run 2 rfl ?_
      refine D.br rfl (by decide) rfl (fun hc => ?_) (fun hc => ?_)
      · exact fun h => D.to h (K _ _ (by first | rfl | assumption))
      · refine D.run 3 rfl ?_
        refine D.br rfl (by decide) rfl (fun hc => ?_) (fun hc => ?_)
        · refine D.run 3 rfl ?_
          refine D.br rfl (by decide) rfl (fun hc => ?_) (fun hc => ?_)
          · exact fun h => D.to h (K _ _ (by first | rfl | assumption))
          · refine D.run 2 rfl ?_
            refine D.br rfl (by decide) rfl (fun hc => ?_) (fun hc => ?_)
            · refine D.run 1 rfl ?_
              refine D.call rfl rfl rfl rfl (fun q h => x55_ok (by decide) h56_2 h) (fun q3 => ?_)
              refine D.run 3 rfl ?_
              exact ih _ _ 
            · refine D.run 3 rfl ?_
              refine D.br rfl (by decide) rfl (fun hc => ?_) (fun hc => ?_)
              · refine D.run 1 rfl ?_
                refine D.call rfl rfl rfl rfl (fun q h => x63_ok (by decide) h56_2 h) (fun q4 => ?_)
                refine D.run 3 rfl ?_
                exact ih _ _ 
              · refine D.run 1 rfl ?_
                refine D.call rfl rfl rfl rfl (fun q h => x71_ok (by decide) h56_2 h) (fun q5 => ?_)
                refine D.run 2 rfl ?_
                exact ih _ _ 
        · exact fun h => D.to h (K _ _ (by first | rfl | assumption))
def x53 (P : Nat) (I : St) : Option (Int32 × St) := (x4 P I).bind fun q1 => (x54 q1).bind fun q2 => (l53_36 P 100000 0 (up2 (up2 (up2 q2 56 3 0) 56 4 0) 56 5 (-1))).bind fun q6 => some ((q6 56 5), q6)
set_option maxRecDepth 20000 in
set_option maxHeartbeats 30000000 in
theorem x53_D {E : Xe} {R : Nat → Nat → Option Nat} {P : Nat} {o : Outcome} {w : Wd} {T : (Int32 × St) → Prop} {I : St} (hP : P = 3 ∨ P = 18) (h56_2 : R 56 2 = some P) (hT : ∀ r, T r → o = .returned (some (.int r.1)) ∧ w = wT r.2 (up2 R 56 2 (some P))) : Dq (x53 P I) T → Rn E 53 (0, loc0 53 [.ref 56, .ref P], [], wT I R) o w := by
  unfold x53
  rcases hP with rfl | rfl
  · refine D.run 4 rfl ?_
    refine D.st rfl (by decide) (gf_1 rfl) ?_
    refine D.call rfl rfl rfl rfl (fun q h => x4_ok (by decide) h) (fun q1 => ?_)
    refine D.run 2 rfl ?_
    refine D.call rfl rfl rfl rfl (fun q h => x54_ok h) (fun q2 => ?_)
    show _ → Rn E 53 (19, [.ref 56, .ref 3, us], [], wT q2 (up2 R 56 2 (some 3))) o w
    refine D.run 11 rfl ?_
    refine D.bind (l53_36_ok (by decide) rfl (fun q6 e7 he7 => ?_) 100000 _  _ )
    refine D.run 2 rfl ?_
    exact fun h => by obtain ⟨rfl, rfl⟩ := hT _ (D.some h); exact Rn.ret rfl rfl rfl
  · refine D.run 4 rfl ?_
    refine D.st rfl (by decide) (gf_1 rfl) ?_
    refine D.call rfl rfl rfl rfl (fun q h => x4_ok (by decide) h) (fun q1 => ?_)
    refine D.run 2 rfl ?_
    refine D.call rfl rfl rfl rfl (fun q h => x54_ok h) (fun q2 => ?_)
    show _ → Rn E 53 (19, [.ref 56, .ref 18, us], [], wT q2 (up2 R 56 2 (some 18))) o w
    refine D.run 11 rfl ?_
    refine D.bind (l53_36_ok (by decide) rfl (fun q6 e7 he7 => ?_) 100000 _  _ )
    refine D.run 2 rfl ?_
    exact fun h => by obtain ⟨rfl, rfl⟩ := hT _ (D.some h); exact Rn.ret rfl rfl rfl
set_option maxRecDepth 20000 in
set_option maxHeartbeats 30000000 in
theorem x53_ok {E : Xe} {R : Nat → Nat → Option Nat} {P : Nat} {I : St} (hP : P = 3 ∨ P = 18) (h56_2 : R 56 2 = some P) {q : Int32 × St} (h : x53 P I = some q) : Rn E 53 (0, loc0 53 [.ref 56, .ref P], [], wT I R) (.returned (some (.int q.1))) (wT q.2 (up2 R 56 2 (some P))) := x53_D hP h56_2 (T := fun r => r = q) (by rintro r rfl; exact ⟨rfl, rfl⟩) ⟨_, h, rfl⟩
/-- TaintHouse$Verifier.visit(I)V -/
def l106_199 (P : Nat) (b1 : Int32) (b4 : Int32) : Nat → Int32 → St → Option (St)
  | 0, _, _ => none
  | n + 1, b5, I => if b4 ≤ b5 then some I else if b1 < (tget I (P + 11) b5 0) then l106_199 P b1 b4 n (b5 + 1) I else if (tget I (P + 11) b5 1) ≤ b1 then l106_199 P b1 b4 n (b5 + 1) I else (x101 P I (tget I (P + 11) b5 2)).bind fun q11 => l106_199 P b1 b4 n (b5 + 1) q11
set_option maxRecDepth 20000 in
set_option maxHeartbeats 30000000 in
theorem l106_199_ok {E : Xe} {R : Nat → Nat → Option Nat} {P : Nat} {o : Outcome} {w : Wd} {T : (St) → Prop} {b1 : Int32} {b4 : Int32} (hP : P = 3 ∨ P = 18) (h58_2 : R 58 2 = some P) (K : ∀ (q : St) (e1 : Value) (_ : is1 e1 = true) (e2 : Value) (_ : is1 e2 = true) (e3 : Value) (_ : is1 e3 = true) (e4 : Value) (_ : is1 e4 = true) (e5 : Value) (_ : is1 e5 = true), T q → Rn E 106 (263, [.ref 58, e1, e2, e3, e4, e5], [], wT q R) o w) : ∀ (n : Nat) (b5 : Int32) (d2 : Value) (d3 : Value) (I : St), is1 d2 = true → is1 d3 = true → Dq (l106_199 P b1 b4 n b5 I) T → Rn E 106 (199, [.ref 58, .int b1, d2, d3, .int b4, .int b5], [], wT I R) o w := by
  rcases hP with rfl | rfl
  all_goals
    intro n
    induction n with
    | zero => intro b5 d2 d3 I hd2 hd3; exact D.none
    | succ n ih =>
      intro b5 d2 d3 I hd2 hd3
      rw [l106_199]
      refine D.run 2 rfl ?_
      refine D.br rfl (by decide) rfl (fun hc => ?_) (fun hc => ?_)
      · exact fun h => D.to h (K _ _ (by first | rfl | assumption) _ (by first | rfl | assumption) _ (by first | rfl | assumption) _ (by first | rfl | assumption) _ (by first | rfl | assumption))
      · refine D.run 2 rfl ?_
        refine D.st rfl (by decide) (gf_1 h58_2) ?_
        refine D.run 3 rfl ?_
        refine D.ce rfl rfl rfl rfl (tget_ok (by decide) (by first | rfl | decide) _ _) ?_
        refine D.br rfl (by decide) rfl (fun hc => ?_) (fun hc => ?_)
        · refine D.run 2 rfl ?_
          exact ih _ _ _ _ (by first | rfl | assumption) (by first | rfl | assumption)
        · refine D.run 2 rfl ?_
          refine D.st rfl (by decide) (gf_1 h58_2) ?_
          refine D.run 3 rfl ?_
          refine D.ce rfl rfl rfl rfl (tget_ok (by decide) (by first | rfl | decide) _ _) ?_
          refine D.br rfl (by decide) rfl (fun hc => ?_) (fun hc => ?_)
          · refine D.run 2 rfl ?_
            exact ih _ _ _ _ (by first | rfl | assumption) (by first | rfl | assumption)
          · refine D.run 2 rfl ?_
            refine D.st rfl (by decide) (gf_1 h58_2) ?_
            refine D.run 3 rfl ?_
            refine D.ce rfl rfl rfl rfl (tget_ok (by decide) (by first | rfl | decide) _ _) ?_
            refine D.call rfl rfl rfl rfl (fun q h => x101_ok (by decide) h58_2 h) (fun q11 => ?_)
            show _ → Rn E 106 (257, [.ref 58, .int b1, d2, d3, .int b4, .int b5], [], wT q11 R) o w
            refine D.run 2 rfl ?_
            exact ih _ _ _ _ (by first | rfl | assumption) (by first | rfl | assumption)
def x106 (P : Nat) (I : St) (a1 : Int32) : Option (St) := (x107 (tset I 59 a1 1 0) a1).bind fun q1 => (x108 P q1 (tget I (P + 9) ((I 58 4) + a1) 0) (tget q1 (P + 9) ((q1 58 4) + a1) 1) (tget q1 (P + 9) ((q1 58 4) + a1) 2)).bind fun q2 => if q2.1 = 0 then (x104 q2.2 a1).bind fun q3 => some q3 else if (q2.2 58 7) ≤ 16 then (if (tget I (P + 9) ((I 58 4) + a1) 0) = 20 then some q2.2 else if (tget I (P + 9) ((I 58 4) + a1) 0) = 51 then some q2.2 else if (tget I (P + 9) ((I 58 4) + a1) 0) = 52 then some q2.2 else (x101 P q2.2 (a1 + 1)).bind fun q4 => some q4).bind fun (q5 : St) => (x76 q5 (tget I (P + 9) ((I 58 4) + a1) 0)).bind fun q6 => (if q6 = 4 then (x101 P q5 (tget q5 (P + 9) ((q5 58 4) + a1) 1)).bind fun q7 => some q7 else some q5).bind fun (q8 : St) => (x107 q8 a1).bind fun q9 => Lt ((tget (up2 (up2 q9 58 7 1) 58 8 1) (P + 7) (q9 58 3) 7) + (tget (up2 (up2 q9 58 7 1) 58 8 1) (P + 7) (q9 58 3) 8)) fun v10 => (l106_199 P a1 v10 100000 (tget (up2 (up2 q9 58 7 1) 58 8 1) (P + 7) (q9 58 3) 7) (up2 (up2 q9 58 7 1) 58 8 1)).bind fun q12 => some q12 else (x104 q2.2 a1).bind fun q18 => some q18
set_option maxRecDepth 20000 in
set_option maxHeartbeats 30000000 in
theorem x106_D {E : Xe} {R : Nat → Nat → Option Nat} {P : Nat} {o : Outcome} {w : Wd} {T : (St) → Prop} {I : St} (hP : P = 3 ∨ P = 18) (h58_2 : R 58 2 = some P) (a1 : Int32) (hT : ∀ r, T r → o = .returned none ∧ w = wT r R) : Dq (x106 P I a1) T → Rn E 106 (0, loc0 106 [.ref 58, .int a1], [], wT I R) o w := by
  unfold x106
  rcases hP with rfl | rfl
  · refine D.run 1 rfl ?_
    refine D.st rfl (by decide) (gf_1 h58_2) ?_
    refine D.run 6 rfl ?_
    refine D.ce rfl rfl rfl rfl (tget_ok (by decide) (by first | rfl | decide) _ _) ?_
    refine D.run 6 rfl ?_
    refine D.ce rfl rfl rfl rfl (tset_ok (by decide) (by first | rfl | decide) _ _ _) ?_
    show _ → Rn E 106 (28, [.ref 58, .int a1, .int (tget I (3 + 9) ((I 58 4) + a1) 0), us, us, us], [], wT (tset I 59 a1 1 0) R) o w
    refine D.run 2 rfl ?_
    refine D.call rfl rfl rfl rfl (fun q h => x107_ok h) (fun q1 => ?_)
    refine D.run 3 rfl ?_
    refine D.st rfl (by decide) (gf_1 h58_2) ?_
    refine D.run 6 rfl ?_
    refine D.ce rfl rfl rfl rfl (tget_ok (by decide) (by first | rfl | decide) _ _) ?_
    show _ → Rn E 106 (52, [.ref 58, .int a1, .int (tget I (3 + 9) ((I 58 4) + a1) 0), us, us, us], [.int (tget q1 (3 + 9) ((q1 58 4) + a1) 1), .int (tget I (3 + 9) ((I 58 4) + a1) 0), .ref 58], wT q1 R) o w
    refine D.run 1 rfl ?_
    refine D.st rfl (by decide) (gf_1 h58_2) ?_
    refine D.run 6 rfl ?_
    refine D.ce rfl rfl rfl rfl (tget_ok (by decide) (by first | rfl | decide) _ _) ?_
    refine D.call rfl rfl rfl rfl (fun q h => x108_ok (by decide) h58_2 h) (fun q2 => ?_)
    show _ → Rn E 106 (72, [.ref 58, .int a1, .int (tget I (3 + 9) ((I 58 4) + a1) 0), us, us, us], [.int q2.1], wT q2.2 R) o w
    refine D.br rfl (by decide) rfl (fun hc => ?_) (fun hc => ?_)
    · refine D.run 2 rfl ?_
      refine D.call rfl rfl rfl rfl (fun q h => x104_ok h) (fun q3 => ?_)
      exact fun h => by obtain ⟨rfl, rfl⟩ := hT _ (D.some h); exact Rn.ret rfl rfl rfl
    · refine D.run 3 rfl ?_
      refine D.br rfl (by decide) rfl (fun hc => ?_) (fun hc => ?_)
      · refine D.run 2 rfl ?_
        have Kj115 : ∀ (q5 : St), Dq ((x76 q5 (tget I (3 + 9) ((I 58 4) + a1) 0)).bind fun q6 => (if q6 = 4 then (x101 3 q5 (tget q5 (3 + 9) ((q5 58 4) + a1) 1)).bind fun q7 => some q7 else some q5).bind fun (q8 : St) => (x107 q8 a1).bind fun q9 => Lt ((tget (up2 (up2 q9 58 7 1) 58 8 1) (3 + 7) (q9 58 3) 7) + (tget (up2 (up2 q9 58 7 1) 58 8 1) (3 + 7) (q9 58 3) 8)) fun v10 => (l106_199 3 a1 v10 100000 (tget (up2 (up2 q9 58 7 1) 58 8 1) (3 + 7) (q9 58 3) 7) (up2 (up2 q9 58 7 1) 58 8 1)).bind fun q12 => some q12) T → Rn E 106 (115, [.ref 58, .int a1, .int (tget I (3 + 9) ((I 58 4) + a1) 0), us, us, us], [], wT q5 R) o w := by
          intro q5
          refine D.run 1 rfl ?_
          refine D.call rfl rfl rfl rfl (fun q h => x76_ok h) (fun q6 => ?_)
          refine D.run 1 rfl ?_
          have Kj144 : ∀ (q8 : St), Dq ((x107 q8 a1).bind fun q9 => Lt ((tget (up2 (up2 q9 58 7 1) 58 8 1) (3 + 7) (q9 58 3) 7) + (tget (up2 (up2 q9 58 7 1) 58 8 1) (3 + 7) (q9 58 3) 8)) fun v10 => (l106_199 3 a1 v10 100000 (tget (up2 (up2 q9 58 7 1) 58 8 1) (3 + 7) (q9 58 3) 7) (up2 (up2 q9 58 7 1) 58 8 1)).bind fun q12 => some q12) T → Rn E 106 (144, [.ref 58, .int a1, .int (tget I (3 + 9) ((I 58 4) + a1) 0), us, us, us], [], wT q8 R) o w := by
            intro q8
            refine D.run 2 rfl ?_
            refine D.call rfl rfl rfl rfl (fun q h => x107_ok h) (fun q9 => ?_)
            refine D.run 7 rfl ?_
            refine D.st rfl (by decide) (gf_1 h58_2) ?_
            refine D.run 4 rfl ?_
            refine D.ce rfl rfl rfl rfl (tget_ok (by decide) (by first | rfl | decide) _ _) ?_
            show _ → Rn E 106 (175, [.ref 58, .int a1, .int (tget I (3 + 9) ((I 58 4) + a1) 0), us, us, us], [.int (tget (up2 (up2 q9 58 7 1) 58 8 1) (3 + 7) (q9 58 3) 7)], wT (up2 (up2 q9 58 7 1) 58 8 1) R) o w
            refine D.run 3 rfl ?_
            refine D.st rfl (by decide) (gf_1 h58_2) ?_
            refine D.run 4 rfl ?_
            refine D.ce rfl rfl rfl rfl (tget_ok (by decide) (by first | rfl | decide) _ _) ?_
            refine D.run 2 rfl ?_
            refine D.letV (frame := fun v10 => (196, [.ref 58, .int a1, .int (tget I (3 + 9) ((I 58 4) + a1) 0), .int (tget (up2 (up2 q9 58 7 1) 58 8 1) (3 + 7) (q9 58 3) 7), .int v10, us], [], wT (up2 (up2 q9 58 7 1) 58 8 1) R)) (fun v10 => ?_)
            show _ → Rn E 106 (196, [.ref 58, .int a1, .int (tget I (3 + 9) ((I 58 4) + a1) 0), .int (tget (up2 (up2 q9 58 7 1) 58 8 1) (3 + 7) (q9 58 3) 7), .int v10, us], [], wT (up2 (up2 q9 58 7 1) 58 8 1) R) o w
            refine D.run 2 rfl ?_
            refine D.bind (l106_199_ok (by decide) h58_2 (fun q12 e13 he13 e14 he14 e15 he15 e16 he16 e17 he17 => ?_) 100000 _ _ _ _ (by first | rfl | assumption) (by first | rfl | assumption))
            exact fun h => by obtain ⟨rfl, rfl⟩ := hT _ (D.some h); exact Rn.ret rfl rfl rfl
          refine D.jn (fun T144 c144 => ?_)
          refine D.br rfl (by decide) rfl (fun hc => ?_) (fun hc => ?_)
          · refine D.run 2 rfl ?_
            refine D.st rfl (by decide) (gf_1 h58_2) ?_
            refine D.run 6 rfl ?_
            refine D.ce rfl rfl rfl rfl (tget_ok (by decide) (by first | rfl | decide) _ _) ?_
            refine D.call rfl rfl rfl rfl (fun q h => x101_ok (by decide) h58_2 h) (fun q7 => ?_)
            exact fun h => Kj144 _   (c144 _ (D.some h))
          · exact fun h => Kj144 _   (c144 _ (D.some h))
        refine D.jn (fun T115 c115 => ?_)
        refine D.br rfl (by decide) rfl (fun hc => ?_) (fun hc => ?_)
        · exact fun h => Kj115 _   (c115 _ (D.some h))
        · refine D.run 2 rfl ?_
          refine D.br rfl (by decide) rfl (fun hc => ?_) (fun hc => ?_)
          · exact fun h => Kj115 _   (c115 _ (D.some h))
          · refine D.run 2 rfl ?_
            refine D.br rfl (by decide) rfl (fun hc => ?_) (fun hc => ?_)
            · exact fun h => Kj115 _   (c115 _ (D.some h))
            · refine D.run 4 rfl ?_
              refine D.call rfl rfl rfl rfl (fun q h => x101_ok (by decide) h58_2 h) (fun q4 => ?_)
              exact fun h => Kj115 _   (c115 _ (D.some h))
      · refine D.run 2 rfl ?_
        refine D.call rfl rfl rfl rfl (fun q h => x104_ok h) (fun q18 => ?_)
        exact fun h => by obtain ⟨rfl, rfl⟩ := hT _ (D.some h); exact Rn.ret rfl rfl rfl
  · refine D.run 1 rfl ?_
    refine D.st rfl (by decide) (gf_1 h58_2) ?_
    refine D.run 6 rfl ?_
    refine D.ce rfl rfl rfl rfl (tget_ok (by decide) (by first | rfl | decide) _ _) ?_
    refine D.run 6 rfl ?_
    refine D.ce rfl rfl rfl rfl (tset_ok (by decide) (by first | rfl | decide) _ _ _) ?_
    show _ → Rn E 106 (28, [.ref 58, .int a1, .int (tget I (18 + 9) ((I 58 4) + a1) 0), us, us, us], [], wT (tset I 59 a1 1 0) R) o w
    refine D.run 2 rfl ?_
    refine D.call rfl rfl rfl rfl (fun q h => x107_ok h) (fun q1 => ?_)
    refine D.run 3 rfl ?_
    refine D.st rfl (by decide) (gf_1 h58_2) ?_
    refine D.run 6 rfl ?_
    refine D.ce rfl rfl rfl rfl (tget_ok (by decide) (by first | rfl | decide) _ _) ?_
    show _ → Rn E 106 (52, [.ref 58, .int a1, .int (tget I (18 + 9) ((I 58 4) + a1) 0), us, us, us], [.int (tget q1 (18 + 9) ((q1 58 4) + a1) 1), .int (tget I (18 + 9) ((I 58 4) + a1) 0), .ref 58], wT q1 R) o w
    refine D.run 1 rfl ?_
    refine D.st rfl (by decide) (gf_1 h58_2) ?_
    refine D.run 6 rfl ?_
    refine D.ce rfl rfl rfl rfl (tget_ok (by decide) (by first | rfl | decide) _ _) ?_
    refine D.call rfl rfl rfl rfl (fun q h => x108_ok (by decide) h58_2 h) (fun q2 => ?_)
    show _ → Rn E 106 (72, [.ref 58, .int a1, .int (tget I (18 + 9) ((I 58 4) + a1) 0), us, us, us], [.int q2.1], wT q2.2 R) o w
    refine D.br rfl (by decide) rfl (fun hc => ?_) (fun hc => ?_)
    · refine D.run 2 rfl ?_
      refine D.call rfl rfl rfl rfl (fun q h => x104_ok h) (fun q3 => ?_)
      exact fun h => by obtain ⟨rfl, rfl⟩ := hT _ (D.some h); exact Rn.ret rfl rfl rfl
    · refine D.run 3 rfl ?_
      refine D.br rfl (by decide) rfl (fun hc => ?_) (fun hc => ?_)
      · refine D.run 2 rfl ?_
        have Kj115 : ∀ (q5 : St), Dq ((x76 q5 (tget I (18 + 9) ((I 58 4) + a1) 0)).bind fun q6 => (if q6 = 4 then (x101 18 q5 (tget q5 (18 + 9) ((q5 58 4) + a1) 1)).bind fun q7 => some q7 else some q5).bind fun (q8 : St) => (x107 q8 a1).bind fun q9 => Lt ((tget (up2 (up2 q9 58 7 1) 58 8 1) (18 + 7) (q9 58 3) 7) + (tget (up2 (up2 q9 58 7 1) 58 8 1) (18 + 7) (q9 58 3) 8)) fun v10 => (l106_199 18 a1 v10 100000 (tget (up2 (up2 q9 58 7 1) 58 8 1) (18 + 7) (q9 58 3) 7) (up2 (up2 q9 58 7 1) 58 8 1)).bind fun q12 => some q12) T → Rn E 106 (115, [.ref 58, .int a1, .int (tget I (18 + 9) ((I 58 4) + a1) 0), us, us, us], [], wT q5 R) o w := by
          intro q5
          refine D.run 1 rfl ?_
          refine D.call rfl rfl rfl rfl (fun q h => x76_ok h) (fun q6 => ?_)
          refine D.run 1 rfl ?_
          have Kj144 : ∀ (q8 : St), Dq ((x107 q8 a1).bind fun q9 => Lt ((tget (up2 (up2 q9 58 7 1) 58 8 1) (18 + 7) (q9 58 3) 7) + (tget (up2 (up2 q9 58 7 1) 58 8 1) (18 + 7) (q9 58 3) 8)) fun v10 => (l106_199 18 a1 v10 100000 (tget (up2 (up2 q9 58 7 1) 58 8 1) (18 + 7) (q9 58 3) 7) (up2 (up2 q9 58 7 1) 58 8 1)).bind fun q12 => some q12) T → Rn E 106 (144, [.ref 58, .int a1, .int (tget I (18 + 9) ((I 58 4) + a1) 0), us, us, us], [], wT q8 R) o w := by
            intro q8
            refine D.run 2 rfl ?_
            refine D.call rfl rfl rfl rfl (fun q h => x107_ok h) (fun q9 => ?_)
            refine D.run 7 rfl ?_
            refine D.st rfl (by decide) (gf_1 h58_2) ?_
            refine D.run 4 rfl ?_
            refine D.ce rfl rfl rfl rfl (tget_ok (by decide) (by first | rfl | decide) _ _) ?_
            show _ → Rn E 106 (175, [.ref 58, .int a1, .int (tget I (18 + 9) ((I 58 4) + a1) 0), us, us, us], [.int (tget (up2 (up2 q9 58 7 1) 58 8 1) (18 + 7) (q9 58 3) 7)], wT (up2 (up2 q9 58 7 1) 58 8 1) R) o w
            refine D.run 3 rfl ?_
            refine D.st rfl (by decide) (gf_1 h58_2) ?_
            refine D.run 4 rfl ?_
            refine D.ce rfl rfl rfl rfl (tget_ok (by decide) (by first | rfl | decide) _ _) ?_
            refine D.run 2 rfl ?_
            refine D.letV (frame := fun v10 => (196, [.ref 58, .int a1, .int (tget I (18 + 9) ((I 58 4) + a1) 0), .int (tget (up2 (up2 q9 58 7 1) 58 8 1) (18 + 7) (q9 58 3) 7), .int v10, us], [], wT (up2 (up2 q9 58 7 1) 58 8 1) R)) (fun v10 => ?_)
            show _ → Rn E 106 (196, [.ref 58, .int a1, .int (tget I (18 + 9) ((I 58 4) + a1) 0), .int (tget (up2 (up2 q9 58 7 1) 58 8 1) (18 + 7) (q9 58 3) 7), .int v10, us], [], wT (up2 (up2 q9 58 7 1) 58 8 1) R) o w
            refine D.run 2 rfl ?_
            refine D.bind (l106_199_ok (by decide) h58_2 (fun q12 e13 he13 e14 he14 e15 he15 e16 he16 e17 he17 => ?_) 100000 _ _ _ _ (by first | rfl | assumption) (by first | rfl | assumption))
            exact fun h => by obtain ⟨rfl, rfl⟩ := hT _ (D.some h); exact Rn.ret rfl rfl rfl
          refine D.jn (fun T144 c144 => ?_)
          refine D.br rfl (by decide) rfl (fun hc => ?_) (fun hc => ?_)
          · refine D.run 2 rfl ?_
            refine D.st rfl (by decide) (gf_1 h58_2) ?_
            refine D.run 6 rfl ?_
            refine D.ce rfl rfl rfl rfl (tget_ok (by decide) (by first | rfl | decide) _ _) ?_
            refine D.call rfl rfl rfl rfl (fun q h => x101_ok (by decide) h58_2 h) (fun q7 => ?_)
            exact fun h => Kj144 _   (c144 _ (D.some h))
          · exact fun h => Kj144 _   (c144 _ (D.some h))
        refine D.jn (fun T115 c115 => ?_)
        refine D.br rfl (by decide) rfl (fun hc => ?_) (fun hc => ?_)
        · exact fun h => Kj115 _   (c115 _ (D.some h))
        · refine D.run 2 rfl ?_
          refine D.br rfl (by decide) rfl (fun hc => ?_) (fun hc => ?_)
          · exact fun h => Kj115 _   (c115 _ (D.some h))
          · refine D.run 2 rfl ?_
            refine D.br rfl (by decide) rfl (fun hc => ?_) (fun hc => ?_)
            · exact fun h => Kj115 _   (c115 _ (D.some h))
            · refine D.run 4 rfl ?_
              refine D.call rfl rfl rfl rfl (fun q h => x101_ok (by decide) h58_2 h) (fun q4 => ?_)
              exact fun h => Kj115 _   (c115 _ (D.some h))
      · refine D.run 2 rfl ?_
        refine D.call rfl rfl rfl rfl (fun q h => x104_ok h) (fun q18 => ?_)
        exact fun h => by obtain ⟨rfl, rfl⟩ := hT _ (D.some h); exact Rn.ret rfl rfl rfl
set_option maxRecDepth 20000 in
set_option maxHeartbeats 30000000 in
theorem x106_ok {E : Xe} {R : Nat → Nat → Option Nat} {P : Nat} {I : St} (hP : P = 3 ∨ P = 18) (h58_2 : R 58 2 = some P) {a1 : Int32} {q : St} (h : x106 P I a1 = some q) : Rn E 106 (0, loc0 106 [.ref 58, .int a1], [], wT I R) (.returned none) (wT q R) := x106_D hP h58_2 _ (T := fun r => r = q) (by rintro r rfl; exact ⟨rfl, rfl⟩) ⟨_, h, rfl⟩
/-- TaintHouse$Machine.step(III)V -/
def x129 (P : Nat) (I : St) (a1 a2 a3 : Int32) : Option (St) := if 7 < a1 then if 18 < a1 then if a1 = 19 then (x136 I 1 (-(x133 I 0)) (x134 I 0)).bind fun q1 => some q1 else if 36 < a1 then if 41 < a1 then if 48 < a1 then if 52 < a1 then (x168 P I a1 a2).bind fun q2 => some q2 else (x163 P I a1 a2 a3).bind fun q3 => some q3 else (x155 I a1).bind fun q4 => some q4 else (x144 P I a1 a2 a3).bind fun q5 => some q5 else (x142 I a1 a2).bind fun q6 => some q6 else (x137 I a1).bind fun q7 => some q7 else (x130 I a1 a2 a3).bind fun q8 => some q8
set_option maxRecDepth 20000 in
set_option maxHeartbeats 30000000 in
theorem x129_D {E : Xe} {R : Nat → Nat → Option Nat} {P : Nat} {o : Outcome} {w : Wd} {T : (St) → Prop} {I : St} (hP : P = 3 ∨ P = 18) (h68_6 : R 68 6 = some P) (a1 a2 a3 : Int32) (hT : ∀ r, T r → o = .returned none ∧ w = wT r R) : Dq (x129 P I a1 a2 a3) T → Rn E 129 (0, loc0 129 [.ref 68, .int a1, .int a2, .int a3], [], wT I R) o w := by
  unfold x129
  rcases hP with rfl | rfl
  all_goals
    refine D.run 2 rfl ?_
    refine D.br rfl (by decide) rfl (fun hc => ?_) (fun hc => ?_)
    · refine D.run 2 rfl ?_
      refine D.br rfl (by decide) rfl (fun hc => ?_) (fun hc => ?_)
      · refine D.run 2 rfl ?_
        refine D.br rfl (by decide) rfl (fun hc => ?_) (fun hc => ?_)
        · refine D.run 4 rfl ?_
          refine D.ce rfl rfl rfl rfl (x133_ok _) ?_
          refine D.run 3 rfl ?_
          refine D.ce rfl rfl rfl rfl (x134_ok _) ?_
          refine D.call rfl rfl rfl rfl (fun q h => x136_ok h) (fun q1 => ?_)
          show _ → Rn E 129 (52, [.ref 68, .int a1, .int a2, .int a3], [], wT q1 R) o w
          refine D.run 1 rfl ?_
          exact fun h => by obtain ⟨rfl, rfl⟩ := hT _ (D.some h); exact Rn.ret rfl rfl rfl
        · refine D.run 2 rfl ?_
          refine D.br rfl (by decide) rfl (fun hc => ?_) (fun hc => ?_)
          · refine D.run 2 rfl ?_
            refine D.br rfl (by decide) rfl (fun hc => ?_) (fun hc => ?_)
            · refine D.run 2 rfl ?_
              refine D.br rfl (by decide) rfl (fun hc => ?_) (fun hc => ?_)
              · refine D.run 2 rfl ?_
                refine D.br rfl (by decide) rfl (fun hc => ?_) (fun hc => ?_)
                · refine D.run 3 rfl ?_
                  refine D.call rfl rfl rfl rfl (fun q h => x168_ok (by decide) h68_6 h) (fun q2 => ?_)
                  exact fun h => by obtain ⟨rfl, rfl⟩ := hT _ (D.some h); exact Rn.ret rfl rfl rfl
                · refine D.run 4 rfl ?_
                  refine D.call rfl rfl rfl rfl (fun q h => x163_ok (by decide) h68_6 h) (fun q3 => ?_)
                  refine D.run 1 rfl ?_
                  exact fun h => by obtain ⟨rfl, rfl⟩ := hT _ (D.some h); exact Rn.ret rfl rfl rfl
              · refine D.run 2 rfl ?_
                refine D.call rfl rfl rfl rfl (fun q h => x155_ok h) (fun q4 => ?_)
                refine D.run 1 rfl ?_
                exact fun h => by obtain ⟨rfl, rfl⟩ := hT _ (D.some h); exact Rn.ret rfl rfl rfl
            · refine D.run 4 rfl ?_
              refine D.call rfl rfl rfl rfl (fun q h => x144_ok (by decide) h68_6 h) (fun q5 => ?_)
              refine D.run 1 rfl ?_
              exact fun h => by obtain ⟨rfl, rfl⟩ := hT _ (D.some h); exact Rn.ret rfl rfl rfl
          · refine D.run 3 rfl ?_
            refine D.call rfl rfl rfl rfl (fun q h => x142_ok h) (fun q6 => ?_)
            refine D.run 1 rfl ?_
            exact fun h => by obtain ⟨rfl, rfl⟩ := hT _ (D.some h); exact Rn.ret rfl rfl rfl
      · refine D.run 2 rfl ?_
        refine D.call rfl rfl rfl rfl (fun q h => x137_ok h) (fun q7 => ?_)
        refine D.run 1 rfl ?_
        exact fun h => by obtain ⟨rfl, rfl⟩ := hT _ (D.some h); exact Rn.ret rfl rfl rfl
    · refine D.run 4 rfl ?_
      refine D.call rfl rfl rfl rfl (fun q h => x130_ok h) (fun q8 => ?_)
      refine D.run 1 rfl ?_
      exact fun h => by obtain ⟨rfl, rfl⟩ := hT _ (D.some h); exact Rn.ret rfl rfl rfl
set_option maxRecDepth 20000 in
set_option maxHeartbeats 30000000 in
theorem x129_ok {E : Xe} {R : Nat → Nat → Option Nat} {P : Nat} {I : St} (hP : P = 3 ∨ P = 18) (h68_6 : R 68 6 = some P) {a1 a2 a3 : Int32} {q : St} (h : x129 P I a1 a2 a3 = some q) : Rn E 129 (0, loc0 129 [.ref 68, .int a1, .int a2, .int a3], [], wT I R) (.returned none) (wT q R) := x129_D hP h68_6 _ _ _ (T := fun r => r = q) (by rintro r rfl; exact ⟨rfl, rfl⟩) ⟨_, h, rfl⟩
