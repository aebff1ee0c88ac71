/-! FUNCTIONS OF METHODS, by program (wip/gen/all.py): 224 228 229 231 232 235 236 239 240 241 244 246 247 248 250 252 254 255 260 261 262 263 264 265 266 267 268 271 -/
/-- TaintHouseModel.lookTry(I)V -/
def l224_12 (Z : Nat) (b1 : Int32) (b2 : Int32) : Nat → Int32 → St → Option (St)
  | 0, _, _ => none
  | n + 1, b3, I => if 4 ≤ b3 then some I else (if 3 ≤ b3 then if inb ((4 * b1) + b3) 800 then (x216 Z I (I (Z + 38) ((4 * b1) + b3).toNatClampNeg) (I Z 5)).bind fun q1 => some q1 else none else if inb ((4 * b1) + b3) 800 then (x221 Z I b2 (I (Z + 38) ((4 * b1) + b3).toNatClampNeg)).bind fun q2 => some q2 else none).bind fun (q3 : Int32) => if inb ((4 * b1) + b3) 800 then if q3 = (-1) then if inb ((4 * b1) + b3) 800 then (x217 (up2 I (Z + 40) ((4 * b1) + b3).toNatClampNeg q3) 2 ((up2 I (Z + 40) ((4 * b1) + b3).toNatClampNeg q3) (Z + 39) ((4 * b1) + b3).toNatClampNeg)).bind fun q4 => l224_12 Z b1 b2 n (b3 + 1) q4 else none else l224_12 Z b1 b2 n (b3 + 1) (up2 I (Z + 40) ((4 * b1) + b3).toNatClampNeg q3) else none
set_option maxRecDepth 20000 in
theorem l224_12_ok {E : Xe} {R : Nat → Nat → Option Nat} {Z : Nat} {o : Outcome} {w : Wd} {T : (St) → Prop} {b1 : Int32} {b2 : Int32} (hZ : Z = 85 ∨ Z = 126) (h82_4 : R 82 4 = some Z) (K : ∀ (q : St) (e2 : Value) (_ : is1 e2 = true) (e3 : Value) (_ : is1 e3 = true) (e4 : Value) (_ : is1 e4 = true) (e5 : Value) (_ : is1 e5 = true), T q → Rn E 224 (114, [.ref 82, .int b1, e2, e3, e4, e5], [], wT q R) o w) : ∀ (n : Nat) (b3 : Int32) (d4 : Value) (d5 : Value) (I : St), is1 d4 = true → is1 d5 = true → Dq (l224_12 Z b1 b2 n b3 I) T → Rn E 224 (12, [.ref 82, .int b1, .int b2, .int b3, d4, d5], [], wT I R) o w := by
  rcases hZ with rfl | rfl
  · intro n
    induction n with
    | zero => intro b3 d4 d5 I hd4 hd5; exact D.none
    | succ n ih =>
      intro b3 d4 d5 I hd4 hd5
      rw [l224_12]
      refine D.run 2 rfl ?_
      refine D.br rfl (by decide) rfl (fun hc => ?_) (fun hc => ?_)
      · exact fun h => D.to h (K _ _ (by first | rfl | assumption) _ (by first | rfl | assumption) _ (by first | rfl | assumption) _ (by first | rfl | assumption))
      · refine D.run 2 rfl ?_
        have Kj67 : ∀ (q3 : Int32), Dq (if inb ((4 * b1) + b3) 800 then if q3 = (-1) then if inb ((4 * b1) + b3) 800 then (x217 (up2 I (85 + 40) ((4 * b1) + b3).toNatClampNeg q3) 2 ((up2 I (85 + 40) ((4 * b1) + b3).toNatClampNeg q3) (85 + 39) ((4 * b1) + b3).toNatClampNeg)).bind fun q4 => l224_12 85 b1 b2 n (b3 + 1) q4 else none else l224_12 85 b1 b2 n (b3 + 1) (up2 I (85 + 40) ((4 * b1) + b3).toNatClampNeg q3) else none) T → Rn E 224 (67, [.ref 82, .int b1, .int b2, .int b3, d4, d5], [.int q3], wT I R) o w := by
          intro q3
          refine D.run 2 rfl ?_
          refine D.st rfl (by decide) (gf_1 h82_4) ?_
          refine D.run 7 rfl ?_
          refine D.gd fun hg => ?_
          refine D.st rfl (by decide) (as_i (by decide) (by first | rfl | decide) hg.1 hg.2) ?_
          show _ → Rn E 224 (84, [.ref 82, .int b1, .int b2, .int b3, .int q3, d5], [], wT (up2 I (85 + 40) ((4 * b1) + b3).toNatClampNeg q3) R) o w
          refine D.run 2 rfl ?_
          refine D.br rfl (by decide) rfl (fun hc => ?_) (fun hc => ?_)
          · refine D.run 3 rfl ?_
            refine D.st rfl (by decide) (gf_1 h82_4) ?_
            refine D.run 6 rfl ?_
            refine D.gd fun hg => ?_
            refine D.st rfl (by decide) (al_i (by decide) (by first | rfl | decide) hg.1 hg.2) ?_
            show _ → Rn E 224 (105, [.ref 82, .int b1, .int b2, .int b3, .int q3, d5], [.int ((up2 I (85 + 40) ((4 * b1) + b3).toNatClampNeg q3) (85 + 39) ((4 * b1) + b3).toNatClampNeg), .int 2, .ref 82], wT (up2 I (85 + 40) ((4 * b1) + b3).toNatClampNeg q3) R) o w
            refine D.call rfl rfl rfl rfl (fun q h => x217_ok h) (fun q4 => ?_)
            refine D.run 2 rfl ?_
            exact ih _ _ _ _ (by first | rfl | assumption) (by first | rfl | assumption)
          · refine D.run 2 rfl ?_
            exact ih _ _ _ _ (by first | rfl | assumption) (by first | rfl | assumption)
        refine D.jn (fun T67 c67 => ?_)
        refine D.br rfl (by decide) rfl (fun hc => ?_) (fun hc => ?_)
        · refine D.run 2 rfl ?_
          refine D.st rfl (by decide) (gf_1 h82_4) ?_
          refine D.run 6 rfl ?_
          refine D.gd fun hg => ?_
          refine D.st rfl (by decide) (al_i (by decide) (by first | rfl | decide) hg.1 hg.2) ?_
          show _ → Rn E 224 (57, [.ref 82, .int b1, .int b2, .int b3, d4, d5], [.int (I (85 + 38) ((4 * b1) + b3).toNatClampNeg), .ref 82], wT I R) o w
          refine D.run 1 rfl ?_
          refine D.st rfl (by decide) (gf_1 h82_4) ?_
          refine D.run 1 rfl ?_
          refine D.call rfl rfl rfl rfl (fun q h => x216_ok (by decide) h82_4 h) (fun q1 => ?_)
          exact fun h => Kj67 _   (c67 _ (D.some h))
        · refine D.run 3 rfl ?_
          refine D.st rfl (by decide) (gf_1 h82_4) ?_
          refine D.run 6 rfl ?_
          refine D.gd fun hg => ?_
          refine D.st rfl (by decide) (al_i (by decide) (by first | rfl | decide) hg.1 hg.2) ?_
          show _ → Rn E 224 (37, [.ref 82, .int b1, .int b2, .int b3, d4, d5], [.int (I (85 + 38) ((4 * b1) + b3).toNatClampNeg), .int b2, .ref 82], wT I R) o w
          refine D.call rfl rfl rfl rfl (fun q h => x221_ok (by decide) h82_4 h) (fun q2 => ?_)
          refine D.run 1 rfl ?_
          exact fun h => Kj67 _   (c67 _ (D.some h))
  · intro n
    induction n with
    | zero => intro b3 d4 d5 I hd4 hd5; exact D.none
    | succ n ih =>
      intro b3 d4 d5 I hd4 hd5
      rw [l224_12]
      refine D.run 2 rfl ?_
      refine D.br rfl (by decide) rfl (fun hc => ?_) (fun hc => ?_)
      · exact fun h => D.to h (K _ _ (by first | rfl | assumption) _ (by first | rfl | assumption) _ (by first | rfl | assumption) _ (by first | rfl | assumption))
      · refine D.run 2 rfl ?_
        have Kj67 : ∀ (q3 : Int32), Dq (if inb ((4 * b1) + b3) 800 then if q3 = (-1) then if inb ((4 * b1) + b3) 800 then (x217 (up2 I (126 + 40) ((4 * b1) + b3).toNatClampNeg q3) 2 ((up2 I (126 + 40) ((4 * b1) + b3).toNatClampNeg q3) (126 + 39) ((4 * b1) + b3).toNatClampNeg)).bind fun q4 => l224_12 126 b1 b2 n (b3 + 1) q4 else none else l224_12 126 b1 b2 n (b3 + 1) (up2 I (126 + 40) ((4 * b1) + b3).toNatClampNeg q3) else none) T → Rn E 224 (67, [.ref 82, .int b1, .int b2, .int b3, d4, d5], [.int q3], wT I R) o w := by
          intro q3
          refine D.run 2 rfl ?_
          refine D.st rfl (by decide) (gf_1 h82_4) ?_
          refine D.run 7 rfl ?_
          refine D.gd fun hg => ?_
          refine D.st rfl (by decide) (as_i (by decide) (by first | rfl | decide) hg.1 hg.2) ?_
          show _ → Rn E 224 (84, [.ref 82, .int b1, .int b2, .int b3, .int q3, d5], [], wT (up2 I (126 + 40) ((4 * b1) + b3).toNatClampNeg q3) R) o w
          refine D.run 2 rfl ?_
          refine D.br rfl (by decide) rfl (fun hc => ?_) (fun hc => ?_)
          · refine D.run 3 rfl ?_
            refine D.st rfl (by decide) (gf_1 h82_4) ?_
            refine D.run 6 rfl ?_
            refine D.gd fun hg => ?_
            refine D.st rfl (by decide) (al_i (by decide) (by first | rfl | decide) hg.1 hg.2) ?_
            show _ → Rn E 224 (105, [.ref 82, .int b1, .int b2, .int b3, .int q3, d5], [.int ((up2 I (126 + 40) ((4 * b1) + b3).toNatClampNeg q3) (126 + 39) ((4 * b1) + b3).toNatClampNeg), .int 2, .ref 82], wT (up2 I (126 + 40) ((4 * b1) + b3).toNatClampNeg q3) R) o w
            refine D.call rfl rfl rfl rfl (fun q h => x217_ok h) (fun q4 => ?_)
            refine D.run 2 rfl ?_
            exact ih _ _ _ _ (by first | rfl | assumption) (by first | rfl | assumption)
          · refine D.run 2 rfl ?_
            exact ih _ _ _ _ (by first | rfl | assumption) (by first | rfl | assumption)
        refine D.jn (fun T67 c67 => ?_)
        refine D.br rfl (by decide) rfl (fun hc => ?_) (fun hc => ?_)
        · refine D.run 2 rfl ?_
          refine D.st rfl (by decide) (gf_1 h82_4) ?_
          refine D.run 6 rfl ?_
          refine D.gd fun hg => ?_
          refine D.st rfl (by decide) (al_i (by decide) (by first | rfl | decide) hg.1 hg.2) ?_
          show _ → Rn E 224 (57, [.ref 82, .int b1, .int b2, .int b3, d4, d5], [.int (I (126 + 38) ((4 * b1) + b3).toNatClampNeg), .ref 82], wT I R) o w
          refine D.run 1 rfl ?_
          refine D.st rfl (by decide) (gf_1 h82_4) ?_
          refine D.run 1 rfl ?_
          refine D.call rfl rfl rfl rfl (fun q h => x216_ok (by decide) h82_4 h) (fun q1 => ?_)
          exact fun h => Kj67 _   (c67 _ (D.some h))
        · refine D.run 3 rfl ?_
          refine D.st rfl (by decide) (gf_1 h82_4) ?_
          refine D.run 6 rfl ?_
          refine D.gd fun hg => ?_
          refine D.st rfl (by decide) (al_i (by decide) (by first | rfl | decide) hg.1 hg.2) ?_
          show _ → Rn E 224 (37, [.ref 82, .int b1, .int b2, .int b3, d4, d5], [.int (I (126 + 38) ((4 * b1) + b3).toNatClampNeg), .int b2, .ref 82], wT I R) o w
          refine D.call rfl rfl rfl rfl (fun q h => x221_ok (by decide) h82_4 h) (fun q2 => ?_)
          refine D.run 1 rfl ?_
          exact fun h => Kj67 _   (c67 _ (D.some h))
def x224 (Z : Nat) (I : St) (a1 : Int32) : Option (St) := if inb a1 200 then (l224_12 Z a1 (I (Z + 37) a1.toNatClampNeg) 100000 0 I).bind fun q5 => if inb (4 * a1) 800 then if inb ((4 * a1) + 1) 800 then (if (q5 (Z + 40) (4 * a1).toNatClampNeg) = (-1) then some 0 else if (q5 (Z + 40) ((4 * a1) + 1).toNatClampNeg) = (-1) then some 0 else if inb ((4 * a1) + 2) 800 then if (q5 (Z + 40) ((4 * a1) + 2).toNatClampNeg) = (-1) then some 0 else some 1 else none).bind fun (q10 : Int32) => if q10 = 0 then some q5 else if (q5 (Z + 40) (4 * a1).toNatClampNeg) < (q5 (Z + 40) ((4 * a1) + 1).toNatClampNeg) then some q5 else if inb (4 * a1) 800 then (x217 q5 4 (q5 (Z + 39) (4 * a1).toNatClampNeg)).bind fun q11 => some q11 else none else none else none else none
set_option maxRecDepth 20000 in
theorem x224_D {E : Xe} {R : Nat → Nat → Option Nat} {Z : Nat} {o : Outcome} {w : Wd} {T : (St) → Prop} {I : St} (hZ : Z = 85 ∨ Z = 126) (h82_4 : R 82 4 = some Z) (a1 : Int32) (hT : ∀ r, T r → o = .returned none ∧ w = wT r R) : Dq (x224 Z I a1) T → Rn E 224 (0, loc0 224 [.ref 82, .int a1], [], wT I R) o w := by
  unfold x224
  rcases hZ with rfl | rfl
  · refine D.run 1 rfl ?_
    refine D.st rfl (by decide) (gf_1 h82_4) ?_
    refine D.run 2 rfl ?_
    refine D.gd fun hg => ?_
    refine D.st rfl (by decide) (al_i (by decide) (by first | rfl | decide) hg.1 hg.2) ?_
    show _ → Rn E 224 (9, [.ref 82, .int a1, us, us, us, us], [.int (I (85 + 37) a1.toNatClampNeg)], wT I R) o w
    refine D.run 3 rfl ?_
    refine D.bind (l224_12_ok (by decide) h82_4 (fun q5 e6 he6 e7 he7 e8 he8 e9 he9 => ?_) 100000 _ _ _ _ (by first | rfl | assumption) (by first | rfl | assumption))
    refine D.run 1 rfl ?_
    refine D.st rfl (by decide) (gf_1 h82_4) ?_
    refine D.run 4 rfl ?_
    refine D.gd fun hg => ?_
    refine D.st rfl (by decide) (al_i (by decide) (by first | rfl | decide) hg.1 hg.2) ?_
    show _ → Rn E 224 (125, [.ref 82, .int a1, e6, e7, e8, e9], [.int (q5 (85 + 40) (4 * a1).toNatClampNeg)], wT q5 R) o w
    refine D.st rfl (by decide) (istn_d rfl (by first | rfl | assumption) rfl) ?_
    refine D.run 1 rfl ?_
    refine D.st rfl (by decide) (gf_1 h82_4) ?_
    refine D.run 6 rfl ?_
    refine D.gd fun hg => ?_
    refine D.st rfl (by decide) (al_i (by decide) (by first | rfl | decide) hg.1 hg.2) ?_
    show _ → Rn E 224 (139, [.ref 82, .int a1, e6, .int (q5 (85 + 40) (4 * a1).toNatClampNeg), e8, e9], [.int (q5 (85 + 40) ((4 * a1) + 1).toNatClampNeg)], wT q5 R) o w
    refine D.run 3 rfl ?_
    have Kj174 : ∀ (q10 : Int32), Dq (if q10 = 0 then some q5 else if (q5 (85 + 40) (4 * a1).toNatClampNeg) < (q5 (85 + 40) ((4 * a1) + 1).toNatClampNeg) then some q5 else if inb (4 * a1) 800 then (x217 q5 4 (q5 (85 + 39) (4 * a1).toNatClampNeg)).bind fun q11 => some q11 else none) T → Rn E 224 (174, [.ref 82, .int a1, e6, .int (q5 (85 + 40) (4 * a1).toNatClampNeg), .int (q5 (85 + 40) ((4 * a1) + 1).toNatClampNeg), e9], [.int q10], wT q5 R) o w := by
      intro q10
      refine D.run 2 rfl ?_
      refine D.br rfl (by decide) rfl (fun hc => ?_) (fun hc => ?_)
      · exact fun h => by obtain ⟨rfl, rfl⟩ := hT _ (D.some h); exact Rn.ret rfl rfl rfl
      · refine D.run 2 rfl ?_
        refine D.br rfl (by decide) rfl (fun hc => ?_) (fun hc => ?_)
        · exact fun h => by obtain ⟨rfl, rfl⟩ := hT _ (D.some h); exact Rn.ret rfl rfl rfl
        · refine D.run 3 rfl ?_
          refine D.st rfl (by decide) (gf_1 h82_4) ?_
          refine D.run 4 rfl ?_
          refine D.gd fun hg => ?_
          refine D.st rfl (by decide) (al_i (by decide) (by first | rfl | decide) hg.1 hg.2) ?_
          show _ → Rn E 224 (200, [.ref 82, .int a1, e6, .int (q5 (85 + 40) (4 * a1).toNatClampNeg), .int (q5 (85 + 40) ((4 * a1) + 1).toNatClampNeg), .int q10], [.int (q5 (85 + 39) (4 * a1).toNatClampNeg), .int 4, .ref 82], wT q5 R) o w
          refine D.call rfl rfl rfl rfl (fun q h => x217_ok h) (fun q11 => ?_)
          exact fun h => by obtain ⟨rfl, rfl⟩ := hT _ (D.some h); exact Rn.ret rfl rfl rfl
    refine D.jn (fun T174 c174 => ?_)
    refine D.br rfl (by decide) rfl (fun hc => ?_) (fun hc => ?_)
    · refine D.run 1 rfl ?_
      exact fun h => Kj174 _   (c174 _ (D.some h))
    · refine D.run 2 rfl ?_
      refine D.br rfl (by decide) rfl (fun hc => ?_) (fun hc => ?_)
      · refine D.run 1 rfl ?_
        exact fun h => Kj174 _   (c174 _ (D.some h))
      · refine D.run 1 rfl ?_
        refine D.st rfl (by decide) (gf_1 h82_4) ?_
        refine D.run 6 rfl ?_
        refine D.gd fun hg => ?_
        refine D.st rfl (by decide) (al_i (by decide) (by first | rfl | decide) hg.1 hg.2) ?_
        show _ → Rn E 224 (165, [.ref 82, .int a1, e6, .int (q5 (85 + 40) (4 * a1).toNatClampNeg), .int (q5 (85 + 40) ((4 * a1) + 1).toNatClampNeg), e9], [.int (q5 (85 + 40) ((4 * a1) + 2).toNatClampNeg)], wT q5 R) o w
        refine D.run 1 rfl ?_
        refine D.br rfl (by decide) rfl (fun hc => ?_) (fun hc => ?_)
        · refine D.run 1 rfl ?_
          exact fun h => Kj174 _   (c174 _ (D.some h))
        · refine D.run 2 rfl ?_
          exact fun h => Kj174 _   (c174 _ (D.some h))
  · refine D.run 1 rfl ?_
    refine D.st rfl (by decide) (gf_1 h82_4) ?_
    refine D.run 2 rfl ?_
    refine D.gd fun hg => ?_
    refine D.st rfl (by decide) (al_i (by decide) (by first | rfl | decide) hg.1 hg.2) ?_
    show _ → Rn E 224 (9, [.ref 82, .int a1, us, us, us, us], [.int (I (126 + 37) a1.toNatClampNeg)], wT I R) o w
    refine D.run 3 rfl ?_
    refine D.bind (l224_12_ok (by decide) h82_4 (fun q5 e6 he6 e7 he7 e8 he8 e9 he9 => ?_) 100000 _ _ _ _ (by first | rfl | assumption) (by first | rfl | assumption))
    refine D.run 1 rfl ?_
    refine D.st rfl (by decide) (gf_1 h82_4) ?_
    refine D.run 4 rfl ?_
    refine D.gd fun hg => ?_
    refine D.st rfl (by decide) (al_i (by decide) (by first | rfl | decide) hg.1 hg.2) ?_
    show _ → Rn E 224 (125, [.ref 82, .int a1, e6, e7, e8, e9], [.int (q5 (126 + 40) (4 * a1).toNatClampNeg)], wT q5 R) o w
    refine D.st rfl (by decide) (istn_d rfl (by first | rfl | assumption) rfl) ?_
    refine D.run 1 rfl ?_
    refine D.st rfl (by decide) (gf_1 h82_4) ?_
    refine D.run 6 rfl ?_
    refine D.gd fun hg => ?_
    refine D.st rfl (by decide) (al_i (by decide) (by first | rfl | decide) hg.1 hg.2) ?_
    show _ → Rn E 224 (139, [.ref 82, .int a1, e6, .int (q5 (126 + 40) (4 * a1).toNatClampNeg), e8, e9], [.int (q5 (126 + 40) ((4 * a1) + 1).toNatClampNeg)], wT q5 R) o w
    refine D.run 3 rfl ?_
    have Kj174 : ∀ (q10 : Int32), Dq (if q10 = 0 then some q5 else if (q5 (126 + 40) (4 * a1).toNatClampNeg) < (q5 (126 + 40) ((4 * a1) + 1).toNatClampNeg) then some q5 else if inb (4 * a1) 800 then (x217 q5 4 (q5 (126 + 39) (4 * a1).toNatClampNeg)).bind fun q11 => some q11 else none) T → Rn E 224 (174, [.ref 82, .int a1, e6, .int (q5 (126 + 40) (4 * a1).toNatClampNeg), .int (q5 (126 + 40) ((4 * a1) + 1).toNatClampNeg), e9], [.int q10], wT q5 R) o w := by
      intro q10
      refine D.run 2 rfl ?_
      refine D.br rfl (by decide) rfl (fun hc => ?_) (fun hc => ?_)
      · exact fun h => by obtain ⟨rfl, rfl⟩ := hT _ (D.some h); exact Rn.ret rfl rfl rfl
      · refine D.run 2 rfl ?_
        refine D.br rfl (by decide) rfl (fun hc => ?_) (fun hc => ?_)
        · exact fun h => by obtain ⟨rfl, rfl⟩ := hT _ (D.some h); exact Rn.ret rfl rfl rfl
        · refine D.run 3 rfl ?_
          refine D.st rfl (by decide) (gf_1 h82_4) ?_
          refine D.run 4 rfl ?_
          refine D.gd fun hg => ?_
          refine D.st rfl (by decide) (al_i (by decide) (by first | rfl | decide) hg.1 hg.2) ?_
          show _ → Rn E 224 (200, [.ref 82, .int a1, e6, .int (q5 (126 + 40) (4 * a1).toNatClampNeg), .int (q5 (126 + 40) ((4 * a1) + 1).toNatClampNeg), .int q10], [.int (q5 (126 + 39) (4 * a1).toNatClampNeg), .int 4, .ref 82], wT q5 R) o w
          refine D.call rfl rfl rfl rfl (fun q h => x217_ok h) (fun q11 => ?_)
          exact fun h => by obtain ⟨rfl, rfl⟩ := hT _ (D.some h); exact Rn.ret rfl rfl rfl
    refine D.jn (fun T174 c174 => ?_)
    refine D.br rfl (by decide) rfl (fun hc => ?_) (fun hc => ?_)
    · refine D.run 1 rfl ?_
      exact fun h => Kj174 _   (c174 _ (D.some h))
    · refine D.run 2 rfl ?_
      refine D.br rfl (by decide) rfl (fun hc => ?_) (fun hc => ?_)
      · refine D.run 1 rfl ?_
        exact fun h => Kj174 _   (c174 _ (D.some h))
      · refine D.run 1 rfl ?_
        refine D.st rfl (by decide) (gf_1 h82_4) ?_
        refine D.run 6 rfl ?_
        refine D.gd fun hg => ?_
        refine D.st rfl (by decide) (al_i (by decide) (by first | rfl | decide) hg.1 hg.2) ?_
        show _ → Rn E 224 (165, [.ref 82, .int a1, e6, .int (q5 (126 + 40) (4 * a1).toNatClampNeg), .int (q5 (126 + 40) ((4 * a1) + 1).toNatClampNeg), e9], [.int (q5 (126 + 40) ((4 * a1) + 2).toNatClampNeg)], wT q5 R) o w
        refine D.run 1 rfl ?_
        refine D.br rfl (by decide) rfl (fun hc => ?_) (fun hc => ?_)
        · refine D.run 1 rfl ?_
          exact fun h => Kj174 _   (c174 _ (D.some h))
        · refine D.run 2 rfl ?_
          exact fun h => Kj174 _   (c174 _ (D.some h))
set_option maxRecDepth 20000 in
theorem x224_ok {E : Xe} {R : Nat → Nat → Option Nat} {Z : Nat} {I : St} (hZ : Z = 85 ∨ Z = 126) (h82_4 : R 82 4 = some Z) {a1 : Int32} {q : St} (h : x224 Z I a1 = some q) : Rn E 224 (0, loc0 224 [.ref 82, .int a1], [], wT I R) (.returned none) (wT q R) := x224_D hZ h82_4 _ (T := fun r => r = q) (by rintro r rfl; exact ⟨rfl, rfl⟩) ⟨_, h, rfl⟩
/-- TaintHouseModel.five(I)V -/
def x228 (I : St) (a1 : Int32) : Option (St) := if (I 82 22) = 0 then some (up2 (up2 I 82 22 5) 82 5 a1) else some I
set_option maxRecDepth 20000 in
theorem x228_D {E : Xe} {R : Nat → Nat → Option Nat} {o : Outcome} {w : Wd} {T : (St) → Prop} {I : St} (a1 : Int32) (hT : ∀ r, T r → o = .returned none ∧ w = wT r R) : Dq (x228 I a1) T → Rn E 228 (0, loc0 228 [.ref 82, .int a1], [], wT I R) o w := by
  unfold x228
  refine D.run 2 rfl ?_
  refine D.br rfl (by decide) rfl (fun hc => ?_) (fun hc => ?_)
  · refine D.run 6 rfl ?_
    exact fun h => by obtain ⟨rfl, rfl⟩ := hT _ (D.some h); exact Rn.ret rfl rfl rfl
  · exact fun h => by obtain ⟨rfl, rfl⟩ := hT _ (D.some h); exact Rn.ret rfl rfl rfl
set_option maxRecDepth 20000 in
theorem x228_ok {E : Xe} {R : Nat → Nat → Option Nat} {I : St} {a1 : Int32} {q : St} (h : x228 I a1 = some q) : Rn E 228 (0, loc0 228 [.ref 82, .int a1], [], wT I R) (.returned none) (wT q R) := x228_D  _ (T := fun r => r = q) (by rintro r rfl; exact ⟨rfl, rfl⟩) ⟨_, h, rfl⟩
/-- TaintHouseModel.lowest(I)I -/
def l229_2 (b1 : Int32) : Nat → Int32 → St → Option ((Unit) ⊕ (Int32))
  | 0, _, _ => none
  | n + 1, b2, I => if b1 ≤ b2 then some (.inl ()) else if inb b2 100 then if (I 176 b2.toNatClampNeg) = 0 then l229_2 b1 n (b2 + 1) I else some (.inr b2) else none
set_option maxRecDepth 20000 in
theorem l229_2_ok {E : Xe} {R : Nat → Nat → Option Nat} {I0 : St} {o : Outcome} {w : Wd} {T : ((Unit) ⊕ (Int32)) → Prop} {b1 : Int32} (hT : ∀ r, T (.inr r) → o = .returned (some (.int r)) ∧ w = wT I0 R) (K : ∀ (q : Unit) (e1 : Value) (_ : is1 e1 = true) (e2 : Value) (_ : is1 e2 = true), T (.inl q) → Rn E 229 (24, [.ref 82, e1, e2], [], wT I0 R) o w) : ∀ (n : Nat) (b2 : Int32), Dq (l229_2 b1 n b2 I0) T → Rn E 229 (2, [.ref 82, .int b1, .int b2], [], wT I0 R) o w := by
  intro n
  induction n with
  | zero => intro b2; exact D.none
  | succ n ih =>
    intro b2
    rw [l229_2]
    refine D.run 2 rfl ?_
    refine D.br rfl (by decide) rfl (fun hc => ?_) (fun hc => ?_)
    · exact fun h => D.to h (K _ _ (by first | rfl | assumption) _ (by first | rfl | assumption))
    · refine D.run 3 rfl ?_
      refine D.gd fun hg => ?_
      refine D.st rfl (by decide) (al_b (by decide) (by first | rfl | decide) hg.1 hg.2) ?_
      refine D.br rfl (by decide) rfl (fun hc => ?_) (fun hc => ?_)
      · refine D.run 2 rfl ?_
        exact ih _  
      · refine D.run 1 rfl ?_
        exact fun h => by obtain ⟨rfl, rfl⟩ := hT _ (D.some h); exact Rn.ret rfl rfl rfl
def x229 (I : St) (a1 : Int32) : Option (Int32) := (l229_2 a1 100000 0 I).bind (Sum.elim (fun q1 => some (-1)) (fun r => some r))
set_option maxRecDepth 20000 in
theorem x229_D {E : Xe} {R : Nat → Nat → Option Nat} {o : Outcome} {w : Wd} {T : (Int32) → Prop} {I : St} (a1 : Int32) (hT : ∀ r, T r → o = .returned (some (.int r)) ∧ w = wT I R) : Dq (x229 I a1) T → Rn E 229 (0, loc0 229 [.ref 82, .int a1], [], wT I R) o w := by
  unfold x229
  refine D.run 2 rfl ?_
  refine D.bind (l229_2_ok  (fun r h => hT _ (D.some h)) (fun q1 e2 he2 e3 he3 => ?_) 100000 _   )
  refine D.inl ?_
  refine D.run 1 rfl ?_
  exact fun h => by obtain ⟨rfl, rfl⟩ := hT _ (D.some h); exact Rn.ret rfl rfl rfl
set_option maxRecDepth 20000 in
theorem x229_ok {E : Xe} {R : Nat → Nat → Option Nat} {I : St} {a1 : Int32} {q : Int32} (h : x229 I a1 = some q) : Rn E 229 (0, loc0 229 [.ref 82, .int a1], [], wT I R) (.returned (some (.int q))) (wT I R) := x229_D  _ (T := fun r => r = q) (by rintro r rfl; exact ⟨rfl, rfl⟩) ⟨_, h, rfl⟩
/-- TaintHouseModel.takes(I)I -/
def x231 (I : St) (a1 : Int32) : Option (Int32 × St) := if (I 82 29) = 0 then some (1, (up2 I 82 31 0)) else Lt (up2 (up2 I 82 29 ((I 82 29) - 1)) 82 30 ((I 82 30) &&& ((1 <<< (((I 82 29) - 1) &&& 31)) - 1))) fun J1 => if (J1 82 31) = 0 then some (((((I 82 30) >>> (((I 82 29) - 1) &&& 31)) &&& 1) + 1), (up2 J1 82 31 0)) else if a1 = 0 then some (((((I 82 30) >>> (((I 82 29) - 1) &&& 31)) &&& 1) + 1), (up2 J1 82 31 1)) else if ((((I 82 30) >>> (((I 82 29) - 1) &&& 31)) &&& 1) + 1) = a1 then some (((((I 82 30) >>> (((I 82 29) - 1) &&& 31)) &&& 1) + 1), (up2 J1 82 31 1)) else some (((((I 82 30) >>> (((I 82 29) - 1) &&& 31)) &&& 1) + 1), (up2 J1 82 31 0))
set_option maxRecDepth 20000 in
theorem x231_D {E : Xe} {R : Nat → Nat → Option Nat} {o : Outcome} {w : Wd} {T : (Int32 × St) → Prop} {I : St} (a1 : Int32) (hT : ∀ r, T r → o = .returned (some (.int r.1)) ∧ w = wT r.2 R) : Dq (x231 I a1) T → Rn E 231 (0, loc0 231 [.ref 82, .int a1], [], wT I R) o w := by
  unfold x231
  refine D.run 2 rfl ?_
  refine D.br rfl (by decide) rfl (fun hc => ?_) (fun hc => ?_)
  · refine D.run 4 rfl ?_
    exact fun h => by obtain ⟨rfl, rfl⟩ := hT _ (D.some h); exact Rn.ret rfl rfl rfl
  · refine D.run 27 rfl ?_
    refine D.letS (fun J1 => ?_)
    refine D.run 3 rfl ?_
    refine D.br rfl (by decide) rfl (fun hc => ?_) (fun hc => ?_)
    · refine D.run 3 rfl ?_
      exact fun h => by obtain ⟨rfl, rfl⟩ := hT _ (D.some h); exact Rn.ret rfl rfl rfl
    · refine D.run 1 rfl ?_
      refine D.br rfl (by decide) rfl (fun hc => ?_) (fun hc => ?_)
      · refine D.run 4 rfl ?_
        exact fun h => by obtain ⟨rfl, rfl⟩ := hT _ (D.some h); exact Rn.ret rfl rfl rfl
      · refine D.run 2 rfl ?_
        refine D.br rfl (by decide) rfl (fun hc => ?_) (fun hc => ?_)
        · refine D.run 4 rfl ?_
          exact fun h => by obtain ⟨rfl, rfl⟩ := hT _ (D.some h); exact Rn.ret rfl rfl rfl
        · refine D.run 3 rfl ?_
          exact fun h => by obtain ⟨rfl, rfl⟩ := hT _ (D.some h); exact Rn.ret rfl rfl rfl
set_option maxRecDepth 20000 in
theorem x231_ok {E : Xe} {R : Nat → Nat → Option Nat} {I : St} {a1 : Int32} {q : Int32 × St} (h : x231 I a1 = some q) : Rn E 231 (0, loc0 231 [.ref 82, .int a1], [], wT I R) (.returned (some (.int q.1))) (wT q.2 R) := x231_D  _ (T := fun r => r = q) (by rintro r rfl; exact ⟨rfl, rfl⟩) ⟨_, h, rfl⟩
/-- TaintHouseModel.gives(I)V -/
def x232 (I : St) (a1 : Int32) : Option (St) := (if a1 = 2 then some (up2 I 82 30 ((I 82 30) ||| (1 <<< ((I 82 29) &&& 31)))) else some I).bind fun (q1 : St) => if (q1 82 31) = 0 then some (up2 (up2 q1 82 29 ((q1 82 29) + 1)) 82 31 0) else if 16 < ((q1 82 29) + 1) then some (up2 (up2 q1 82 29 ((q1 82 29) + 1)) 82 31 0) else some (up2 (up2 q1 82 29 ((q1 82 29) + 1)) 82 31 1)
set_option maxRecDepth 20000 in
theorem x232_D {E : Xe} {R : Nat → Nat → Option Nat} {o : Outcome} {w : Wd} {T : (St) → Prop} {I : St} (a1 : Int32) (hT : ∀ r, T r → o = .returned none ∧ w = wT r R) : Dq (x232 I a1) T → Rn E 232 (0, loc0 232 [.ref 82, .int a1], [], wT I R) o w := by
  unfold x232
  refine D.run 2 rfl ?_
  have Kj20 : ∀ (q1 : St), Dq (if (q1 82 31) = 0 then some (up2 (up2 q1 82 29 ((q1 82 29) + 1)) 82 31 0) else if 16 < ((q1 82 29) + 1) then some (up2 (up2 q1 82 29 ((q1 82 29) + 1)) 82 31 0) else some (up2 (up2 q1 82 29 ((q1 82 29) + 1)) 82 31 1)) T → Rn E 232 (20, [.ref 82, .int a1], [], wT q1 R) o w := by
    intro q1
    refine D.run 9 rfl ?_
    refine D.br rfl (by decide) rfl (fun hc => ?_) (fun hc => ?_)
    · refine D.run 2 rfl ?_
      exact fun h => by obtain ⟨rfl, rfl⟩ := hT _ (D.some h); exact Rn.ret rfl rfl rfl
    · refine D.run 3 rfl ?_
      refine D.br rfl (by decide) rfl (fun hc => ?_) (fun hc => ?_)
      · refine D.run 2 rfl ?_
        exact fun h => by obtain ⟨rfl, rfl⟩ := hT _ (D.some h); exact Rn.ret rfl rfl rfl
      · refine D.run 3 rfl ?_
        exact fun h => by obtain ⟨rfl, rfl⟩ := hT _ (D.some h); exact Rn.ret rfl rfl rfl
  refine D.jn (fun T20 c20 => ?_)
  refine D.br rfl (by decide) rfl (fun hc => ?_) (fun hc => ?_)
  · refine D.run 9 rfl ?_
    exact fun h => Kj20 _   (c20 _ (D.some h))
  · exact fun h => Kj20 _   (c20 _ (D.some h))
set_option maxRecDepth 20000 in
theorem x232_ok {E : Xe} {R : Nat → Nat → Option Nat} {I : St} {a1 : Int32} {q : St} (h : x232 I a1 = some q) : Rn E 232 (0, loc0 232 [.ref 82, .int a1], [], wT I R) (.returned none) (wT q R) := x232_D  _ (T := fun r => r = q) (by rintro r rfl; exact ⟨rfl, rfl⟩) ⟨_, h, rfl⟩
/-- TaintHouseModel.take1(II)V -/
def x235 (I : St) (a1 a2 : Int32) : Option (St) := (x231 I a1).bind fun q1 => (x232 q1.2 a2).bind fun q2 => some q2
set_option maxRecDepth 20000 in
theorem x235_D {E : Xe} {R : Nat → Nat → Option Nat} {o : Outcome} {w : Wd} {T : (St) → Prop} {I : St} (a1 a2 : Int32) (hT : ∀ r, T r → o = .returned none ∧ w = wT r R) : Dq (x235 I a1 a2) T → Rn E 235 (0, loc0 235 [.ref 82, .int a1, .int a2], [], wT I R) o w := by
  unfold x235
  refine D.run 2 rfl ?_
  refine D.call rfl rfl rfl rfl (fun q h => x231_ok h) (fun q1 => ?_)
  refine D.run 3 rfl ?_
  refine D.call rfl rfl rfl rfl (fun q h => x232_ok h) (fun q2 => ?_)
  exact fun h => by obtain ⟨rfl, rfl⟩ := hT _ (D.some h); exact Rn.ret rfl rfl rfl
set_option maxRecDepth 20000 in
theorem x235_ok {E : Xe} {R : Nat → Nat → Option Nat} {I : St} {a1 a2 : Int32} {q : St} (h : x235 I a1 a2 = some q) : Rn E 235 (0, loc0 235 [.ref 82, .int a1, .int a2], [], wT I R) (.returned none) (wT q R) := x235_D  _ _ (T := fun r => r = q) (by rintro r rfl; exact ⟨rfl, rfl⟩) ⟨_, h, rfl⟩
/-- TaintHouseModel.take2(III)V -/
def x236 (I : St) (a1 a2 a3 : Int32) : Option (St) := (x231 I a2).bind fun q1 => (x231 q1.2 a1).bind fun q2 => if a3 = 0 then some q2.2 else (x232 q2.2 a3).bind fun q3 => some q3
set_option maxRecDepth 20000 in
theorem x236_D {E : Xe} {R : Nat → Nat → Option Nat} {o : Outcome} {w : Wd} {T : (St) → Prop} {I : St} (a1 a2 a3 : Int32) (hT : ∀ r, T r → o = .returned none ∧ w = wT r R) : Dq (x236 I a1 a2 a3) T → Rn E 236 (0, loc0 236 [.ref 82, .int a1, .int a2, .int a3], [], wT I R) o w := by
  unfold x236
  refine D.run 2 rfl ?_
  refine D.call rfl rfl rfl rfl (fun q h => x231_ok h) (fun q1 => ?_)
  refine D.run 3 rfl ?_
  refine D.call rfl rfl rfl rfl (fun q h => x231_ok h) (fun q2 => ?_)
  refine D.run 2 rfl ?_
  refine D.br rfl (by decide) rfl (fun hc => ?_) (fun hc => ?_)
  · exact fun h => by obtain ⟨rfl, rfl⟩ := hT _ (D.some h); exact Rn.ret rfl rfl rfl
  · refine D.run 2 rfl ?_
    refine D.call rfl rfl rfl rfl (fun q h => x232_ok h) (fun q3 => ?_)
    exact fun h => by obtain ⟨rfl, rfl⟩ := hT _ (D.some h); exact Rn.ret rfl rfl rfl
set_option maxRecDepth 20000 in
theorem x236_ok {E : Xe} {R : Nat → Nat → Option Nat} {I : St} {a1 a2 a3 : Int32} {q : St} (h : x236 I a1 a2 a3 = some q) : Rn E 236 (0, loc0 236 [.ref 82, .int a1, .int a2, .int a3], [], wT I R) (.returned none) (wT q R) := x236_D  _ _ _ (T := fun r => r = q) (by rintro r rfl; exact ⟨rfl, rfl⟩) ⟨_, h, rfl⟩
/-- TaintHouseModel.push(II)V -/
def x239 (I : St) (a1 a2 : Int32) : Option (St) := if inb ((16 * (I 82 55)) + (I 82 65)) 384 then if inb ((16 * (I 82 55)) + (I 82 65)) 384 then Lt (up2 (up2 I 198 ((16 * (I 82 55)) + (I 82 65)).toNatClampNeg a1) 199 ((16 * (I 82 55)) + (I 82 65)).toNatClampNeg a2) fun J1 => some (up2 J1 82 65 ((J1 82 65) + 1)) else none else none
set_option maxRecDepth 20000 in
theorem x239_D {E : Xe} {R : Nat → Nat → Option Nat} {o : Outcome} {w : Wd} {T : (St) → Prop} {I : St} (a1 a2 : Int32) (hT : ∀ r, T r → o = .returned none ∧ w = wT r R) : Dq (x239 I a1 a2) T → Rn E 239 (0, loc0 239 [.ref 82, .int a1, .int a2], [], wT I R) o w := by
  unfold x239
  refine D.run 10 rfl ?_
  refine D.gd fun hg => ?_
  refine D.st rfl (by decide) (as_i (by decide) (by first | rfl | decide) hg.1 hg.2) ?_
  refine D.run 10 rfl ?_
  refine D.gd fun hg => ?_
  refine D.st rfl (by decide) (as_i (by decide) (by first | rfl | decide) hg.1 hg.2) ?_
  refine D.letS (fun J1 => ?_)
  show _ → Rn E 239 (36, [.ref 82, .int a1, .int a2], [], wT J1 R) o w
  refine D.run 6 rfl ?_
  exact fun h => by obtain ⟨rfl, rfl⟩ := hT _ (D.some h); exact Rn.ret rfl rfl rfl
set_option maxRecDepth 20000 in
theorem x239_ok {E : Xe} {R : Nat → Nat → Option Nat} {I : St} {a1 a2 : Int32} {q : St} (h : x239 I a1 a2 = some q) : Rn E 239 (0, loc0 239 [.ref 82, .int a1, .int a2], [], wT I R) (.returned none) (wT q R) := x239_D  _ _ (T := fun r => r = q) (by rintro r rfl; exact ⟨rfl, rfl⟩) ⟨_, h, rfl⟩
/-- TaintHouseModel.pop()I -/
def x240 (I : St) : Option (Int32 × St) := if inb ((16 * (I 82 55)) + ((I 82 65) - 1)) 384 then Lt (up2 (up2 I 82 65 ((I 82 65) - 1)) 82 66 ((up2 I 82 65 ((I 82 65) - 1)) 199 ((16 * (I 82 55)) + ((I 82 65) - 1)).toNatClampNeg)) fun J1 => if inb ((16 * (J1 82 55)) + (J1 82 65)) 384 then some ((J1 198 ((16 * (J1 82 55)) + (J1 82 65)).toNatClampNeg), J1) else none else none
set_option maxRecDepth 20000 in
theorem x240_D {E : Xe} {R : Nat → Nat → Option Nat} {o : Outcome} {w : Wd} {T : (Int32 × St) → Prop} {I : St} (hT : ∀ r, T r → o = .returned (some (.int r.1)) ∧ w = wT r.2 R) : Dq (x240 I) T → Rn E 240 (0, loc0 240 [.ref 82], [], wT I R) o w := by
  unfold x240
  refine D.run 16 rfl ?_
  refine D.gd fun hg => ?_
  refine D.st rfl (by decide) (al_i (by decide) (by first | rfl | decide) hg.1 hg.2) ?_
  refine D.run 1 rfl ?_
  refine D.letS (fun J1 => ?_)
  show _ → Rn E 240 (31, [.ref 82], [], wT J1 R) o w
  refine D.run 9 rfl ?_
  refine D.gd fun hg => ?_
  refine D.st rfl (by decide) (al_i (by decide) (by first | rfl | decide) hg.1 hg.2) ?_
  exact fun h => by obtain ⟨rfl, rfl⟩ := hT _ (D.some h); exact Rn.ret rfl rfl rfl
set_option maxRecDepth 20000 in
theorem x240_ok {E : Xe} {R : Nat → Nat → Option Nat} {I : St} {q : Int32 × St} (h : x240 I = some q) : Rn E 240 (0, loc0 240 [.ref 82], [], wT I R) (.returned (some (.int q.1))) (wT q.2 R) := x240_D  (T := fun r => r = q) (by rintro r rfl; exact ⟨rfl, rfl⟩) ⟨_, h, rfl⟩
/-- TaintHouseModel.sink(I)V -/
def x241 (I : St) (a1 : Int32) : Option (St) := if (I 82 38) = 500 then some (up2 I 82 34 7) else (x240 I).bind fun q1 => if inb (q1.2 82 38) 500 then if inb (q1.2 82 38) 500 then if inb (q1.2 82 38) 500 then Lt (up2 (up2 (up2 q1.2 189 (q1.2 82 38).toNatClampNeg a1) 190 (q1.2 82 38).toNatClampNeg q1.1) 191 (q1.2 82 38).toNatClampNeg (q1.2 82 66)) fun J2 => if inb a1 16 then (if ((J2 167 a1.toNatClampNeg) &&& (J2 82 66)) = 0 then some 0 else some 1).bind fun (q3 : Int32) => if inb (J2 82 38) 500 then if inb (J2 82 38) 500 then if ((up2 J2 192 (J2 82 38).toNatClampNeg (vp_nar .boolean q3)) 192 (J2 82 38).toNatClampNeg) = 0 then Lt (up2 (up2 (up2 J2 192 (J2 82 38).toNatClampNeg (vp_nar .boolean q3)) 82 39 ((J2 82 39) + 0)) 82 38 ((J2 82 38) + 1)) fun J4 => some J4 else Lt (up2 (up2 (up2 J2 192 (J2 82 38).toNatClampNeg (vp_nar .boolean q3)) 82 39 ((J2 82 39) + 1)) 82 38 ((J2 82 38) + 1)) fun J5 => some J5 else none else none else none else none else none else none
set_option maxRecDepth 20000 in
theorem x241_D {E : Xe} {R : Nat → Nat → Option Nat} {o : Outcome} {w : Wd} {T : (St) → Prop} {I : St} (a1 : Int32) (hT : ∀ r, T r → o = .returned none ∧ w = wT r R) : Dq (x241 I a1) T → Rn E 241 (0, loc0 241 [.ref 82, .int a1], [], wT I R) o w := by
  unfold x241
  refine D.run 3 rfl ?_
  refine D.br rfl (by decide) rfl (fun hc => ?_) (fun hc => ?_)
  · refine D.run 3 rfl ?_
    exact fun h => by obtain ⟨rfl, rfl⟩ := hT _ (D.some h); exact Rn.ret rfl rfl rfl
  · refine D.run 1 rfl ?_
    refine D.call rfl rfl rfl rfl (fun q h => x240_ok h) (fun q1 => ?_)
    refine D.run 6 rfl ?_
    refine D.gd fun hg => ?_
    refine D.st rfl (by decide) (as_i (by decide) (by first | rfl | decide) hg.1 hg.2) ?_
    show _ → Rn E 241 (32, [.ref 82, .int a1, .int q1.1], [], wT (up2 q1.2 189 (q1.2 82 38).toNatClampNeg a1) R) o w
    refine D.run 5 rfl ?_
    refine D.gd fun hg => ?_
    refine D.st rfl (by decide) (as_i (by decide) (by first | rfl | decide) hg.1 hg.2) ?_
    refine D.run 6 rfl ?_
    refine D.gd fun hg => ?_
    refine D.st rfl (by decide) (as_i (by decide) (by first | rfl | decide) hg.1 hg.2) ?_
    refine D.letS (fun J2 => ?_)
    show _ → Rn E 241 (55, [.ref 82, .int a1, .int q1.1], [], wT J2 R) o w
    refine D.run 7 rfl ?_
    refine D.gd fun hg => ?_
    refine D.st rfl (by decide) (al_i (by decide) (by first | rfl | decide) hg.1 hg.2) ?_
    refine D.run 3 rfl ?_
    have Kj82 : ∀ (q3 : Int32), Dq (if inb (J2 82 38) 500 then if inb (J2 82 38) 500 then if ((up2 J2 192 (J2 82 38).toNatClampNeg (vp_nar .boolean q3)) 192 (J2 82 38).toNatClampNeg) = 0 then Lt (up2 (up2 (up2 J2 192 (J2 82 38).toNatClampNeg (vp_nar .boolean q3)) 82 39 ((J2 82 39) + 0)) 82 38 ((J2 82 38) + 1)) fun J4 => some J4 else Lt (up2 (up2 (up2 J2 192 (J2 82 38).toNatClampNeg (vp_nar .boolean q3)) 82 39 ((J2 82 39) + 1)) 82 38 ((J2 82 38) + 1)) fun J5 => some J5 else none else none) T → Rn E 241 (82, [.ref 82, .int a1, .int q1.1], [.int q3, .int (J2 82 38), .ref 192], wT J2 R) o w := by
      intro q3
      refine D.gd fun hg => ?_
      refine D.st rfl (by decide) (as_z (by decide) (by first | rfl | decide) hg.1 hg.2) ?_
      refine D.run 7 rfl ?_
      refine D.gd fun hg => ?_
      refine D.st rfl (by decide) (al_b (by decide) (by first | rfl | decide) hg.1 hg.2) ?_
      show _ → Rn E 241 (97, [.ref 82, .int a1, .int q1.1], [.int ((up2 J2 192 (J2 82 38).toNatClampNeg (vp_nar .boolean q3)) 192 (J2 82 38).toNatClampNeg), .int (J2 82 39), .ref 82], wT (up2 J2 192 (J2 82 38).toNatClampNeg (vp_nar .boolean q3)) R) o w
      refine D.br rfl (by decide) rfl (fun hc => ?_) (fun hc => ?_)
      · refine D.run 9 rfl ?_
        refine D.letS (fun J4 => ?_)
        exact fun h => by obtain ⟨rfl, rfl⟩ := hT _ (D.some h); exact Rn.ret rfl rfl rfl
      · refine D.run 10 rfl ?_
        refine D.letS (fun J5 => ?_)
        exact fun h => by obtain ⟨rfl, rfl⟩ := hT _ (D.some h); exact Rn.ret rfl rfl rfl
    refine D.jn (fun T82 c82 => ?_)
    refine D.br rfl (by decide) rfl (fun hc => ?_) (fun hc => ?_)
    · refine D.run 1 rfl ?_
      exact fun h => Kj82 _   (c82 _ (D.some h))
    · refine D.run 2 rfl ?_
      exact fun h => Kj82 _   (c82 _ (D.some h))
set_option maxRecDepth 20000 in
theorem x241_ok {E : Xe} {R : Nat → Nat → Option Nat} {I : St} {a1 : Int32} {q : St} (h : x241 I a1 = some q) : Rn E 241 (0, loc0 241 [.ref 82, .int a1], [], wT I R) (.returned none) (wT q R) := x241_D  _ (T := fun r => r = q) (by rintro r rfl; exact ⟨rfl, rfl⟩) ⟨_, h, rfl⟩
/-- TaintHouseModel.make(II)I -/
def l244_83 (b2 : Int32) (b3 : Int32) : Nat → Int32 → St → Option (St)
  | 0, _, _ => none
  | n + 1, b4, I => if b2 ≤ b4 then some I else if inb ((I 82 48) + b4) 3001 then if inb ((I 82 48) + b4) 3001 then l244_83 b2 b3 n (b4 + 1) (up2 (up2 I 185 ((I 82 48) + b4).toNatClampNeg 0) 186 ((I 82 48) + b4).toNatClampNeg 0) else none else none
set_option maxRecDepth 20000 in
theorem l244_83_ok {E : Xe} {R : Nat → Nat → Option Nat} {o : Outcome} {w : Wd} {T : (St) → Prop} {b2 : Int32} {b3 : Int32} (K : ∀ (q : St) (e1 : Value) (_ : is1 e1 = true) (e4 : Value) (_ : is1 e4 = true), T q → Rn E 244 (121, [.ref 82, e1, .int b2, .int b3, e4], [], wT q R) o w) : ∀ (n : Nat) (b4 : Int32) (d1 : Value) (I : St), is1 d1 = true → Dq (l244_83 b2 b3 n b4 I) T → Rn E 244 (83, [.ref 82, d1, .int b2, .int b3, .int b4], [], wT I R) o w := by
  intro n
  induction n with
  | zero => intro b4 d1 I hd1; exact D.none
  | succ n ih =>
    intro b4 d1 I hd1
    rw [l244_83]
    refine D.run 2 rfl ?_
    refine D.br rfl (by decide) rfl (fun hc => ?_) (fun hc => ?_)
    · exact fun h => D.to h (K _ _ (by first | rfl | assumption) _ (by first | rfl | assumption))
    · refine D.run 7 rfl ?_
      refine D.gd fun hg => ?_
      refine D.st rfl (by decide) (as_i (by decide) (by first | rfl | decide) hg.1 hg.2) ?_
      refine D.run 7 rfl ?_
      refine D.gd fun hg => ?_
      refine D.st rfl (by decide) (as_i (by decide) (by first | rfl | decide) hg.1 hg.2) ?_
      show _ → Rn E 244 (115, [.ref 82, d1, .int b2, .int b3, .int b4], [], wT (up2 (up2 I 185 ((I 82 48) + b4).toNatClampNeg 0) 186 ((I 82 48) + b4).toNatClampNeg 0) R) o w
      refine D.run 2 rfl ?_
      exact ih _ _ _ (by first | rfl | assumption)
def x244 (I : St) (a1 a2 : Int32) : Option (Int32 × St) := if (((I 82 41) + 1) + a2) ≤ 3000 then if inb (I 82 40) 3001 then Lt (up2 (up2 (up2 I 82 41 ((I 82 41) + (1 + a2))) 82 40 ((I 82 40) + 1)) 181 (I 82 40).toNatClampNeg a1) fun J1 => if inb (I 82 40) 3001 then if inb (I 82 40) 3001 then if inb (I 82 40) 3001 then Lt (up2 (up2 (up2 J1 182 (I 82 40).toNatClampNeg (J1 82 48)) 183 (I 82 40).toNatClampNeg a2) 184 (I 82 40).toNatClampNeg 0) fun J2 => (l244_83 a2 (I 82 40) 100000 0 J2).bind fun q3 => some (((I 82 40) + 1), (up2 q3 82 48 ((q3 82 48) + a2))) else none else none else none else none else some (0, (up2 I 82 34 6))
set_option maxRecDepth 20000 in
theorem x244_D {E : Xe} {R : Nat → Nat → Option Nat} {o : Outcome} {w : Wd} {T : (Int32 × St) → Prop} {I : St} (a1 a2 : Int32) (hT : ∀ r, T r → o = .returned (some (.int r.1)) ∧ w = wT r.2 R) : Dq (x244 I a1 a2) T → Rn E 244 (0, loc0 244 [.ref 82, .int a1, .int a2], [], wT I R) o w := by
  unfold x244
  refine D.run 7 rfl ?_
  refine D.br rfl (by decide) rfl (fun hc => ?_) (fun hc => ?_)
  · refine D.run 21 rfl ?_
    refine D.gd fun hg => ?_
    refine D.st rfl (by decide) (as_i (by decide) (by first | rfl | decide) hg.1 hg.2) ?_
    refine D.letS (fun J1 => ?_)
    refine D.run 5 rfl ?_
    refine D.gd fun hg => ?_
    refine D.st rfl (by decide) (as_i (by decide) (by first | rfl | decide) hg.1 hg.2) ?_
    show _ → Rn E 244 (66, [.ref 82, .int a1, .int a2, .int (I 82 40), us], [], wT (up2 J1 182 (I 82 40).toNatClampNeg (J1 82 48)) R) o w
    refine D.run 4 rfl ?_
    refine D.gd fun hg => ?_
    refine D.st rfl (by decide) (as_i (by decide) (by first | rfl | decide) hg.1 hg.2) ?_
    refine D.run 4 rfl ?_
    refine D.gd fun hg => ?_
    refine D.st rfl (by decide) (as_i (by decide) (by first | rfl | decide) hg.1 hg.2) ?_
    refine D.letS (fun J2 => ?_)
    show _ → Rn E 244 (80, [.ref 82, .int a1, .int a2, .int (I 82 40), us], [], wT J2 R) o w
    refine D.run 2 rfl ?_
    refine D.bind (l244_83_ok  (fun q3 e4 he4 e5 he5 => ?_) 100000 _ _ _ (by first | rfl | assumption))
    refine D.run 9 rfl ?_
    exact fun h => by obtain ⟨rfl, rfl⟩ := hT _ (D.some h); exact Rn.ret rfl rfl rfl
  · refine D.run 4 rfl ?_
    exact fun h => by obtain ⟨rfl, rfl⟩ := hT _ (D.some h); exact Rn.ret rfl rfl rfl
set_option maxRecDepth 20000 in
theorem x244_ok {E : Xe} {R : Nat → Nat → Option Nat} {I : St} {a1 a2 : Int32} {q : Int32 × St} (h : x244 I a1 a2 = some q) : Rn E 244 (0, loc0 244 [.ref 82, .int a1, .int a2], [], wT I R) (.returned (some (.int q.1))) (wT q.2 R) := x244_D  _ _ (T := fun r => r = q) (by rintro r rfl; exact ⟨rfl, rfl⟩) ⟨_, h, rfl⟩
/-- TaintHouseModel.isOf(II)Z -/
def l246_23 (Q : Nat) (b2 : Int32) : Nat → Int32 → St → Option (Int32)
  | 0, _, _ => none
  | n + 1, b3, I => if b3 = (-1) then some b3 else if b3 = b2 then some b3 else if inb b3 19 then l246_23 Q b2 n (I (Q + 8) b3.toNatClampNeg) I else none
set_option maxRecDepth 20000 in
theorem l246_23_ok {E : Xe} {R : Nat → Nat → Option Nat} {Q : Nat} {I0 : St} {o : Outcome} {w : Wd} {T : (Int32) → Prop} {b2 : Int32} (hQ : Q = 85 ∨ Q = 126) (h82_3 : R 82 3 = some Q) (K : ∀ (q : Int32) (e1 : Value) (_ : is1 e1 = true), T q → Rn E 246 (46, [.ref 82, e1, .int b2, .int q], [], wT I0 R) o w) : ∀ (n : Nat) (b3 : Int32) (d1 : Value), is1 d1 = true → Dq (l246_23 Q b2 n b3 I0) T → Rn E 246 (23, [.ref 82, d1, .int b2, .int b3], [], wT I0 R) o w := by
  rcases hQ with rfl | rfl
  · intro n
    induction n with
    | zero => intro b3 d1 hd1; exact D.none
    | succ n ih =>
      intro b3 d1 hd1
      rw [l246_23]
      refine D.run 2 rfl ?_
      refine D.br rfl (by decide) rfl (fun hc => ?_) (fun hc => ?_)
      · exact fun h => D.to h (K _ _ (by first | rfl | assumption))
      · refine D.run 2 rfl ?_
        refine D.br rfl (by decide) rfl (fun hc => ?_) (fun hc => ?_)
        · exact fun h => D.to h (K _ _ (by first | rfl | assumption))
        · refine D.run 1 rfl ?_
          refine D.st rfl (by decide) (gf_1 h82_3) ?_
          refine D.run 2 rfl ?_
          refine D.gd fun hg => ?_
          refine D.st rfl (by decide) (al_i (by decide) (by first | rfl | decide) hg.1 hg.2) ?_
          show _ → Rn E 246 (42, [.ref 82, d1, .int b2, .int b3], [.int (I0 (85 + 8) b3.toNatClampNeg)], wT I0 R) o w
          refine D.run 2 rfl ?_
          exact ih _ _  (by first | rfl | assumption)
  · intro n
    induction n with
    | zero => intro b3 d1 hd1; exact D.none
    | succ n ih =>
      intro b3 d1 hd1
      rw [l246_23]
      refine D.run 2 rfl ?_
      refine D.br rfl (by decide) rfl (fun hc => ?_) (fun hc => ?_)
      · exact fun h => D.to h (K _ _ (by first | rfl | assumption))
      · refine D.run 2 rfl ?_
        refine D.br rfl (by decide) rfl (fun hc => ?_) (fun hc => ?_)
        · exact fun h => D.to h (K _ _ (by first | rfl | assumption))
        · refine D.run 1 rfl ?_
          refine D.st rfl (by decide) (gf_1 h82_3) ?_
          refine D.run 2 rfl ?_
          refine D.gd fun hg => ?_
          refine D.st rfl (by decide) (al_i (by decide) (by first | rfl | decide) hg.1 hg.2) ?_
          show _ → Rn E 246 (42, [.ref 82, d1, .int b2, .int b3], [.int (I0 (126 + 8) b3.toNatClampNeg)], wT I0 R) o w
          refine D.run 2 rfl ?_
          exact ih _ _  (by first | rfl | assumption)
def x246 (Q : Nat) (I : St) (a1 a2 : Int32) : Option (Int32) := if inb (a1 - 1) 3001 then if 0 ≤ (I 181 (a1 - 1).toNatClampNeg) then (l246_23 Q a2 100000 (I 181 (a1 - 1).toNatClampNeg) I).bind fun q1 => if q1 = a2 then some 1 else some 0 else if a2 = 0 then some 1 else some 0 else none
set_option maxRecDepth 20000 in
theorem x246_D {E : Xe} {R : Nat → Nat → Option Nat} {Q : Nat} {o : Outcome} {w : Wd} {T : (Int32) → Prop} {I : St} (hQ : Q = 85 ∨ Q = 126) (h82_3 : R 82 3 = some Q) (a1 a2 : Int32) (hT : ∀ r, T r → o = .returned (some (.int r)) ∧ w = wT I R) : Dq (x246 Q I a1 a2) T → Rn E 246 (0, loc0 246 [.ref 82, .int a1, .int a2], [], wT I R) o w := by
  unfold x246
  rcases hQ with rfl | rfl
  all_goals
    refine D.run 5 rfl ?_
    refine D.gd fun hg => ?_
    refine D.st rfl (by decide) (al_i (by decide) (by first | rfl | decide) hg.1 hg.2) ?_
    refine D.run 2 rfl ?_
    refine D.br rfl (by decide) rfl (fun hc => ?_) (fun hc => ?_)
    · refine D.bind (l246_23_ok (by decide) h82_3 (fun q1 e2 he2 => ?_) 100000 _ _  (by first | rfl | assumption))
      refine D.run 2 rfl ?_
      refine D.br rfl (by decide) rfl (fun hc => ?_) (fun hc => ?_)
      · refine D.run 2 rfl ?_
        exact fun h => by obtain ⟨rfl, rfl⟩ := hT _ (D.some h); exact Rn.ret rfl rfl (by first | rfl | (simp [rt1, rt]; done) | decide)
      · refine D.run 1 rfl ?_
        exact fun h => by obtain ⟨rfl, rfl⟩ := hT _ (D.some h); exact Rn.ret rfl rfl (by first | rfl | (simp [rt1, rt]; done) | decide)
    · refine D.run 1 rfl ?_
      refine D.br rfl (by decide) rfl (fun hc => ?_) (fun hc => ?_)
      · refine D.run 2 rfl ?_
        exact fun h => by obtain ⟨rfl, rfl⟩ := hT _ (D.some h); exact Rn.ret rfl rfl (by first | rfl | (simp [rt1, rt]; done) | decide)
      · refine D.run 1 rfl ?_
        exact fun h => by obtain ⟨rfl, rfl⟩ := hT _ (D.some h); exact Rn.ret rfl rfl (by first | rfl | (simp [rt1, rt]; done) | decide)
set_option maxRecDepth 20000 in
theorem x246_ok {E : Xe} {R : Nat → Nat → Option Nat} {Q : Nat} {I : St} (hQ : Q = 85 ∨ Q = 126) (h82_3 : R 82 3 = some Q) {a1 a2 : Int32} {q : Int32} (h : x246 Q I a1 a2 = some q) : Rn E 246 (0, loc0 246 [.ref 82, .int a1, .int a2], [], wT I R) (.returned (some (.int q))) (wT I R) := x246_D hQ h82_3 _ _ (T := fun r => r = q) (by rintro r rfl; exact ⟨rfl, rfl⟩) ⟨_, h, rfl⟩
/-- TaintHouseModel.leave()V -/
def x247 (I : St) : Option (St) := if inb ((I 82 55) - 1) 24 then Lt (up2 (up2 I 82 55 ((I 82 55) - 1)) 82 63 ((up2 I 82 55 ((I 82 55) - 1)) 193 ((I 82 55) - 1).toNatClampNeg)) fun J1 => if inb (J1 82 55) 24 then if inb (J1 82 55) 24 then Lt (up2 (up2 J1 82 64 (J1 194 (J1 82 55).toNatClampNeg)) 82 65 ((up2 J1 82 64 (J1 194 (J1 82 55).toNatClampNeg)) 195 (J1 82 55).toNatClampNeg)) fun J2 => some J2 else none else none else none
set_option maxRecDepth 20000 in
theorem x247_D {E : Xe} {R : Nat → Nat → Option Nat} {o : Outcome} {w : Wd} {T : (St) → Prop} {I : St} (hT : ∀ r, T r → o = .returned none ∧ w = wT r R) : Dq (x247 I) T → Rn E 247 (0, loc0 247 [.ref 82], [], wT I R) o w := by
  unfold x247
  refine D.run 11 rfl ?_
  refine D.gd fun hg => ?_
  refine D.st rfl (by decide) (al_i (by decide) (by first | rfl | decide) hg.1 hg.2) ?_
  refine D.run 1 rfl ?_
  refine D.letS (fun J1 => ?_)
  show _ → Rn E 247 (23, [.ref 82], [], wT J1 R) o w
  refine D.run 5 rfl ?_
  refine D.gd fun hg => ?_
  refine D.st rfl (by decide) (al_i (by decide) (by first | rfl | decide) hg.1 hg.2) ?_
  refine D.run 6 rfl ?_
  refine D.gd fun hg => ?_
  refine D.st rfl (by decide) (al_i (by decide) (by first | rfl | decide) hg.1 hg.2) ?_
  show _ → Rn E 247 (46, [.ref 82], [.int ((up2 J1 82 64 (J1 194 (J1 82 55).toNatClampNeg)) 195 (J1 82 55).toNatClampNeg), .ref 82], wT (up2 J1 82 64 (J1 194 (J1 82 55).toNatClampNeg)) R) o w
  refine D.run 1 rfl ?_
  refine D.letS (fun J2 => ?_)
  exact fun h => by obtain ⟨rfl, rfl⟩ := hT _ (D.some h); exact Rn.ret rfl rfl rfl
set_option maxRecDepth 20000 in
theorem x247_ok {E : Xe} {R : Nat → Nat → Option Nat} {I : St} {q : St} (h : x247 I = some q) : Rn E 247 (0, loc0 247 [.ref 82], [], wT I R) (.returned none) (wT q R) := x247_D  (T := fun r => r = q) (by rintro r rfl; exact ⟨rfl, rfl⟩) ⟨_, h, rfl⟩
/-- TaintHouseModel.compute(III)I -/
def x248 (I : St) (a0 a1 a2 : Int32) : Option (Int32) := if a0 = 0 then some (a1 + a2) else if a0 = 1 then some (a1 - a2) else if a0 = 2 then some (a1 * a2) else if a0 = 3 then if a2 = (-1) then some (-a1) else if a2 = 0 then none else some (a1 / a2) else if a0 = 4 then if a2 = (-1) then some 0 else if a2 = 0 then none else some (a1 - a1 / a2 * a2) else if a0 = 5 then some (a1 &&& a2) else if a0 = 6 then some (a1 ||| a2) else if a0 = 7 then some (a1 ^^^ a2) else if a0 = 8 then some (a1 <<< ((a2 &&& 31) &&& 31)) else if a0 = 9 then some (a1 >>> ((a2 &&& 31) &&& 31)) else some (ushr a1 (a2 &&& 31))
set_option maxRecDepth 20000 in
theorem x248_D {E : Xe} {R : Nat → Nat → Option Nat} {o : Outcome} {w : Wd} {T : (Int32) → Prop} {I : St} (a0 a1 a2 : Int32) (hT : ∀ r, T r → o = .returned (some (.int r)) ∧ w = wT I R) : Dq (x248 I a0 a1 a2) T → Rn E 248 (0, loc0 248 [.int a0, .int a1, .int a2], [], wT I R) o w := by
  unfold x248
  refine D.run 1 rfl ?_
  refine D.sw rfl (by decide) rfl ?_
  show _ → Rn E 248 (swT [(0, 56), (1, 60), (2, 64), (3, 68), (4, 82), (5, 95), (6, 99), (7, 103), (8, 107), (9, 114)] 121 _, _, _, _) _ _
  refine D.swc (fun hc => ?_) (fun hc => ?_)
  · refine D.run 3 rfl ?_
    exact fun h => by obtain ⟨rfl, rfl⟩ := hT _ (D.some h); exact Rn.ret rfl rfl rfl
  · refine D.swc (fun hc => ?_) (fun hc => ?_)
    · refine D.run 3 rfl ?_
      exact fun h => by obtain ⟨rfl, rfl⟩ := hT _ (D.some h); exact Rn.ret rfl rfl rfl
    · refine D.swc (fun hc => ?_) (fun hc => ?_)
      · refine D.run 3 rfl ?_
        exact fun h => by obtain ⟨rfl, rfl⟩ := hT _ (D.some h); exact Rn.ret rfl rfl rfl
      · refine D.swc (fun hc => ?_) (fun hc => ?_)
        · refine D.run 2 rfl ?_
          refine D.br rfl (by decide) rfl (fun hc => ?_) (fun hc => ?_)
          · refine D.run 3 rfl ?_
            exact fun h => by obtain ⟨rfl, rfl⟩ := hT _ (D.some h); exact Rn.ret rfl rfl rfl
          · refine D.run 2 rfl ?_
            refine D.gn fun hg => ?_
            refine D.st rfl (by decide) (div_s hg) ?_
            exact fun h => by obtain ⟨rfl, rfl⟩ := hT _ (D.some h); exact Rn.ret rfl rfl rfl
        · refine D.swc (fun hc => ?_) (fun hc => ?_)
          · refine D.run 2 rfl ?_
            refine D.br rfl (by decide) rfl (fun hc => ?_) (fun hc => ?_)
            · refine D.run 2 rfl ?_
              exact fun h => by obtain ⟨rfl, rfl⟩ := hT _ (D.some h); exact Rn.ret rfl rfl rfl
            · refine D.run 2 rfl ?_
              refine D.gn fun hg => ?_
              refine D.st rfl (by decide) (rem_s hg) ?_
              exact fun h => by obtain ⟨rfl, rfl⟩ := hT _ (D.some h); exact Rn.ret rfl rfl rfl
          · refine D.swc (fun hc => ?_) (fun hc => ?_)
            · refine D.run 3 rfl ?_
              exact fun h => by obtain ⟨rfl, rfl⟩ := hT _ (D.some h); exact Rn.ret rfl rfl rfl
            · refine D.swc (fun hc => ?_) (fun hc => ?_)
              · refine D.run 3 rfl ?_
                exact fun h => by obtain ⟨rfl, rfl⟩ := hT _ (D.some h); exact Rn.ret rfl rfl rfl
              · refine D.swc (fun hc => ?_) (fun hc => ?_)
                · refine D.run 3 rfl ?_
                  exact fun h => by obtain ⟨rfl, rfl⟩ := hT _ (D.some h); exact Rn.ret rfl rfl rfl
                · refine D.swc (fun hc => ?_) (fun hc => ?_)
                  · refine D.run 5 rfl ?_
                    exact fun h => by obtain ⟨rfl, rfl⟩ := hT _ (D.some h); exact Rn.ret rfl rfl rfl
                  · refine D.swc (fun hc => ?_) (fun hc => ?_)
                    · refine D.run 5 rfl ?_
                      exact fun h => by obtain ⟨rfl, rfl⟩ := hT _ (D.some h); exact Rn.ret rfl rfl rfl
                    · refine D.run 5 rfl ?_
                      exact fun h => by obtain ⟨rfl, rfl⟩ := hT _ (D.some h); exact Rn.ret rfl rfl rfl
set_option maxRecDepth 20000 in
theorem x248_ok {E : Xe} {R : Nat → Nat → Option Nat} {I : St} {a0 a1 a2 : Int32} {q : Int32} (h : x248 I a0 a1 a2 = some q) : Rn E 248 (0, loc0 248 [.int a0, .int a1, .int a2], [], wT I R) (.returned (some (.int q))) (wT I R) := x248_D  _ _ _ (T := fun r => r = q) (by rintro r rfl; exact ⟨rfl, rfl⟩) ⟨_, h, rfl⟩
/-- TaintHouseModel.holds(III)Z -/
def x250 (I : St) (a0 a1 a2 : Int32) : Int32 := if a0 = 0 then if a1 = a2 then 1 else 0 else if a0 = 1 then if a1 = a2 then 0 else 1 else if a0 = 2 then if a2 ≤ a1 then 0 else 1 else if a0 = 3 then if a1 < a2 then 0 else 1 else if a0 = 4 then if a1 ≤ a2 then 0 else 1 else if a2 < a1 then 0 else 1
set_option maxRecDepth 20000 in
theorem x250_ok {E : Xe} {R : Nat → Nat → Option Nat} {I : St} (a0 a1 a2 : Int32) : Rn E 250 (0, loc0 250 [.int a0, .int a1, .int a2], [], wT I R) (.returned (some (.int (x250 I a0 a1 a2)))) (wT I R) := by
  have H : ∀ (o : Outcome) (w : Wd) (T : Int32 → Prop), (∀ r, T r → o = .returned (some (.int r)) ∧ w = wT I R) → Dq (some (x250 I a0 a1 a2)) T → Rn E 250 (0, loc0 250 [.int a0, .int a1, .int a2], [], wT I R) o w := by
    intro o w T hT
    unfold x250
    refine D.run 1 rfl ?_
    refine D.sw rfl (by decide) rfl ?_
    show _ → Rn E 250 (swT [(0, 36), (1, 47), (2, 58), (3, 69), (4, 80)] 91 _, _, _, _) _ _
    refine D.swcp (fun hc => ?_) (fun hc => ?_)
    · refine D.run 2 rfl ?_
      refine D.brp rfl (by decide) rfl (fun hc => ?_) (fun hc => ?_)
      · refine D.run 2 rfl ?_
        exact fun h => by obtain ⟨rfl, rfl⟩ := hT _ (D.some h); exact Rn.ret rfl rfl (by first | rfl | (simp [rt1, rt]; done) | decide)
      · refine D.run 1 rfl ?_
        exact fun h => by obtain ⟨rfl, rfl⟩ := hT _ (D.some h); exact Rn.ret rfl rfl (by first | rfl | (simp [rt1, rt]; done) | decide)
    · refine D.swcp (fun hc => ?_) (fun hc => ?_)
      · refine D.run 2 rfl ?_
        refine D.brp rfl (by decide) rfl (fun hc => ?_) (fun hc => ?_)
        · refine D.run 1 rfl ?_
          exact fun h => by obtain ⟨rfl, rfl⟩ := hT _ (D.some h); exact Rn.ret rfl rfl (by first | rfl | (simp [rt1, rt]; done) | decide)
        · refine D.run 2 rfl ?_
          exact fun h => by obtain ⟨rfl, rfl⟩ := hT _ (D.some h); exact Rn.ret rfl rfl (by first | rfl | (simp [rt1, rt]; done) | decide)
      · refine D.swcp (fun hc => ?_) (fun hc => ?_)
        · refine D.run 2 rfl ?_
          refine D.brp rfl (by decide) rfl (fun hc => ?_) (fun hc => ?_)
          · refine D.run 1 rfl ?_
            exact fun h => by obtain ⟨rfl, rfl⟩ := hT _ (D.some h); exact Rn.ret rfl rfl (by first | rfl | (simp [rt1, rt]; done) | decide)
          · refine D.run 2 rfl ?_
            exact fun h => by obtain ⟨rfl, rfl⟩ := hT _ (D.some h); exact Rn.ret rfl rfl (by first | rfl | (simp [rt1, rt]; done) | decide)
        · refine D.swcp (fun hc => ?_) (fun hc => ?_)
          · refine D.run 2 rfl ?_
            refine D.brp rfl (by decide) rfl (fun hc => ?_) (fun hc => ?_)
            · refine D.run 1 rfl ?_
              exact fun h => by obtain ⟨rfl, rfl⟩ := hT _ (D.some h); exact Rn.ret rfl rfl (by first | rfl | (simp [rt1, rt]; done) | decide)
            · refine D.run 2 rfl ?_
              exact fun h => by obtain ⟨rfl, rfl⟩ := hT _ (D.some h); exact Rn.ret rfl rfl (by first | rfl | (simp [rt1, rt]; done) | decide)
          · refine D.swcp (fun hc => ?_) (fun hc => ?_)
            · refine D.run 2 rfl ?_
              refine D.brp rfl (by decide) rfl (fun hc => ?_) (fun hc => ?_)
              · refine D.run 1 rfl ?_
                exact fun h => by obtain ⟨rfl, rfl⟩ := hT _ (D.some h); exact Rn.ret rfl rfl (by first | rfl | (simp [rt1, rt]; done) | decide)
              · refine D.run 2 rfl ?_
                exact fun h => by obtain ⟨rfl, rfl⟩ := hT _ (D.some h); exact Rn.ret rfl rfl (by first | rfl | (simp [rt1, rt]; done) | decide)
            · refine D.run 2 rfl ?_
              refine D.brp rfl (by decide) rfl (fun hc => ?_) (fun hc => ?_)
              · refine D.run 1 rfl ?_
                exact fun h => by obtain ⟨rfl, rfl⟩ := hT _ (D.some h); exact Rn.ret rfl rfl (by first | rfl | (simp [rt1, rt]; done) | decide)
              · refine D.run 2 rfl ?_
                exact fun h => by obtain ⟨rfl, rfl⟩ := hT _ (D.some h); exact Rn.ret rfl rfl (by first | rfl | (simp [rt1, rt]; done) | decide)
  exact H _ _ (fun r => r = x250 I a0 a1 a2) (by rintro r rfl; exact ⟨rfl, rfl⟩) ⟨_, rfl, rfl⟩
/-- TaintHouseModel.fieldsOf(I)I -/
def l252_12 (Q : Nat) (b3 : Int32) : Nat → Int32 → Int32 → St → Option (Int32)
  | 0, _, _, _ => none
  | n + 1, b2, b4, I => if (I Q 7) ≤ b4 then some b2 else if inb b4 100 then if (I (Q + 9) b4.toNatClampNeg) = b3 then l252_12 Q b3 n (b2 + 1) (b4 + 1) I else l252_12 Q b3 n (b2 + 0) (b4 + 1) I else none
set_option maxRecDepth 20000 in
theorem l252_12_ok {E : Xe} {R : Nat → Nat → Option Nat} {Q : Nat} {I0 : St} {o : Outcome} {w : Wd} {T : (Int32) → Prop} {b3 : Int32} (hQ : Q = 85 ∨ Q = 126) (h82_3 : R 82 3 = some Q) (K : ∀ (q : Int32) (e1 : Value) (_ : is1 e1 = true) (e4 : Value) (_ : is1 e4 = true), T q → Rn E 252 (52, [.ref 82, e1, .int q, .int b3, e4], [], wT I0 R) o w) : ∀ (n : Nat) (b2 : Int32) (b4 : Int32) (d1 : Value), is1 d1 = true → Dq (l252_12 Q b3 n b2 b4 I0) T → Rn E 252 (12, [.ref 82, d1, .int b2, .int b3, .int b4], [], wT I0 R) o w := by
  rcases hQ with rfl | rfl
  · intro n
    induction n with
    | zero => intro b2 b4 d1 hd1; exact D.none
    | succ n ih =>
      intro b2 b4 d1 hd1
      rw [l252_12]
      refine D.run 2 rfl ?_
      refine D.st rfl (by decide) (gf_1 h82_3) ?_
      refine D.run 1 rfl ?_
      refine D.br rfl (by decide) rfl (fun hc => ?_) (fun hc => ?_)
      · exact fun h => D.to h (K _ _ (by first | rfl | assumption) _ (by first | rfl | assumption))
      · refine D.run 2 rfl ?_
        refine D.st rfl (by decide) (gf_1 h82_3) ?_
        refine D.run 2 rfl ?_
        refine D.gd fun hg => ?_
        refine D.st rfl (by decide) (al_i (by decide) (by first | rfl | decide) hg.1 hg.2) ?_
        show _ → Rn E 252 (35, [.ref 82, d1, .int b2, .int b3, .int b4], [.int (I0 (85 + 9) b4.toNatClampNeg), .int b2], wT I0 R) o w
        refine D.run 1 rfl ?_
        refine D.br rfl (by decide) rfl (fun hc => ?_) (fun hc => ?_)
        · refine D.run 3 rfl ?_
          refine D.st rfl (by decide) (istn_d rfl (by first | rfl | assumption) rfl) ?_
          refine D.run 2 rfl ?_
          exact ih _ _ _  (by first | rfl | assumption)
        · refine D.run 2 rfl ?_
          refine D.st rfl (by decide) (istn_d rfl (by first | rfl | assumption) rfl) ?_
          refine D.run 2 rfl ?_
          exact ih _ _ _  (by first | rfl | assumption)
  · intro n
    induction n with
    | zero => intro b2 b4 d1 hd1; exact D.none
    | succ n ih =>
      intro b2 b4 d1 hd1
      rw [l252_12]
      refine D.run 2 rfl ?_
      refine D.st rfl (by decide) (gf_1 h82_3) ?_
      refine D.run 1 rfl ?_
      refine D.br rfl (by decide) rfl (fun hc => ?_) (fun hc => ?_)
      · exact fun h => D.to h (K _ _ (by first | rfl | assumption) _ (by first | rfl | assumption))
      · refine D.run 2 rfl ?_
        refine D.st rfl (by decide) (gf_1 h82_3) ?_
        refine D.run 2 rfl ?_
        refine D.gd fun hg => ?_
        refine D.st rfl (by decide) (al_i (by decide) (by first | rfl | decide) hg.1 hg.2) ?_
        show _ → Rn E 252 (35, [.ref 82, d1, .int b2, .int b3, .int b4], [.int (I0 (126 + 9) b4.toNatClampNeg), .int b2], wT I0 R) o w
        refine D.run 1 rfl ?_
        refine D.br rfl (by decide) rfl (fun hc => ?_) (fun hc => ?_)
        · refine D.run 3 rfl ?_
          refine D.st rfl (by decide) (istn_d rfl (by first | rfl | assumption) rfl) ?_
          refine D.run 2 rfl ?_
          exact ih _ _ _  (by first | rfl | assumption)
        · refine D.run 2 rfl ?_
          refine D.st rfl (by decide) (istn_d rfl (by first | rfl | assumption) rfl) ?_
          refine D.run 2 rfl ?_
          exact ih _ _ _  (by first | rfl | assumption)
def l252_4 (Q : Nat) : Nat → Int32 → Int32 → St → Option (Int32)
  | 0, _, _, _ => none
  | n + 1, b2, b3, I => if b3 = (-1) then some b2 else (l252_12 Q b3 100000 b2 0 I).bind fun q1 => if inb b3 19 then l252_4 Q n q1 (I (Q + 8) b3.toNatClampNeg) I else none
set_option maxRecDepth 20000 in
theorem l252_4_ok {E : Xe} {R : Nat → Nat → Option Nat} {Q : Nat} {I0 : St} {o : Outcome} {w : Wd} {T : (Int32) → Prop} (hQ : Q = 85 ∨ Q = 126) (h82_3 : R 82 3 = some Q) (K : ∀ (q : Int32) (e1 : Value) (_ : is1 e1 = true) (e3 : Value) (_ : is1 e3 = true) (e4 : Value) (_ : is1 e4 = true), T q → Rn E 252 (65, [.ref 82, e1, .int q, e3, e4], [], wT I0 R) o w) : ∀ (n : Nat) (b2 : Int32) (b3 : Int32) (d1 : Value) (d4 : Value), is1 d1 = true → is1 d4 = true → Dq (l252_4 Q n b2 b3 I0) T → Rn E 252 (4, [.ref 82, d1, .int b2, .int b3, d4], [], wT I0 R) o w := by
  rcases hQ with rfl | rfl
  · intro n
    induction n with
    | zero => intro b2 b3 d1 d4 hd1 hd4; exact D.none
    | succ n ih =>
      intro b2 b3 d1 d4 hd1 hd4
      rw [l252_4]
      refine D.run 2 rfl ?_
      refine D.br rfl (by decide) rfl (fun hc => ?_) (fun hc => ?_)
      · exact fun h => D.to h (K _ _ (by first | rfl | assumption) _ (by first | rfl | assumption) _ (by first | rfl | assumption))
      · refine D.run 2 rfl ?_
        refine D.bind (l252_12_ok (by decide) h82_3 (fun q1 e2 he2 e3 he3 => ?_) 100000 _ _ _  (by first | rfl | assumption))
        refine D.run 1 rfl ?_
        refine D.st rfl (by decide) (gf_1 h82_3) ?_
        refine D.run 2 rfl ?_
        refine D.gd fun hg => ?_
        refine D.st rfl (by decide) (al_i (by decide) (by first | rfl | decide) hg.1 hg.2) ?_
        show _ → Rn E 252 (61, [.ref 82, e2, .int q1, .int b3, e3], [.int (I0 (85 + 8) b3.toNatClampNeg)], wT I0 R) o w
        refine D.run 2 rfl ?_
        exact ih _ _ _ _  (by first | rfl | assumption) (by first | rfl | assumption)
  · intro n
    induction n with
    | zero => intro b2 b3 d1 d4 hd1 hd4; exact D.none
    | succ n ih =>
      intro b2 b3 d1 d4 hd1 hd4
      rw [l252_4]
      refine D.run 2 rfl ?_
      refine D.br rfl (by decide) rfl (fun hc => ?_) (fun hc => ?_)
      · exact fun h => D.to h (K _ _ (by first | rfl | assumption) _ (by first | rfl | assumption) _ (by first | rfl | assumption))
      · refine D.run 2 rfl ?_
        refine D.bind (l252_12_ok (by decide) h82_3 (fun q1 e2 he2 e3 he3 => ?_) 100000 _ _ _  (by first | rfl | assumption))
        refine D.run 1 rfl ?_
        refine D.st rfl (by decide) (gf_1 h82_3) ?_
        refine D.run 2 rfl ?_
        refine D.gd fun hg => ?_
        refine D.st rfl (by decide) (al_i (by decide) (by first | rfl | decide) hg.1 hg.2) ?_
        show _ → Rn E 252 (61, [.ref 82, e2, .int q1, .int b3, e3], [.int (I0 (126 + 8) b3.toNatClampNeg)], wT I0 R) o w
        refine D.run 2 rfl ?_
        exact ih _ _ _ _  (by first | rfl | assumption) (by first | rfl | assumption)
def x252 (Q : Nat) (I : St) (a1 : Int32) : Option (Int32) := (l252_4 Q 100000 0 a1 I).bind fun q4 => some q4
set_option maxRecDepth 20000 in
theorem x252_D {E : Xe} {R : Nat → Nat → Option Nat} {Q : Nat} {o : Outcome} {w : Wd} {T : (Int32) → Prop} {I : St} (hQ : Q = 85 ∨ Q = 126) (h82_3 : R 82 3 = some Q) (a1 : Int32) (hT : ∀ r, T r → o = .returned (some (.int r)) ∧ w = wT I R) : Dq (x252 Q I a1) T → Rn E 252 (0, loc0 252 [.ref 82, .int a1], [], wT I R) o w := by
  unfold x252
  rcases hQ with rfl | rfl
  all_goals
    refine D.run 4 rfl ?_
    refine D.bind (l252_4_ok (by decide) h82_3 (fun q4 e5 he5 e6 he6 e7 he7 => ?_) 100000 _ _ _ _  (by first | rfl | assumption) (by first | rfl | assumption))
    refine D.run 1 rfl ?_
    exact fun h => by obtain ⟨rfl, rfl⟩ := hT _ (D.some h); exact Rn.ret rfl rfl rfl
set_option maxRecDepth 20000 in
theorem x252_ok {E : Xe} {R : Nat → Nat → Option Nat} {Q : Nat} {I : St} (hQ : Q = 85 ∨ Q = 126) (h82_3 : R 82 3 = some Q) {a1 : Int32} {q : Int32} (h : x252 Q I a1 = some q) : Rn E 252 (0, loc0 252 [.ref 82, .int a1], [], wT I R) (.returned (some (.int q))) (wT I R) := x252_D hQ h82_3 _ (T := fun r => r = q) (by rintro r rfl; exact ⟨rfl, rfl⟩) ⟨_, h, rfl⟩
/-- TaintHouseModel.isObject(II)Z -/
def x254 (Q : Nat) (I : St) (a1 a2 : Int32) : Option (Int32) := if inb (a1 - 1) 3001 then if (I 181 (a1 - 1).toNatClampNeg) < 0 then some 0 else (x246 Q I a1 a2).bind fun q1 => if q1 = 0 then some 0 else some 1 else none
set_option maxRecDepth 20000 in
theorem x254_D {E : Xe} {R : Nat → Nat → Option Nat} {Q : Nat} {o : Outcome} {w : Wd} {T : (Int32) → Prop} {I : St} (hQ : Q = 85 ∨ Q = 126) (h82_3 : R 82 3 = some Q) (a1 a2 : Int32) (hT : ∀ r, T r → o = .returned (some (.int r)) ∧ w = wT I R) : Dq (x254 Q I a1 a2) T → Rn E 254 (0, loc0 254 [.ref 82, .int a1, .int a2], [], wT I R) o w := by
  unfold x254
  rcases hQ with rfl | rfl
  all_goals
    refine D.run 5 rfl ?_
    refine D.gd fun hg => ?_
    refine D.st rfl (by decide) (al_i (by decide) (by first | rfl | decide) hg.1 hg.2) ?_
    refine D.br rfl (by decide) rfl (fun hc => ?_) (fun hc => ?_)
    · refine D.run 1 rfl ?_
      exact fun h => by obtain ⟨rfl, rfl⟩ := hT _ (D.some h); exact Rn.ret rfl rfl (by first | rfl | (simp [rt1, rt]; done) | decide)
    · refine D.run 3 rfl ?_
      refine D.call rfl rfl rfl rfl (fun q h => x246_ok (by decide) h82_3 h) (fun q1 => ?_)
      refine D.br rfl (by decide) rfl (fun hc => ?_) (fun hc => ?_)
      · refine D.run 1 rfl ?_
        exact fun h => by obtain ⟨rfl, rfl⟩ := hT _ (D.some h); exact Rn.ret rfl rfl (by first | rfl | (simp [rt1, rt]; done) | decide)
      · refine D.run 2 rfl ?_
        exact fun h => by obtain ⟨rfl, rfl⟩ := hT _ (D.some h); exact Rn.ret rfl rfl (by first | rfl | (simp [rt1, rt]; done) | decide)
set_option maxRecDepth 20000 in
theorem x254_ok {E : Xe} {R : Nat → Nat → Option Nat} {Q : Nat} {I : St} (hQ : Q = 85 ∨ Q = 126) (h82_3 : R 82 3 = some Q) {a1 a2 : Int32} {q : Int32} (h : x254 Q I a1 a2 = some q) : Rn E 254 (0, loc0 254 [.ref 82, .int a1, .int a2], [], wT I R) (.returned (some (.int q))) (wT I R) := x254_D hQ h82_3 _ _ (T := fun r => r = q) (by rintro r rfl; exact ⟨rfl, rfl⟩) ⟨_, h, rfl⟩
/-- TaintHouseModel.slotOf(I)I -/
def l255_44 (Q : Nat) (b1 : Int32) (b2 : Int32) : Nat → Int32 → Int32 → St → Option (Int32)
  | 0, _, _, _ => none
  | n + 1, b3, b4, I => if b1 ≤ b4 then some b3 else if inb b4 100 then if (I (Q + 9) b4.toNatClampNeg) = b2 then l255_44 Q b1 b2 n (b3 + 1) (b4 + 1) I else l255_44 Q b1 b2 n (b3 + 0) (b4 + 1) I else none
set_option maxRecDepth 20000 in
theorem l255_44_ok {E : Xe} {R : Nat → Nat → Option Nat} {Q : Nat} {I0 : St} {o : Outcome} {w : Wd} {T : (Int32) → Prop} {b1 : Int32} {b2 : Int32} (hQ : Q = 85 ∨ Q = 126) (h82_3 : R 82 3 = some Q) (K : ∀ (q : Int32) (e1 : Value) (_ : is1 e1 = true) (e2 : Value) (_ : is1 e2 = true) (e4 : Value) (_ : is1 e4 = true), T q → Rn E 255 (78, [.ref 82, e1, e2, .int q, e4], [], wT I0 R) o w) : ∀ (n : Nat) (b3 : Int32) (b4 : Int32), Dq (l255_44 Q b1 b2 n b3 b4 I0) T → Rn E 255 (44, [.ref 82, .int b1, .int b2, .int b3, .int b4], [], wT I0 R) o w := by
  rcases hQ with rfl | rfl
  · intro n
    induction n with
    | zero => intro b3 b4; exact D.none
    | succ n ih =>
      intro b3 b4
      rw [l255_44]
      refine D.run 2 rfl ?_
      refine D.br rfl (by decide) rfl (fun hc => ?_) (fun hc => ?_)
      · exact fun h => D.to h (K _ _ (by first | rfl | assumption) _ (by first | rfl | assumption) _ (by first | rfl | assumption))
      · refine D.run 2 rfl ?_
        refine D.st rfl (by decide) (gf_1 h82_3) ?_
        refine D.run 2 rfl ?_
        refine D.gd fun hg => ?_
        refine D.st rfl (by decide) (al_i (by decide) (by first | rfl | decide) hg.1 hg.2) ?_
        show _ → Rn E 255 (61, [.ref 82, .int b1, .int b2, .int b3, .int b4], [.int (I0 (85 + 9) b4.toNatClampNeg), .int b3], wT I0 R) o w
        refine D.run 1 rfl ?_
        refine D.br rfl (by decide) rfl (fun hc => ?_) (fun hc => ?_)
        · refine D.run 6 rfl ?_
          exact ih _ _  
        · refine D.run 5 rfl ?_
          exact ih _ _  
  · intro n
    induction n with
    | zero => intro b3 b4; exact D.none
    | succ n ih =>
      intro b3 b4
      rw [l255_44]
      refine D.run 2 rfl ?_
      refine D.br rfl (by decide) rfl (fun hc => ?_) (fun hc => ?_)
      · exact fun h => D.to h (K _ _ (by first | rfl | assumption) _ (by first | rfl | assumption) _ (by first | rfl | assumption))
      · refine D.run 2 rfl ?_
        refine D.st rfl (by decide) (gf_1 h82_3) ?_
        refine D.run 2 rfl ?_
        refine D.gd fun hg => ?_
        refine D.st rfl (by decide) (al_i (by decide) (by first | rfl | decide) hg.1 hg.2) ?_
        show _ → Rn E 255 (61, [.ref 82, .int b1, .int b2, .int b3, .int b4], [.int (I0 (126 + 9) b4.toNatClampNeg), .int b3], wT I0 R) o w
        refine D.run 1 rfl ?_
        refine D.br rfl (by decide) rfl (fun hc => ?_) (fun hc => ?_)
        · refine D.run 6 rfl ?_
          exact ih _ _  
        · refine D.run 5 rfl ?_
          exact ih _ _  
def x255 (Q : Nat) (I : St) (a1 : Int32) : Option (Int32) := if inb a1 100 then if inb (I (Q + 9) a1.toNatClampNeg) 19 then (if (I (Q + 8) (I (Q + 9) a1.toNatClampNeg).toNatClampNeg) = (-1) then some 0 else if inb (I (Q + 9) a1.toNatClampNeg) 19 then (x252 Q I (I (Q + 8) (I (Q + 9) a1.toNatClampNeg).toNatClampNeg)).bind fun q1 => some q1 else none).bind fun (q2 : Int32) => (l255_44 Q a1 (I (Q + 9) a1.toNatClampNeg) 100000 q2 0 I).bind fun q3 => some q3 else none else none
set_option maxRecDepth 20000 in
theorem x255_D {E : Xe} {R : Nat → Nat → Option Nat} {Q : Nat} {o : Outcome} {w : Wd} {T : (Int32) → Prop} {I : St} (hQ : Q = 85 ∨ Q = 126) (h82_3 : R 82 3 = some Q) (a1 : Int32) (hT : ∀ r, T r → o = .returned (some (.int r)) ∧ w = wT I R) : Dq (x255 Q I a1) T → Rn E 255 (0, loc0 255 [.ref 82, .int a1], [], wT I R) o w := by
  unfold x255
  rcases hQ with rfl | rfl
  · refine D.run 1 rfl ?_
    refine D.st rfl (by decide) (gf_1 h82_3) ?_
    refine D.run 2 rfl ?_
    refine D.gd fun hg => ?_
    refine D.st rfl (by decide) (al_i (by decide) (by first | rfl | decide) hg.1 hg.2) ?_
    show _ → Rn E 255 (9, [.ref 82, .int a1, us, us, us], [.int (I (85 + 9) a1.toNatClampNeg)], wT I R) o w
    refine D.run 2 rfl ?_
    refine D.st rfl (by decide) (gf_1 h82_3) ?_
    refine D.run 2 rfl ?_
    refine D.gd fun hg => ?_
    refine D.st rfl (by decide) (al_i (by decide) (by first | rfl | decide) hg.1 hg.2) ?_
    show _ → Rn E 255 (19, [.ref 82, .int a1, .int (I (85 + 9) a1.toNatClampNeg), us, us], [.int (I (85 + 8) (I (85 + 9) a1.toNatClampNeg).toNatClampNeg)], wT I R) o w
    refine D.run 1 rfl ?_
    have Kj40 : ∀ (q2 : Int32), Dq ((l255_44 85 a1 (I (85 + 9) a1.toNatClampNeg) 100000 q2 0 I).bind fun q3 => some q3) T → Rn E 255 (40, [.ref 82, .int a1, .int (I (85 + 9) a1.toNatClampNeg), us, us], [.int q2], wT I R) o w := by
      intro q2
      refine D.run 3 rfl ?_
      refine D.bind (l255_44_ok (by decide) h82_3 (fun q3 e4 he4 e5 he5 e6 he6 => ?_) 100000 _ _   )
      refine D.run 1 rfl ?_
      exact fun h => by obtain ⟨rfl, rfl⟩ := hT _ (D.some h); exact Rn.ret rfl rfl rfl
    refine D.jn (fun T40 c40 => ?_)
    refine D.br rfl (by decide) rfl (fun hc => ?_) (fun hc => ?_)
    · refine D.run 2 rfl ?_
      exact fun h => Kj40 _   (c40 _ (D.some h))
    · refine D.run 2 rfl ?_
      refine D.st rfl (by decide) (gf_1 h82_3) ?_
      refine D.run 2 rfl ?_
      refine D.gd fun hg => ?_
      refine D.st rfl (by decide) (al_i (by decide) (by first | rfl | decide) hg.1 hg.2) ?_
      show _ → Rn E 255 (37, [.ref 82, .int a1, .int (I (85 + 9) a1.toNatClampNeg), us, us], [.int (I (85 + 8) (I (85 + 9) a1.toNatClampNeg).toNatClampNeg), .ref 82], wT I R) o w
      refine D.call rfl rfl rfl rfl (fun q h => x252_ok (by decide) h82_3 h) (fun q1 => ?_)
      exact fun h => Kj40 _   (c40 _ (D.some h))
  · refine D.run 1 rfl ?_
    refine D.st rfl (by decide) (gf_1 h82_3) ?_
    refine D.run 2 rfl ?_
    refine D.gd fun hg => ?_
    refine D.st rfl (by decide) (al_i (by decide) (by first | rfl | decide) hg.1 hg.2) ?_
    show _ → Rn E 255 (9, [.ref 82, .int a1, us, us, us], [.int (I (126 + 9) a1.toNatClampNeg)], wT I R) o w
    refine D.run 2 rfl ?_
    refine D.st rfl (by decide) (gf_1 h82_3) ?_
    refine D.run 2 rfl ?_
    refine D.gd fun hg => ?_
    refine D.st rfl (by decide) (al_i (by decide) (by first | rfl | decide) hg.1 hg.2) ?_
    show _ → Rn E 255 (19, [.ref 82, .int a1, .int (I (126 + 9) a1.toNatClampNeg), us, us], [.int (I (126 + 8) (I (126 + 9) a1.toNatClampNeg).toNatClampNeg)], wT I R) o w
    refine D.run 1 rfl ?_
    have Kj40 : ∀ (q2 : Int32), Dq ((l255_44 126 a1 (I (126 + 9) a1.toNatClampNeg) 100000 q2 0 I).bind fun q3 => some q3) T → Rn E 255 (40, [.ref 82, .int a1, .int (I (126 + 9) a1.toNatClampNeg), us, us], [.int q2], wT I R) o w := by
      intro q2
      refine D.run 3 rfl ?_
      refine D.bind (l255_44_ok (by decide) h82_3 (fun q3 e4 he4 e5 he5 e6 he6 => ?_) 100000 _ _   )
      refine D.run 1 rfl ?_
      exact fun h => by obtain ⟨rfl, rfl⟩ := hT _ (D.some h); exact Rn.ret rfl rfl rfl
    refine D.jn (fun T40 c40 => ?_)
    refine D.br rfl (by decide) rfl (fun hc => ?_) (fun hc => ?_)
    · refine D.run 2 rfl ?_
      exact fun h => Kj40 _   (c40 _ (D.some h))
    · refine D.run 2 rfl ?_
      refine D.st rfl (by decide) (gf_1 h82_3) ?_
      refine D.run 2 rfl ?_
      refine D.gd fun hg => ?_
      refine D.st rfl (by decide) (al_i (by decide) (by first | rfl | decide) hg.1 hg.2) ?_
      show _ → Rn E 255 (37, [.ref 82, .int a1, .int (I (126 + 9) a1.toNatClampNeg), us, us], [.int (I (126 + 8) (I (126 + 9) a1.toNatClampNeg).toNatClampNeg), .ref 82], wT I R) o w
      refine D.call rfl rfl rfl rfl (fun q h => x252_ok (by decide) h82_3 h) (fun q1 => ?_)
      exact fun h => Kj40 _   (c40 _ (D.some h))
set_option maxRecDepth 20000 in
theorem x255_ok {E : Xe} {R : Nat → Nat → Option Nat} {Q : Nat} {I : St} (hQ : Q = 85 ∨ Q = 126) (h82_3 : R 82 3 = some Q) {a1 : Int32} {q : Int32} (h : x255 Q I a1 = some q) : Rn E 255 (0, loc0 255 [.ref 82, .int a1], [], wT I R) (.returned (some (.int q))) (wT I R) := x255_D hQ h82_3 _ (T := fun r => r = q) (by rintro r rfl; exact ⟨rfl, rfl⟩) ⟨_, h, rfl⟩
/-- TaintHouseModel.returns()V -/
def x260 (Q : Nat) (I : St) : Option (St) := if inb (I 82 63) 24 then (if (I (Q + 20) (I 82 63).toNatClampNeg) = 0 then some (0, I) else (x240 I).bind fun q1 => some (q1.1, q1.2)).bind fun (q2 : Int32 × St) => (if (I (Q + 20) (I 82 63).toNatClampNeg) = 0 then some 0 else some (q2.2 82 66)).bind fun (q3 : Int32) => if (q2.2 82 55) = 0 then some (up2 (up2 (up2 q2.2 82 34 (I (Q + 20) (I 82 63).toNatClampNeg)) 82 35 q2.1) 82 36 q3) else (x247 q2.2).bind fun q4 => if (I (Q + 20) (I 82 63).toNatClampNeg) = 0 then some (up2 q4 82 64 ((q4 82 64) + 1)) else (x239 (up2 q4 82 64 ((q4 82 64) + 1)) q2.1 q3).bind fun q5 => some q5 else none
set_option maxRecDepth 20000 in
theorem x260_D {E : Xe} {R : Nat → Nat → Option Nat} {Q : Nat} {o : Outcome} {w : Wd} {T : (St) → Prop} {I : St} (hQ : Q = 85 ∨ Q = 126) (h82_3 : R 82 3 = some Q) (hT : ∀ r, T r → o = .returned none ∧ w = wT r R) : Dq (x260 Q I) T → Rn E 260 (0, loc0 260 [.ref 82], [], wT I R) o w := by
  unfold x260
  rcases hQ with rfl | rfl
  · refine D.run 1 rfl ?_
    refine D.st rfl (by decide) (gf_1 h82_3) ?_
    refine D.run 3 rfl ?_
    refine D.gd fun hg => ?_
    refine D.st rfl (by decide) (al_i (by decide) (by first | rfl | decide) hg.1 hg.2) ?_
    show _ → Rn E 260 (12, [.ref 82, us, us, us], [.int (I (85 + 20) (I 82 63).toNatClampNeg)], wT I R) o w
    refine D.run 2 rfl ?_
    have Kj25 : ∀ (q2 : Int32 × St), Dq ((if (I (85 + 20) (I 82 63).toNatClampNeg) = 0 then some 0 else some (q2.2 82 66)).bind fun (q3 : Int32) => if (q2.2 82 55) = 0 then some (up2 (up2 (up2 q2.2 82 34 (I (85 + 20) (I 82 63).toNatClampNeg)) 82 35 q2.1) 82 36 q3) else (x247 q2.2).bind fun q4 => if (I (85 + 20) (I 82 63).toNatClampNeg) = 0 then some (up2 q4 82 64 ((q4 82 64) + 1)) else (x239 (up2 q4 82 64 ((q4 82 64) + 1)) q2.1 q3).bind fun q5 => some q5) T → Rn E 260 (25, [.ref 82, .int (I (85 + 20) (I 82 63).toNatClampNeg), us, us], [.int q2.1], wT q2.2 R) o w := by
      intro q2
      refine D.run 2 rfl ?_
      have Kj38 : ∀ (q3 : Int32), Dq (if (q2.2 82 55) = 0 then some (up2 (up2 (up2 q2.2 82 34 (I (85 + 20) (I 82 63).toNatClampNeg)) 82 35 q2.1) 82 36 q3) else (x247 q2.2).bind fun q4 => if (I (85 + 20) (I 82 63).toNatClampNeg) = 0 then some (up2 q4 82 64 ((q4 82 64) + 1)) else (x239 (up2 q4 82 64 ((q4 82 64) + 1)) q2.1 q3).bind fun q5 => some q5) T → Rn E 260 (38, [.ref 82, .int (I (85 + 20) (I 82 63).toNatClampNeg), .int q2.1, us], [.int q3], wT q2.2 R) o w := by
        intro q3
        refine D.run 3 rfl ?_
        refine D.br rfl (by decide) rfl (fun hc => ?_) (fun hc => ?_)
        · refine D.run 9 rfl ?_
          exact fun h => by obtain ⟨rfl, rfl⟩ := hT _ (D.some h); exact Rn.ret rfl rfl rfl
        · refine D.run 1 rfl ?_
          refine D.call rfl rfl rfl rfl (fun q h => x247_ok h) (fun q4 => ?_)
          refine D.run 7 rfl ?_
          refine D.br rfl (by decide) rfl (fun hc => ?_) (fun hc => ?_)
          · exact fun h => by obtain ⟨rfl, rfl⟩ := hT _ (D.some h); exact Rn.ret rfl rfl rfl
          · refine D.run 3 rfl ?_
            refine D.call rfl rfl rfl rfl (fun q h => x239_ok h) (fun q5 => ?_)
            exact fun h => by obtain ⟨rfl, rfl⟩ := hT _ (D.some h); exact Rn.ret rfl rfl rfl
      refine D.jn (fun T38 c38 => ?_)
      refine D.br rfl (by decide) rfl (fun hc => ?_) (fun hc => ?_)
      · refine D.run 1 rfl ?_
        exact fun h => Kj38 _   (c38 _ (D.some h))
      · refine D.run 3 rfl ?_
        exact fun h => Kj38 _   (c38 _ (D.some h))
    refine D.jn (fun T25 c25 => ?_)
    refine D.br rfl (by decide) rfl (fun hc => ?_) (fun hc => ?_)
    · refine D.run 1 rfl ?_
      exact fun h => Kj25 _   (c25 _ (D.some h))
    · refine D.run 1 rfl ?_
      refine D.call rfl rfl rfl rfl (fun q h => x240_ok h) (fun q1 => ?_)
      refine D.run 1 rfl ?_
      exact fun h => Kj25 _   (c25 _ (D.some h))
  · refine D.run 1 rfl ?_
    refine D.st rfl (by decide) (gf_1 h82_3) ?_
    refine D.run 3 rfl ?_
    refine D.gd fun hg => ?_
    refine D.st rfl (by decide) (al_i (by decide) (by first | rfl | decide) hg.1 hg.2) ?_
    show _ → Rn E 260 (12, [.ref 82, us, us, us], [.int (I (126 + 20) (I 82 63).toNatClampNeg)], wT I R) o w
    refine D.run 2 rfl ?_
    have Kj25 : ∀ (q2 : Int32 × St), Dq ((if (I (126 + 20) (I 82 63).toNatClampNeg) = 0 then some 0 else some (q2.2 82 66)).bind fun (q3 : Int32) => if (q2.2 82 55) = 0 then some (up2 (up2 (up2 q2.2 82 34 (I (126 + 20) (I 82 63).toNatClampNeg)) 82 35 q2.1) 82 36 q3) else (x247 q2.2).bind fun q4 => if (I (126 + 20) (I 82 63).toNatClampNeg) = 0 then some (up2 q4 82 64 ((q4 82 64) + 1)) else (x239 (up2 q4 82 64 ((q4 82 64) + 1)) q2.1 q3).bind fun q5 => some q5) T → Rn E 260 (25, [.ref 82, .int (I (126 + 20) (I 82 63).toNatClampNeg), us, us], [.int q2.1], wT q2.2 R) o w := by
      intro q2
      refine D.run 2 rfl ?_
      have Kj38 : ∀ (q3 : Int32), Dq (if (q2.2 82 55) = 0 then some (up2 (up2 (up2 q2.2 82 34 (I (126 + 20) (I 82 63).toNatClampNeg)) 82 35 q2.1) 82 36 q3) else (x247 q2.2).bind fun q4 => if (I (126 + 20) (I 82 63).toNatClampNeg) = 0 then some (up2 q4 82 64 ((q4 82 64) + 1)) else (x239 (up2 q4 82 64 ((q4 82 64) + 1)) q2.1 q3).bind fun q5 => some q5) T → Rn E 260 (38, [.ref 82, .int (I (126 + 20) (I 82 63).toNatClampNeg), .int q2.1, us], [.int q3], wT q2.2 R) o w := by
        intro q3
        refine D.run 3 rfl ?_
        refine D.br rfl (by decide) rfl (fun hc => ?_) (fun hc => ?_)
        · refine D.run 9 rfl ?_
          exact fun h => by obtain ⟨rfl, rfl⟩ := hT _ (D.some h); exact Rn.ret rfl rfl rfl
        · refine D.run 1 rfl ?_
          refine D.call rfl rfl rfl rfl (fun q h => x247_ok h) (fun q4 => ?_)
          refine D.run 7 rfl ?_
          refine D.br rfl (by decide) rfl (fun hc => ?_) (fun hc => ?_)
          · exact fun h => by obtain ⟨rfl, rfl⟩ := hT _ (D.some h); exact Rn.ret rfl rfl rfl
          · refine D.run 3 rfl ?_
            refine D.call rfl rfl rfl rfl (fun q h => x239_ok h) (fun q5 => ?_)
            exact fun h => by obtain ⟨rfl, rfl⟩ := hT _ (D.some h); exact Rn.ret rfl rfl rfl
      refine D.jn (fun T38 c38 => ?_)
      refine D.br rfl (by decide) rfl (fun hc => ?_) (fun hc => ?_)
      · refine D.run 1 rfl ?_
        exact fun h => Kj38 _   (c38 _ (D.some h))
      · refine D.run 3 rfl ?_
        exact fun h => Kj38 _   (c38 _ (D.some h))
    refine D.jn (fun T25 c25 => ?_)
    refine D.br rfl (by decide) rfl (fun hc => ?_) (fun hc => ?_)
    · refine D.run 1 rfl ?_
      exact fun h => Kj25 _   (c25 _ (D.some h))
    · refine D.run 1 rfl ?_
      refine D.call rfl rfl rfl rfl (fun q h => x240_ok h) (fun q1 => ?_)
      refine D.run 1 rfl ?_
      exact fun h => Kj25 _   (c25 _ (D.some h))
set_option maxRecDepth 20000 in
theorem x260_ok {E : Xe} {R : Nat → Nat → Option Nat} {Q : Nat} {I : St} (hQ : Q = 85 ∨ Q = 126) (h82_3 : R 82 3 = some Q) {q : St} (h : x260 Q I = some q) : Rn E 260 (0, loc0 260 [.ref 82], [], wT I R) (.returned none) (wT q R) := x260_D hQ h82_3 (T := fun r => r = q) (by rintro r rfl; exact ⟨rfl, rfl⟩) ⟨_, h, rfl⟩
/-- TaintHouseModel.place()I -/
def x261 (I : St) : Int32 := (I 82 5)
set_option maxRecDepth 20000 in
theorem x261_ok {E : Xe} {R : Nat → Nat → Option Nat} {I : St} : Rn E 261 (0, loc0 261 [.ref 82], [], wT I R) (.returned (some (.int (x261 I)))) (wT I R) := by
  have H : ∀ (o : Outcome) (w : Wd) (T : Int32 → Prop), (∀ r, T r → o = .returned (some (.int r)) ∧ w = wT I R) → Dq (some (x261 I)) T → Rn E 261 (0, loc0 261 [.ref 82], [], wT I R) o w := by
    intro o w T hT
    unfold x261
    refine D.run 2 rfl ?_
    exact fun h => by obtain ⟨rfl, rfl⟩ := hT _ (D.some h); exact Rn.ret rfl rfl rfl
  exact H _ _ (fun r => r = x261 I) (by rintro r rfl; exact ⟨rfl, rfl⟩) ⟨_, rfl, rfl⟩
/-- TaintHouseModel.flows(I)I -/
def x262 (I : St) (a1 : Int32) : Option (Int32 × St) := some ((I 82 6), (up2 I 82 6 (a1 &&& 7)))
set_option maxRecDepth 20000 in
theorem x262_D {E : Xe} {R : Nat → Nat → Option Nat} {o : Outcome} {w : Wd} {T : (Int32 × St) → Prop} {I : St} (a1 : Int32) (hT : ∀ r, T r → o = .returned (some (.int r.1)) ∧ w = wT r.2 R) : Dq (x262 I a1) T → Rn E 262 (0, loc0 262 [.ref 82, .int a1], [], wT I R) o w := by
  unfold x262
  refine D.run 9 rfl ?_
  exact fun h => by obtain ⟨rfl, rfl⟩ := hT _ (D.some h); exact Rn.ret rfl rfl rfl
set_option maxRecDepth 20000 in
theorem x262_ok {E : Xe} {R : Nat → Nat → Option Nat} {I : St} {a1 : Int32} {q : Int32 × St} (h : x262 I a1 = some q) : Rn E 262 (0, loc0 262 [.ref 82, .int a1], [], wT I R) (.returned (some (.int q.1))) (wT q.2 R) := x262_D  _ (T := fun r => r = q) (by rintro r rfl; exact ⟨rfl, rfl⟩) ⟨_, h, rfl⟩
/-- TaintHouseModel.policy(II)I -/
def x263 (I : St) (a1 a2 : Int32) : Option (Int32 × St) := if a1 < 0 then some ((-15), I) else if a1 ≤ 15 then if inb a1 16 then if inb a1 16 then some ((I 167 a1.toNatClampNeg), (up2 I 167 a1.toNatClampNeg (a2 &&& 65535))) else none else none else some ((-15), I)
set_option maxRecDepth 20000 in
theorem x263_D {E : Xe} {R : Nat → Nat → Option Nat} {o : Outcome} {w : Wd} {T : (Int32 × St) → Prop} {I : St} (a1 a2 : Int32) (hT : ∀ r, T r → o = .returned (some (.int r.1)) ∧ w = wT r.2 R) : Dq (x263 I a1 a2) T → Rn E 263 (0, loc0 263 [.ref 82, .int a1, .int a2], [], wT I R) o w := by
  unfold x263
  refine D.run 1 rfl ?_
  refine D.br rfl (by decide) rfl (fun hc => ?_) (fun hc => ?_)
  · refine D.run 1 rfl ?_
    exact fun h => by obtain ⟨rfl, rfl⟩ := hT _ (D.some h); exact Rn.ret rfl rfl rfl
  · refine D.run 2 rfl ?_
    refine D.br rfl (by decide) rfl (fun hc => ?_) (fun hc => ?_)
    · refine D.run 3 rfl ?_
      refine D.gd fun hg => ?_
      refine D.st rfl (by decide) (al_i (by decide) (by first | rfl | decide) hg.1 hg.2) ?_
      refine D.run 7 rfl ?_
      refine D.gd fun hg => ?_
      refine D.st rfl (by decide) (as_i (by decide) (by first | rfl | decide) hg.1 hg.2) ?_
      show _ → Rn E 263 (31, [.ref 82, .int a1, .int a2, .int (I 167 a1.toNatClampNeg)], [], wT (up2 I 167 a1.toNatClampNeg (a2 &&& 65535)) R) o w
      refine D.run 1 rfl ?_
      exact fun h => by obtain ⟨rfl, rfl⟩ := hT _ (D.some h); exact Rn.ret rfl rfl rfl
    · refine D.run 1 rfl ?_
      exact fun h => by obtain ⟨rfl, rfl⟩ := hT _ (D.some h); exact Rn.ret rfl rfl rfl
set_option maxRecDepth 20000 in
theorem x263_ok {E : Xe} {R : Nat → Nat → Option Nat} {I : St} {a1 a2 : Int32} {q : Int32 × St} (h : x263 I a1 a2 = some q) : Rn E 263 (0, loc0 263 [.ref 82, .int a1, .int a2], [], wT I R) (.returned (some (.int q.1))) (wT q.2 R) := x263_D  _ _ (T := fun r => r = q) (by rintro r rfl; exact ⟨rfl, rfl⟩) ⟨_, h, rfl⟩
/-- TaintHouseModel.input(II)I -/
def x264 (I : St) (a1 a2 : Int32) : Option (Int32 × St) := if a1 < 0 then some ((-1), I) else if a1 ≤ 15 then if inb a1 16 then if inb a1 16 then some ((I 168 a1.toNatClampNeg), (up2 I 168 a1.toNatClampNeg a2)) else none else none else some ((-1), I)
set_option maxRecDepth 20000 in
theorem x264_D {E : Xe} {R : Nat → Nat → Option Nat} {o : Outcome} {w : Wd} {T : (Int32 × St) → Prop} {I : St} (a1 a2 : Int32) (hT : ∀ r, T r → o = .returned (some (.int r.1)) ∧ w = wT r.2 R) : Dq (x264 I a1 a2) T → Rn E 264 (0, loc0 264 [.ref 82, .int a1, .int a2], [], wT I R) o w := by
  unfold x264
  refine D.run 1 rfl ?_
  refine D.br rfl (by decide) rfl (fun hc => ?_) (fun hc => ?_)
  · refine D.run 1 rfl ?_
    exact fun h => by obtain ⟨rfl, rfl⟩ := hT _ (D.some h); exact Rn.ret rfl rfl rfl
  · refine D.run 2 rfl ?_
    refine D.br rfl (by decide) rfl (fun hc => ?_) (fun hc => ?_)
    · refine D.run 3 rfl ?_
      refine D.gd fun hg => ?_
      refine D.st rfl (by decide) (al_i (by decide) (by first | rfl | decide) hg.1 hg.2) ?_
      refine D.run 5 rfl ?_
      refine D.gd fun hg => ?_
      refine D.st rfl (by decide) (as_i (by decide) (by first | rfl | decide) hg.1 hg.2) ?_
      show _ → Rn E 264 (26, [.ref 82, .int a1, .int a2, .int (I 168 a1.toNatClampNeg)], [], wT (up2 I 168 a1.toNatClampNeg a2) R) o w
      refine D.run 1 rfl ?_
      exact fun h => by obtain ⟨rfl, rfl⟩ := hT _ (D.some h); exact Rn.ret rfl rfl rfl
    · refine D.run 1 rfl ?_
      exact fun h => by obtain ⟨rfl, rfl⟩ := hT _ (D.some h); exact Rn.ret rfl rfl rfl
set_option maxRecDepth 20000 in
theorem x264_ok {E : Xe} {R : Nat → Nat → Option Nat} {I : St} {a1 a2 : Int32} {q : Int32 × St} (h : x264 I a1 a2 = some q) : Rn E 264 (0, loc0 264 [.ref 82, .int a1, .int a2], [], wT I R) (.returned (some (.int q.1))) (wT q.2 R) := x264_D  _ _ (T := fun r => r = q) (by rintro r rfl; exact ⟨rfl, rfl⟩) ⟨_, h, rfl⟩
/-- TaintHouseModel.argument(III)I -/
def x265 (I : St) (a1 a2 a3 : Int32) : Option (Int32 × St) := if a1 < 0 then some ((-15), I) else if a1 ≤ 6 then if inb a1 7 then if inb a1 7 then some (1, (up2 (up2 I 169 a1.toNatClampNeg a2) 170 a1.toNatClampNeg (a3 &&& 65535))) else none else none else some ((-15), I)
set_option maxRecDepth 20000 in
theorem x265_D {E : Xe} {R : Nat → Nat → Option Nat} {o : Outcome} {w : Wd} {T : (Int32 × St) → Prop} {I : St} (a1 a2 a3 : Int32) (hT : ∀ r, T r → o = .returned (some (.int r.1)) ∧ w = wT r.2 R) : Dq (x265 I a1 a2 a3) T → Rn E 265 (0, loc0 265 [.ref 82, .int a1, .int a2, .int a3], [], wT I R) o w := by
  unfold x265
  refine D.run 1 rfl ?_
  refine D.br rfl (by decide) rfl (fun hc => ?_) (fun hc => ?_)
  · refine D.run 1 rfl ?_
    exact fun h => by obtain ⟨rfl, rfl⟩ := hT _ (D.some h); exact Rn.ret rfl rfl rfl
  · refine D.run 2 rfl ?_
    refine D.br rfl (by decide) rfl (fun hc => ?_) (fun hc => ?_)
    · refine D.run 4 rfl ?_
      refine D.gd fun hg => ?_
      refine D.st rfl (by decide) (as_i (by decide) (by first | rfl | decide) hg.1 hg.2) ?_
      refine D.run 6 rfl ?_
      refine D.gd fun hg => ?_
      refine D.st rfl (by decide) (as_i (by decide) (by first | rfl | decide) hg.1 hg.2) ?_
      show _ → Rn E 265 (31, [.ref 82, .int a1, .int a2, .int a3], [], wT (up2 (up2 I 169 a1.toNatClampNeg a2) 170 a1.toNatClampNeg (a3 &&& 65535)) R) o w
      refine D.run 1 rfl ?_
      exact fun h => by obtain ⟨rfl, rfl⟩ := hT _ (D.some h); exact Rn.ret rfl rfl rfl
    · refine D.run 1 rfl ?_
      exact fun h => by obtain ⟨rfl, rfl⟩ := hT _ (D.some h); exact Rn.ret rfl rfl rfl
set_option maxRecDepth 20000 in
theorem x265_ok {E : Xe} {R : Nat → Nat → Option Nat} {I : St} {a1 a2 a3 : Int32} {q : Int32 × St} (h : x265 I a1 a2 a3 = some q) : Rn E 265 (0, loc0 265 [.ref 82, .int a1, .int a2, .int a3], [], wT I R) (.returned (some (.int q.1))) (wT q.2 R) := x265_D  _ _ _ (T := fun r => r = q) (by rintro r rfl; exact ⟨rfl, rfl⟩) ⟨_, h, rfl⟩
/-- TaintHouseModel.result(I)I -/
def x266 (I : St) (a1 : Int32) : Int32 := if (I 82 33) = 0 then (-1) else if a1 = 0 then (I 82 34) else if a1 = 1 then if (I 82 34) = 1 then (I 82 35) else if (I 82 34) = 2 then ((I 82 35) - 1) else if (I 82 34) = 3 then ((I 82 35) - 1) else 0 else if a1 = 2 then if (I 82 34) < 1 then 0 else if 3 < (I 82 34) then 0 else (I 82 36) else if a1 = 3 then (I 82 37) else if a1 = 4 then (I 82 38) else if a1 = 5 then (I 82 39) else if a1 = 6 then (I 82 40) else if a1 = 7 then (I 82 41) else (-1)
set_option maxRecDepth 20000 in
theorem x266_ok {E : Xe} {R : Nat → Nat → Option Nat} {I : St} (a1 : Int32) : Rn E 266 (0, loc0 266 [.ref 82, .int a1], [], wT I R) (.returned (some (.int (x266 I a1)))) (wT I R) := by
  have H : ∀ (o : Outcome) (w : Wd) (T : Int32 → Prop), (∀ r, T r → o = .returned (some (.int r)) ∧ w = wT I R) → Dq (some (x266 I a1)) T → Rn E 266 (0, loc0 266 [.ref 82, .int a1], [], wT I R) o w := by
    intro o w T hT
    unfold x266
    refine D.run 2 rfl ?_
    refine D.brp rfl (by decide) rfl (fun hc => ?_) (fun hc => ?_)
    · refine D.run 1 rfl ?_
      exact fun h => by obtain ⟨rfl, rfl⟩ := hT _ (D.some h); exact Rn.ret rfl rfl rfl
    · refine D.run 1 rfl ?_
      refine D.sw rfl (by decide) rfl ?_
      show _ → Rn E 266 (swT [(0, 56), (1, 61), (2, 103), (3, 128), (4, 133), (5, 138), (6, 143), (7, 148)] 153 _, _, _, _) _ _
      refine D.swcp (fun hc => ?_) (fun hc => ?_)
      · refine D.run 2 rfl ?_
        exact fun h => by obtain ⟨rfl, rfl⟩ := hT _ (D.some h); exact Rn.ret rfl rfl rfl
      · refine D.swcp (fun hc => ?_) (fun hc => ?_)
        · refine D.run 3 rfl ?_
          refine D.brp rfl (by decide) rfl (fun hc => ?_) (fun hc => ?_)
          · refine D.run 3 rfl ?_
            exact fun h => by obtain ⟨rfl, rfl⟩ := hT _ (D.some h); exact Rn.ret rfl rfl rfl
          · refine D.run 3 rfl ?_
            refine D.brp rfl (by decide) rfl (fun hc => ?_) (fun hc => ?_)
            · refine D.run 5 rfl ?_
              exact fun h => by obtain ⟨rfl, rfl⟩ := hT _ (D.some h); exact Rn.ret rfl rfl rfl
            · refine D.run 3 rfl ?_
              refine D.brp rfl (by decide) rfl (fun hc => ?_) (fun hc => ?_)
              · refine D.run 5 rfl ?_
                exact fun h => by obtain ⟨rfl, rfl⟩ := hT _ (D.some h); exact Rn.ret rfl rfl rfl
              · refine D.run 1 rfl ?_
                exact fun h => by obtain ⟨rfl, rfl⟩ := hT _ (D.some h); exact Rn.ret rfl rfl rfl
        · refine D.swcp (fun hc => ?_) (fun hc => ?_)
          · refine D.run 3 rfl ?_
            refine D.brp rfl (by decide) rfl (fun hc => ?_) (fun hc => ?_)
            · refine D.run 1 rfl ?_
              exact fun h => by obtain ⟨rfl, rfl⟩ := hT _ (D.some h); exact Rn.ret rfl rfl rfl
            · refine D.run 3 rfl ?_
              refine D.brp rfl (by decide) rfl (fun hc => ?_) (fun hc => ?_)
              · refine D.run 1 rfl ?_
                exact fun h => by obtain ⟨rfl, rfl⟩ := hT _ (D.some h); exact Rn.ret rfl rfl rfl
              · refine D.run 3 rfl ?_
                exact fun h => by obtain ⟨rfl, rfl⟩ := hT _ (D.some h); exact Rn.ret rfl rfl rfl
          · refine D.swcp (fun hc => ?_) (fun hc => ?_)
            · refine D.run 2 rfl ?_
              exact fun h => by obtain ⟨rfl, rfl⟩ := hT _ (D.some h); exact Rn.ret rfl rfl rfl
            · refine D.swcp (fun hc => ?_) (fun hc => ?_)
              · refine D.run 2 rfl ?_
                exact fun h => by obtain ⟨rfl, rfl⟩ := hT _ (D.some h); exact Rn.ret rfl rfl rfl
              · refine D.swcp (fun hc => ?_) (fun hc => ?_)
                · refine D.run 2 rfl ?_
                  exact fun h => by obtain ⟨rfl, rfl⟩ := hT _ (D.some h); exact Rn.ret rfl rfl rfl
                · refine D.swcp (fun hc => ?_) (fun hc => ?_)
                  · refine D.run 2 rfl ?_
                    exact fun h => by obtain ⟨rfl, rfl⟩ := hT _ (D.some h); exact Rn.ret rfl rfl rfl
                  · refine D.swcp (fun hc => ?_) (fun hc => ?_)
                    · refine D.run 2 rfl ?_
                      exact fun h => by obtain ⟨rfl, rfl⟩ := hT _ (D.some h); exact Rn.ret rfl rfl rfl
                    · refine D.run 1 rfl ?_
                      exact fun h => by obtain ⟨rfl, rfl⟩ := hT _ (D.some h); exact Rn.ret rfl rfl rfl
  exact H _ _ (fun r => r = x266 I a1) (by rintro r rfl; exact ⟨rfl, rfl⟩) ⟨_, rfl, rfl⟩
/-- TaintHouseModel.event(II)I -/
def x267 (I : St) (a1 a2 : Int32) : Option (Int32) := if (I 82 33) = 0 then some (-1) else if a1 < 0 then some (-1) else if a1 < (I 82 38) then if a2 = 0 then if inb a1 500 then some (I 189 a1.toNatClampNeg) else none else if a2 = 1 then if inb a1 500 then some (I 190 a1.toNatClampNeg) else none else if a2 = 2 then if inb a1 500 then some (I 191 a1.toNatClampNeg) else none else if a2 = 3 then if inb a1 500 then if (I 192 a1.toNatClampNeg) = 0 then some 0 else some 1 else none else some (-1) else some (-1)
set_option maxRecDepth 20000 in
theorem x267_D {E : Xe} {R : Nat → Nat → Option Nat} {o : Outcome} {w : Wd} {T : (Int32) → Prop} {I : St} (a1 a2 : Int32) (hT : ∀ r, T r → o = .returned (some (.int r)) ∧ w = wT I R) : Dq (x267 I a1 a2) T → Rn E 267 (0, loc0 267 [.ref 82, .int a1, .int a2], [], wT I R) o w := by
  unfold x267
  refine D.run 2 rfl ?_
  refine D.br rfl (by decide) rfl (fun hc => ?_) (fun hc => ?_)
  · refine D.run 1 rfl ?_
    exact fun h => by obtain ⟨rfl, rfl⟩ := hT _ (D.some h); exact Rn.ret rfl rfl rfl
  · refine D.run 1 rfl ?_
    refine D.br rfl (by decide) rfl (fun hc => ?_) (fun hc => ?_)
    · refine D.run 1 rfl ?_
      exact fun h => by obtain ⟨rfl, rfl⟩ := hT _ (D.some h); exact Rn.ret rfl rfl rfl
    · refine D.run 3 rfl ?_
      refine D.br rfl (by decide) rfl (fun hc => ?_) (fun hc => ?_)
      · refine D.run 1 rfl ?_
        refine D.sw rfl (by decide) rfl ?_
        show _ → Rn E 267 (swT [(0, 52), (1, 59), (2, 66), (3, 73)] 88 _, _, _, _) _ _
        refine D.swc (fun hc => ?_) (fun hc => ?_)
        · refine D.run 3 rfl ?_
          refine D.gd fun hg => ?_
          refine D.st rfl (by decide) (al_i (by decide) (by first | rfl | decide) hg.1 hg.2) ?_
          exact fun h => by obtain ⟨rfl, rfl⟩ := hT _ (D.some h); exact Rn.ret rfl rfl rfl
        · refine D.swc (fun hc => ?_) (fun hc => ?_)
          · refine D.run 3 rfl ?_
            refine D.gd fun hg => ?_
            refine D.st rfl (by decide) (al_i (by decide) (by first | rfl | decide) hg.1 hg.2) ?_
            exact fun h => by obtain ⟨rfl, rfl⟩ := hT _ (D.some h); exact Rn.ret rfl rfl rfl
          · refine D.swc (fun hc => ?_) (fun hc => ?_)
            · refine D.run 3 rfl ?_
              refine D.gd fun hg => ?_
              refine D.st rfl (by decide) (al_i (by decide) (by first | rfl | decide) hg.1 hg.2) ?_
              exact fun h => by obtain ⟨rfl, rfl⟩ := hT _ (D.some h); exact Rn.ret rfl rfl rfl
            · refine D.swc (fun hc => ?_) (fun hc => ?_)
              · refine D.run 3 rfl ?_
                refine D.gd fun hg => ?_
                refine D.st rfl (by decide) (al_b (by decide) (by first | rfl | decide) hg.1 hg.2) ?_
                refine D.br rfl (by decide) rfl (fun hc => ?_) (fun hc => ?_)
                · refine D.run 1 rfl ?_
                  exact fun h => by obtain ⟨rfl, rfl⟩ := hT _ (D.some h); exact Rn.ret rfl rfl rfl
                · refine D.run 2 rfl ?_
                  exact fun h => by obtain ⟨rfl, rfl⟩ := hT _ (D.some h); exact Rn.ret rfl rfl rfl
              · refine D.run 1 rfl ?_
                exact fun h => by obtain ⟨rfl, rfl⟩ := hT _ (D.some h); exact Rn.ret rfl rfl rfl
      · refine D.run 1 rfl ?_
        exact fun h => by obtain ⟨rfl, rfl⟩ := hT _ (D.some h); exact Rn.ret rfl rfl rfl
set_option maxRecDepth 20000 in
theorem x267_ok {E : Xe} {R : Nat → Nat → Option Nat} {I : St} {a1 a2 : Int32} {q : Int32} (h : x267 I a1 a2 = some q) : Rn E 267 (0, loc0 267 [.ref 82, .int a1, .int a2], [], wT I R) (.returned (some (.int q))) (wT I R) := x267_D  _ _ (T := fun r => r = q) (by rintro r rfl; exact ⟨rfl, rfl⟩) ⟨_, h, rfl⟩
/-- TaintHouseModel.object(II)I -/
def x268 (I : St) (a1 a2 : Int32) : Option (Int32) := if (I 82 33) = 0 then some (-1) else if a1 < 0 then some (-1) else if a1 < (I 82 40) then if a2 = 0 then if inb a1 3001 then some (I 181 a1.toNatClampNeg) else none else if a2 = 1 then if inb a1 3001 then some (I 183 a1.toNatClampNeg) else none else if a2 = 2 then if inb a1 3001 then some (I 184 a1.toNatClampNeg) else none else some (-1) else some (-1)
set_option maxRecDepth 20000 in
theorem x268_D {E : Xe} {R : Nat → Nat → Option Nat} {o : Outcome} {w : Wd} {T : (Int32) → Prop} {I : St} (a1 a2 : Int32) (hT : ∀ r, T r → o = .returned (some (.int r)) ∧ w = wT I R) : Dq (x268 I a1 a2) T → Rn E 268 (0, loc0 268 [.ref 82, .int a1, .int a2], [], wT I R) o w := by
  unfold x268
  refine D.run 2 rfl ?_
  refine D.br rfl (by decide) rfl (fun hc => ?_) (fun hc => ?_)
  · refine D.run 1 rfl ?_
    exact fun h => by obtain ⟨rfl, rfl⟩ := hT _ (D.some h); exact Rn.ret rfl rfl rfl
  · refine D.run 1 rfl ?_
    refine D.br rfl (by decide) rfl (fun hc => ?_) (fun hc => ?_)
    · refine D.run 1 rfl ?_
      exact fun h => by obtain ⟨rfl, rfl⟩ := hT _ (D.some h); exact Rn.ret rfl rfl rfl
    · refine D.run 3 rfl ?_
      refine D.br rfl (by decide) rfl (fun hc => ?_) (fun hc => ?_)
      · refine D.run 1 rfl ?_
        refine D.br rfl (by decide) rfl (fun hc => ?_) (fun hc => ?_)
        · refine D.run 3 rfl ?_
          refine D.gd fun hg => ?_
          refine D.st rfl (by decide) (al_i (by decide) (by first | rfl | decide) hg.1 hg.2) ?_
          refine D.run 1 rfl ?_
          exact fun h => by obtain ⟨rfl, rfl⟩ := hT _ (D.some h); exact Rn.ret rfl rfl rfl
        · refine D.run 2 rfl ?_
          refine D.br rfl (by decide) rfl (fun hc => ?_) (fun hc => ?_)
          · refine D.run 3 rfl ?_
            refine D.gd fun hg => ?_
            refine D.st rfl (by decide) (al_i (by decide) (by first | rfl | decide) hg.1 hg.2) ?_
            refine D.run 1 rfl ?_
            exact fun h => by obtain ⟨rfl, rfl⟩ := hT _ (D.some h); exact Rn.ret rfl rfl rfl
          · refine D.run 2 rfl ?_
            refine D.br rfl (by decide) rfl (fun hc => ?_) (fun hc => ?_)
            · refine D.run 3 rfl ?_
              refine D.gd fun hg => ?_
              refine D.st rfl (by decide) (al_i (by decide) (by first | rfl | decide) hg.1 hg.2) ?_
              refine D.run 1 rfl ?_
              exact fun h => by obtain ⟨rfl, rfl⟩ := hT _ (D.some h); exact Rn.ret rfl rfl rfl
            · refine D.run 1 rfl ?_
              exact fun h => by obtain ⟨rfl, rfl⟩ := hT _ (D.some h); exact Rn.ret rfl rfl rfl
      · refine D.run 1 rfl ?_
        exact fun h => by obtain ⟨rfl, rfl⟩ := hT _ (D.some h); exact Rn.ret rfl rfl rfl
set_option maxRecDepth 20000 in
theorem x268_ok {E : Xe} {R : Nat → Nat → Option Nat} {I : St} {a1 a2 : Int32} {q : Int32} (h : x268 I a1 a2 = some q) : Rn E 268 (0, loc0 268 [.ref 82, .int a1, .int a2], [], wT I R) (.returned (some (.int q))) (wT I R) := x268_D  _ _ (T := fun r => r = q) (by rintro r rfl; exact ⟨rfl, rfl⟩) ⟨_, h, rfl⟩
/-- TaintHouseModel.isAbove(II)Z -/
def l271_2 (Q : Nat) (b1 : Int32) : Nat → Int32 → St → Option (Int32)
  | 0, _, _ => none
  | n + 1, b3, I => if b3 = (-1) then some b3 else if b3 = b1 then some b3 else if inb b3 19 then l271_2 Q b1 n (I (Q + 8) b3.toNatClampNeg) I else none
set_option maxRecDepth 20000 in
theorem l271_2_ok {E : Xe} {R : Nat → Nat → Option Nat} {Q : Nat} {I0 : St} {o : Outcome} {w : Wd} {T : (Int32) → Prop} {b1 : Int32} (hQ : Q = 85 ∨ Q = 126) (h82_3 : R 82 3 = some Q) (K : ∀ (q : Int32) (e2 : Value) (_ : is1 e2 = true), T q → Rn E 271 (25, [.ref 82, .int b1, e2, .int q], [], wT I0 R) o w) : ∀ (n : Nat) (b3 : Int32) (d2 : Value), is1 d2 = true → Dq (l271_2 Q b1 n b3 I0) T → Rn E 271 (2, [.ref 82, .int b1, d2, .int b3], [], wT I0 R) o w := by
  rcases hQ with rfl | rfl
  · intro n
    induction n with
    | zero => intro b3 d2 hd2; exact D.none
    | succ n ih =>
      intro b3 d2 hd2
      rw [l271_2]
      refine D.run 2 rfl ?_
      refine D.br rfl (by decide) rfl (fun hc => ?_) (fun hc => ?_)
      · exact fun h => D.to h (K _ _ (by first | rfl | assumption))
      · refine D.run 2 rfl ?_
        refine D.br rfl (by decide) rfl (fun hc => ?_) (fun hc => ?_)
        · exact fun h => D.to h (K _ _ (by first | rfl | assumption))
        · refine D.run 1 rfl ?_
          refine D.st rfl (by decide) (gf_1 h82_3) ?_
          refine D.run 2 rfl ?_
          refine D.gd fun hg => ?_
          refine D.st rfl (by decide) (al_i (by decide) (by first | rfl | decide) hg.1 hg.2) ?_
          show _ → Rn E 271 (21, [.ref 82, .int b1, d2, .int b3], [.int (I0 (85 + 8) b3.toNatClampNeg)], wT I0 R) o w
          refine D.st rfl (by decide) (istn_d rfl (by first | rfl | assumption) rfl) ?_
          refine D.run 1 rfl ?_
          exact ih _ _  (by first | rfl | assumption)
  · intro n
    induction n with
    | zero => intro b3 d2 hd2; exact D.none
    | succ n ih =>
      intro b3 d2 hd2
      rw [l271_2]
      refine D.run 2 rfl ?_
      refine D.br rfl (by decide) rfl (fun hc => ?_) (fun hc => ?_)
      · exact fun h => D.to h (K _ _ (by first | rfl | assumption))
      · refine D.run 2 rfl ?_
        refine D.br rfl (by decide) rfl (fun hc => ?_) (fun hc => ?_)
        · exact fun h => D.to h (K _ _ (by first | rfl | assumption))
        · refine D.run 1 rfl ?_
          refine D.st rfl (by decide) (gf_1 h82_3) ?_
          refine D.run 2 rfl ?_
          refine D.gd fun hg => ?_
          refine D.st rfl (by decide) (al_i (by decide) (by first | rfl | decide) hg.1 hg.2) ?_
          show _ → Rn E 271 (21, [.ref 82, .int b1, d2, .int b3], [.int (I0 (126 + 8) b3.toNatClampNeg)], wT I0 R) o w
          refine D.st rfl (by decide) (istn_d rfl (by first | rfl | assumption) rfl) ?_
          refine D.run 1 rfl ?_
          exact ih _ _  (by first | rfl | assumption)
def x271 (Q : Nat) (I : St) (a1 a2 : Int32) : Option (Int32) := (l271_2 Q a1 100000 a2 I).bind fun q1 => if q1 = a1 then some 1 else some 0
set_option maxRecDepth 20000 in
theorem x271_D {E : Xe} {R : Nat → Nat → Option Nat} {Q : Nat} {o : Outcome} {w : Wd} {T : (Int32) → Prop} {I : St} (hQ : Q = 85 ∨ Q = 126) (h82_3 : R 82 3 = some Q) (a1 a2 : Int32) (hT : ∀ r, T r → o = .returned (some (.int r)) ∧ w = wT I R) : Dq (x271 Q I a1 a2) T → Rn E 271 (0, loc0 271 [.ref 82, .int a1, .int a2], [], wT I R) o w := by
  unfold x271
  rcases hQ with rfl | rfl
  all_goals
    refine D.run 2 rfl ?_
    refine D.bind (l271_2_ok (by decide) h82_3 (fun q1 e2 he2 => ?_) 100000 _ _  (by first | rfl | assumption))
    refine D.run 2 rfl ?_
    refine D.br rfl (by decide) rfl (fun hc => ?_) (fun hc => ?_)
    · refine D.run 2 rfl ?_
      exact fun h => by obtain ⟨rfl, rfl⟩ := hT _ (D.some h); exact Rn.ret rfl rfl (by first | rfl | (simp [rt1, rt]; done) | decide)
    · refine D.run 1 rfl ?_
      exact fun h => by obtain ⟨rfl, rfl⟩ := hT _ (D.some h); exact Rn.ret rfl rfl (by first | rfl | (simp [rt1, rt]; done) | decide)
set_option maxRecDepth 20000 in
theorem x271_ok {E : Xe} {R : Nat → Nat → Option Nat} {Q : Nat} {I : St} (hQ : Q = 85 ∨ Q = 126) (h82_3 : R 82 3 = some Q) {a1 a2 : Int32} {q : Int32} (h : x271 Q I a1 a2 = some q) : Rn E 271 (0, loc0 271 [.ref 82, .int a1, .int a2], [], wT I R) (.returned (some (.int q))) (wT I R) := x271_D hQ h82_3 _ _ (T := fun r => r = q) (by rintro r rfl; exact ⟨rfl, rfl⟩) ⟨_, h, rfl⟩
