/-! FUNCTIONS OF METHODS, by program (wip/gen/all.py): 170 172 176 185 188 192 199 201 204 207 208 210 211 214 218 -/
/-- TaintHouse$Machine.unwind()V -/
def l170_20 (P : Nat) (b1 : Int32) : Nat → Int32 → Int32 → St → Option (Int32 × St)
  | 0, _, _, _ => none
  | n + 1, b2, b3, I => if 24 ≤ b3 then some (b2, I) else if b2 = (-1) then if (I 68 7) ≤ 0 then some (b2, I) else (x167 I).bind fun q2 => (x171 P q2 b1).bind fun q3 => l170_20 P b1 n q3 (b3 + 1) q2 else some (b2, I)
set_option maxRecDepth 20000 in
theorem l170_20_ok {E : Xe} {R : Nat → Nat → Option Nat} {P : Nat} {o : Outcome} {w : Wd} {T : (Int32 × St) → Prop} {b1 : Int32} (hP : P = 3 ∨ P = 18) (h68_6 : R 68 6 = some P) (K : ∀ (q : Int32 × St) (e1 : Value) (_ : is1 e1 = true) (e3 : Value) (_ : is1 e3 = true), T q → Rn E 170 (54, [.ref 68, e1, .int q.1, e3], [], wT q.2 R) o w) : ∀ (n : Nat) (b2 : Int32) (b3 : Int32) (I : St), Dq (l170_20 P b1 n b2 b3 I) T → Rn E 170 (20, [.ref 68, .int b1, .int b2, .int b3], [], wT I R) o w := by
  rcases hP with rfl | rfl
  all_goals
    intro n
    induction n with
    | zero => intro b2 b3 I; exact D.none
    | succ n ih =>
      intro b2 b3 I
      rw [l170_20]
      refine D.run 2 rfl ?_
      refine D.br rfl (by decide) rfl (fun hc => ?_) (fun hc => ?_)
      · exact fun h => D.to h (K _ _ (by first | rfl | assumption) _ (by first | rfl | assumption))
      · refine D.run 2 rfl ?_
        refine D.br rfl (by decide) rfl (fun hc => ?_) (fun hc => ?_)
        · refine D.run 2 rfl ?_
          refine D.br rfl (by decide) rfl (fun hc => ?_) (fun hc => ?_)
          · exact fun h => D.to h (K _ _ (by first | rfl | assumption) _ (by first | rfl | assumption))
          · refine D.run 1 rfl ?_
            refine D.call rfl rfl rfl rfl (fun q h => x167_ok h) (fun q2 => ?_)
            refine D.run 2 rfl ?_
            refine D.call rfl rfl rfl rfl (fun q h => x171_ok (by decide) h68_6 h) (fun q3 => ?_)
            refine D.run 3 rfl ?_
            exact ih _ _ _ 
        · exact fun h => D.to h (K _ _ (by first | rfl | assumption) _ (by first | rfl | assumption))
def x170 (P : Nat) (I : St) : Option (St) := (x171 P I (x149 I (I 68 15))).bind fun q1 => (l170_20 P (x149 I (I 68 15)) 100000 q1 0 I).bind fun q4 => if q4.1 = (-1) then some (up2 (up2 q4.2 68 12 0) 68 14 3) else (x131 (up2 (up2 q4.2 68 12 0) 68 11 0) (q4.2 68 15) (q4.2 68 16)).bind fun q7 => some (up2 q7 68 10 (tget q7 (P + 11) q4.1 2))
set_option maxRecDepth 20000 in
theorem x170_D {E : Xe} {R : Nat → Nat → Option Nat} {P : Nat} {o : Outcome} {w : Wd} {T : (St) → Prop} {I : St} (hP : P = 3 ∨ P = 18) (h68_6 : R 68 6 = some P) (hT : ∀ r, T r → o = .returned none ∧ w = wT r R) : Dq (x170 P I) T → Rn E 170 (0, loc0 170 [.ref 68], [], wT I R) o w := by
  unfold x170
  rcases hP with rfl | rfl
  · refine D.run 4 rfl ?_
    refine D.ce rfl rfl rfl rfl (x149_ok _) ?_
    refine D.run 3 rfl ?_
    refine D.call rfl rfl rfl rfl (fun q h => x171_ok (by decide) h68_6 h) (fun q1 => ?_)
    refine D.run 3 rfl ?_
    refine D.bind (l170_20_ok (by decide) h68_6 (fun q4 e5 he5 e6 he6 => ?_) 100000 _ _  _ )
    refine D.run 5 rfl ?_
    refine D.br rfl (by decide) rfl (fun hc => ?_) (fun hc => ?_)
    · refine D.run 3 rfl ?_
      exact fun h => by obtain ⟨rfl, rfl⟩ := hT _ (D.some h); exact Rn.ret rfl rfl rfl
    · refine D.run 8 rfl ?_
      refine D.call rfl rfl rfl rfl (fun q h => x131_ok h) (fun q7 => ?_)
      refine D.run 2 rfl ?_
      refine D.st rfl (by decide) (gf_1 h68_6) ?_
      refine D.run 3 rfl ?_
      refine D.ce rfl rfl rfl rfl (tget_ok (by decide) (by first | rfl | decide) _ _) ?_
      show _ → Rn E 170 (100, [.ref 68, e5, .int q4.1, e6], [.int (tget q7 (3 + 11) q4.1 2), .ref 68], wT q7 R) o w
      refine D.run 1 rfl ?_
      exact fun h => by obtain ⟨rfl, rfl⟩ := hT _ (D.some h); exact Rn.ret rfl rfl rfl
  · refine D.run 4 rfl ?_
    refine D.ce rfl rfl rfl rfl (x149_ok _) ?_
    refine D.run 3 rfl ?_
    refine D.call rfl rfl rfl rfl (fun q h => x171_ok (by decide) h68_6 h) (fun q1 => ?_)
    refine D.run 3 rfl ?_
    refine D.bind (l170_20_ok (by decide) h68_6 (fun q4 e5 he5 e6 he6 => ?_) 100000 _ _  _ )
    refine D.run 5 rfl ?_
    refine D.br rfl (by decide) rfl (fun hc => ?_) (fun hc => ?_)
    · refine D.run 3 rfl ?_
      exact fun h => by obtain ⟨rfl, rfl⟩ := hT _ (D.some h); exact Rn.ret rfl rfl rfl
    · refine D.run 8 rfl ?_
      refine D.call rfl rfl rfl rfl (fun q h => x131_ok h) (fun q7 => ?_)
      refine D.run 2 rfl ?_
      refine D.st rfl (by decide) (gf_1 h68_6) ?_
      refine D.run 3 rfl ?_
      refine D.ce rfl rfl rfl rfl (tget_ok (by decide) (by first | rfl | decide) _ _) ?_
      show _ → Rn E 170 (100, [.ref 68, e5, .int q4.1, e6], [.int (tget q7 (18 + 11) q4.1 2), .ref 68], wT q7 R) o w
      refine D.run 1 rfl ?_
      exact fun h => by obtain ⟨rfl, rfl⟩ := hT _ (D.some h); exact Rn.ret rfl rfl rfl
set_option maxRecDepth 20000 in
theorem x170_ok {E : Xe} {R : Nat → Nat → Option Nat} {P : Nat} {I : St} (hP : P = 3 ∨ P = 18) (h68_6 : R 68 6 = some P) {q : St} (h : x170 P I = some q) : Rn E 170 (0, loc0 170 [.ref 68], [], wT I R) (.returned none) (wT q R) := x170_D hP h68_6 (T := fun r => r = q) (by rintro r rfl; exact ⟨rfl, rfl⟩) ⟨_, h, rfl⟩
/-- TaintHouse.result(I)I -/
def x172 (I : St) (a1 : Int32) : Int32 := if (I 68 13) = 0 then (-1) else if a1 = 0 then (I 68 14) else if a1 = 1 then (I 68 15) else if a1 = 2 then (I 68 16) else if a1 = 3 then (I 68 17) else if a1 = 4 then (I 76 3) else if a1 = 5 then (I 68 18) else if a1 = 6 then (I 70 3) else if a1 = 7 then (x173 I) else (-1)
set_option maxRecDepth 20000 in
theorem x172_ok {E : Xe} {R : Nat → Nat → Option Nat} {I : St} (a1 : Int32) : Rn E 172 (0, loc0 172 [.ref 0, .int a1], [], wT I R) (.returned (some (.int (x172 I a1)))) (wT I R) := by
  have H : ∀ (o : Outcome) (w : Wd) (T : Int32 → Prop), (∀ r, T r → o = .returned (some (.int r)) ∧ w = wT I R) → Dq (some (x172 I a1)) T → Rn E 172 (0, loc0 172 [.ref 0, .int a1], [], wT I R) o w := by
    intro o w T hT
    unfold x172
    refine D.run 3 rfl ?_
    refine D.brp rfl (by decide) rfl (fun hc => ?_) (fun hc => ?_)
    · refine D.run 1 rfl ?_
      exact fun h => by obtain ⟨rfl, rfl⟩ := hT _ (D.some h); exact Rn.ret rfl rfl rfl
    · refine D.run 1 rfl ?_
      refine D.sw rfl (by decide) rfl ?_
      show _ → Rn E 172 (swT [(0, 60), (1, 68), (2, 76), (3, 84), (4, 92), (5, 103), (6, 111), (7, 125)] 136 _, _, _, _) _ _
      refine D.swcp (fun hc => ?_) (fun hc => ?_)
      · refine D.run 3 rfl ?_
        exact fun h => by obtain ⟨rfl, rfl⟩ := hT _ (D.some h); exact Rn.ret rfl rfl rfl
      · refine D.swcp (fun hc => ?_) (fun hc => ?_)
        · refine D.run 3 rfl ?_
          exact fun h => by obtain ⟨rfl, rfl⟩ := hT _ (D.some h); exact Rn.ret rfl rfl rfl
        · refine D.swcp (fun hc => ?_) (fun hc => ?_)
          · refine D.run 3 rfl ?_
            exact fun h => by obtain ⟨rfl, rfl⟩ := hT _ (D.some h); exact Rn.ret rfl rfl rfl
          · refine D.swcp (fun hc => ?_) (fun hc => ?_)
            · refine D.run 3 rfl ?_
              exact fun h => by obtain ⟨rfl, rfl⟩ := hT _ (D.some h); exact Rn.ret rfl rfl rfl
            · refine D.swcp (fun hc => ?_) (fun hc => ?_)
              · refine D.run 3 rfl ?_
                refine D.ce rfl rfl rfl rfl (tsize_ok (by decide) (by first | rfl | decide)) ?_
                exact fun h => by obtain ⟨rfl, rfl⟩ := hT _ (D.some h); exact Rn.ret rfl rfl rfl
              · refine D.swcp (fun hc => ?_) (fun hc => ?_)
                · refine D.run 3 rfl ?_
                  exact fun h => by obtain ⟨rfl, rfl⟩ := hT _ (D.some h); exact Rn.ret rfl rfl rfl
                · refine D.swcp (fun hc => ?_) (fun hc => ?_)
                  · refine D.run 4 rfl ?_
                    refine D.ce rfl rfl rfl rfl (tsize_ok (by decide) (by first | rfl | decide)) ?_
                    exact fun h => by obtain ⟨rfl, rfl⟩ := hT _ (D.some h); exact Rn.ret rfl rfl rfl
                  · refine D.swcp (fun hc => ?_) (fun hc => ?_)
                    · refine D.run 3 rfl ?_
                      refine D.ce rfl rfl rfl rfl (x173_ok) ?_
                      exact fun h => by obtain ⟨rfl, rfl⟩ := hT _ (D.some h); exact Rn.ret rfl rfl rfl
                    · refine D.run 1 rfl ?_
                      exact fun h => by obtain ⟨rfl, rfl⟩ := hT _ (D.some h); exact Rn.ret rfl rfl rfl
  exact H _ _ (fun r => r = x172 I a1) (by rintro r rfl; exact ⟨rfl, rfl⟩) ⟨_, rfl, rfl⟩
/-- TaintHouse.slot(III)I -/
def x176 (I : St) (a1 a2 a3 : Int32) : Int32 := if (I 68 13) = 0 then (-1) else if (x177 I a1 a2) = 0 then (-1) else if a3 = 0 then (x151 I a1 a2) else if a3 = 1 then (x152 I a1 a2) else (-1)
set_option maxRecDepth 20000 in
theorem x176_ok {E : Xe} {R : Nat → Nat → Option Nat} {I : St} (a1 a2 a3 : Int32) : Rn E 176 (0, loc0 176 [.ref 0, .int a1, .int a2, .int a3], [], wT I R) (.returned (some (.int (x176 I a1 a2 a3)))) (wT I R) := by
  have H : ∀ (o : Outcome) (w : Wd) (T : Int32 → Prop), (∀ r, T r → o = .returned (some (.int r)) ∧ w = wT I R) → Dq (some (x176 I a1 a2 a3)) T → Rn E 176 (0, loc0 176 [.ref 0, .int a1, .int a2, .int a3], [], wT I R) o w := by
    intro o w T hT
    unfold x176
    refine D.run 3 rfl ?_
    refine D.brp rfl (by decide) rfl (fun hc => ?_) (fun hc => ?_)
    · refine D.run 1 rfl ?_
      exact fun h => by obtain ⟨rfl, rfl⟩ := hT _ (D.some h); exact Rn.ret rfl rfl rfl
    · refine D.run 5 rfl ?_
      refine D.ce rfl rfl rfl rfl (x177_ok _ _) ?_
      refine D.brp rfl (by decide) rfl (fun hc => ?_) (fun hc => ?_)
      · refine D.run 1 rfl ?_
        exact fun h => by obtain ⟨rfl, rfl⟩ := hT _ (D.some h); exact Rn.ret rfl rfl rfl
      · refine D.run 1 rfl ?_
        refine D.sw rfl (by decide) rfl ?_
        show _ → Rn E 176 (swT [(0, 56), (1, 69)] 82 _, _, _, _) _ _
        refine D.swcp (fun hc => ?_) (fun hc => ?_)
        · refine D.run 5 rfl ?_
          refine D.ce rfl rfl rfl rfl (x151_ok _ _) ?_
          exact fun h => by obtain ⟨rfl, rfl⟩ := hT _ (D.some h); exact Rn.ret rfl rfl rfl
        · refine D.swcp (fun hc => ?_) (fun hc => ?_)
          · refine D.run 5 rfl ?_
            refine D.ce rfl rfl rfl rfl (x152_ok _ _) ?_
            exact fun h => by obtain ⟨rfl, rfl⟩ := hT _ (D.some h); exact Rn.ret rfl rfl rfl
          · refine D.run 1 rfl ?_
            exact fun h => by obtain ⟨rfl, rfl⟩ := hT _ (D.some h); exact Rn.ret rfl rfl rfl
  exact H _ _ (fun r => r = x176 I a1 a2 a3) (by rintro r rfl; exact ⟨rfl, rfl⟩) ⟨_, rfl, rfl⟩
/-- TaintHouseModel.built()V -/
def l185_25 (Z : Nat) (b1 : Int32) : Nat → Int32 → St → Option (Int32 × St)
  | 0, _, _ => none
  | n + 1, b3, I => if inb (b1 + b3) 64 then if ((xTL.getD 2 []).getD (b1 + b3).toNatClampNeg 0) = 32 then some (b3, I) else if inb (b1 + b3) 64 then if inb (I Z 4) 4100 then Lt (up2 I (Z + 1) (I Z 4).toNatClampNeg (vp_nar .byte (i2b ((xTL.getD 2 []).getD (b1 + b3).toNatClampNeg 0)))) fun J2 => l185_25 Z b1 n (b3 + 1) (up2 J2 Z 4 ((J2 Z 4) + 1)) else none else none else none
set_option maxRecDepth 20000 in
theorem l185_25_ok {E : Xe} {R : Nat → Nat → Option Nat} {Z : Nat} {o : Outcome} {w : Wd} {T : (Int32 × St) → Prop} {b1 : Int32} (hZ : Z = 85 ∨ Z = 126) (h82_4 : R 82 4 = some Z) (K : ∀ (q : Int32 × St) (e2 : Value) (_ : is1 e2 = true) (e4 : Value) (_ : is1 e4 = true), T q → Rn E 185 (81, [.ref 82, .int b1, e2, .int q.1, e4], [], wT q.2 R) o w) : ∀ (n : Nat) (b3 : Int32) (d2 : Value) (d4 : Value) (I : St), is1 d2 = true → is1 d4 = true → Dq (l185_25 Z b1 n b3 I) T → Rn E 185 (25, [.ref 82, .int b1, d2, .int b3, d4], [], wT I R) o w := by
  rcases hZ with rfl | rfl
  · intro n
    induction n with
    | zero => intro b3 d2 d4 I hd2 hd4; exact D.none
    | succ n ih =>
      intro b3 d2 d4 I hd2 hd4
      rw [l185_25]
      refine D.run 4 rfl ?_
      refine D.gd fun hg => ?_
      refine D.ce rfl rfl rfl rfl (scharI (tx := 2) (by decide) hg) ?_
      refine D.run 1 rfl ?_
      refine D.br rfl (by decide) rfl (fun hc => ?_) (fun hc => ?_)
      · exact fun h => D.to h (K _ _ (by first | rfl | assumption) _ (by first | rfl | assumption))
      · refine D.run 1 rfl ?_
        refine D.st rfl (by decide) (gf_1 h82_4) ?_
        refine D.run 2 rfl ?_
        refine D.st rfl (by decide) (gf_1 h82_4) ?_
        refine D.run 5 rfl ?_
        refine D.gd fun hg => ?_
        refine D.ce rfl rfl rfl rfl (scharI (tx := 2) (by decide) hg) ?_
        show _ → Rn E 185 (60, [.ref 82, .int b1, d2, .int b3, d4], [.int ((xTL.getD 2 []).getD (b1 + b3).toNatClampNeg 0), .int (I 85 4), .ref (85 + 1)], wT I R) o w
        refine D.run 1 rfl ?_
        refine D.gd fun hg => ?_
        refine D.st rfl (by decide) (as_b (by decide) (by first | rfl | decide) hg.1 hg.2) ?_
        refine D.letS (fun J2 => ?_)
        refine D.run 1 rfl ?_
        refine D.st rfl (by decide) (gf_1 h82_4) ?_
        show _ → Rn E 185 (66, [.ref 82, .int b1, d2, .int b3, d4], [.ref 85], wT J2 R) o w
        refine D.run 5 rfl ?_
        refine D.st rfl (by decide) (iinc_d rfl rfl (by first | rfl | assumption) rfl) ?_
        refine D.run 1 rfl ?_
        exact ih _ _ _ _ (by first | rfl | assumption) (by first | rfl | assumption)
  · intro n
    induction n with
    | zero => intro b3 d2 d4 I hd2 hd4; exact D.none
    | succ n ih =>
      intro b3 d2 d4 I hd2 hd4
      rw [l185_25]
      refine D.run 4 rfl ?_
      refine D.gd fun hg => ?_
      refine D.ce rfl rfl rfl rfl (scharI (tx := 2) (by decide) hg) ?_
      refine D.run 1 rfl ?_
      refine D.br rfl (by decide) rfl (fun hc => ?_) (fun hc => ?_)
      · exact fun h => D.to h (K _ _ (by first | rfl | assumption) _ (by first | rfl | assumption))
      · refine D.run 1 rfl ?_
        refine D.st rfl (by decide) (gf_1 h82_4) ?_
        refine D.run 2 rfl ?_
        refine D.st rfl (by decide) (gf_1 h82_4) ?_
        refine D.run 5 rfl ?_
        refine D.gd fun hg => ?_
        refine D.ce rfl rfl rfl rfl (scharI (tx := 2) (by decide) hg) ?_
        show _ → Rn E 185 (60, [.ref 82, .int b1, d2, .int b3, d4], [.int ((xTL.getD 2 []).getD (b1 + b3).toNatClampNeg 0), .int (I 126 4), .ref (126 + 1)], wT I R) o w
        refine D.run 1 rfl ?_
        refine D.gd fun hg => ?_
        refine D.st rfl (by decide) (as_b (by decide) (by first | rfl | decide) hg.1 hg.2) ?_
        refine D.letS (fun J2 => ?_)
        refine D.run 1 rfl ?_
        refine D.st rfl (by decide) (gf_1 h82_4) ?_
        show _ → Rn E 185 (66, [.ref 82, .int b1, d2, .int b3, d4], [.ref 126], wT J2 R) o w
        refine D.run 5 rfl ?_
        refine D.st rfl (by decide) (iinc_d rfl rfl (by first | rfl | assumption) rfl) ?_
        refine D.run 1 rfl ?_
        exact ih _ _ _ _ (by first | rfl | assumption) (by first | rfl | assumption)
def l185_14 (Z : Nat) : Nat → Int32 → St → Option (St)
  | 0, _, _ => none
  | n + 1, b1, I => if 64 ≤ b1 then some I else (l185_25 Z b1 100000 0 I).bind fun q3 => if inb (q3.2 Z 5) 2000 then if inb (q3.2 Z 5) 2000 then Lt (up2 (up2 q3.2 (Z + 2) (q3.2 Z 5).toNatClampNeg ((q3.2 Z 4) - q3.1)) (Z + 3) (q3.2 Z 5).toNatClampNeg q3.1) fun J6 => if inb (q3.2 Z 5) 19 then Lt (up2 (up2 (up2 J6 Z 3 ((J6 Z 3) + 1)) Z 5 (((up2 J6 Z 3 ((J6 Z 3) + 1)) Z 5) + 1)) (Z + 4) (q3.2 Z 5).toNatClampNeg (q3.2 Z 5)) fun J7 => (if (q3.2 Z 5) = 0 then some (-1) else if (q3.2 Z 5) = 1 then some 0 else some 1).bind fun (q8 : Int32) => if inb (q3.2 Z 5) 19 then if inb (q3.2 Z 5) 19 then l185_14 Z n (b1 + (q3.1 + 1)) (up2 (up2 J7 (Z + 8) (q3.2 Z 5).toNatClampNeg q8) (Z + 6) (q3.2 Z 5).toNatClampNeg (-1)) else none else none else none else none else none
set_option maxRecDepth 20000 in
theorem l185_14_ok {E : Xe} {R : Nat → Nat → Option Nat} {Z : Nat} {o : Outcome} {w : Wd} {T : (St) → Prop} (hZ : Z = 85 ∨ Z = 126) (h82_4 : R 82 4 = some Z) (K : ∀ (q : St) (e1 : Value) (_ : is1 e1 = true) (e2 : Value) (_ : is1 e2 = true) (e3 : Value) (_ : is1 e3 = true) (e4 : Value) (_ : is1 e4 = true), T q → Rn E 185 (208, [.ref 82, e1, e2, e3, e4], [], wT q R) o w) : ∀ (n : Nat) (b1 : Int32) (d2 : Value) (d3 : Value) (d4 : Value) (I : St), is1 d2 = true → is1 d3 = true → is1 d4 = true → Dq (l185_14 Z n b1 I) T → Rn E 185 (14, [.ref 82, .int b1, d2, d3, d4], [], wT I R) o w := by
  rcases hZ with rfl | rfl
  · intro n
    induction n with
    | zero => intro b1 d2 d3 d4 I hd2 hd3 hd4; exact D.none
    | succ n ih =>
      intro b1 d2 d3 d4 I hd2 hd3 hd4
      rw [l185_14]
      refine D.run 2 rfl ?_
      refine D.ce rfl rfl rfl rfl (slen_ok (t := 2) (by decide)) ?_
      refine D.br rfl (by decide) rfl (fun hc => ?_) (fun hc => ?_)
      · exact fun h => D.to h (K _ _ (by first | rfl | assumption) _ (by first | rfl | assumption) _ (by first | rfl | assumption) _ (by first | rfl | assumption))
      · refine D.run 1 rfl ?_
        refine D.st rfl (by decide) (istn_d rfl (by first | rfl | assumption) rfl) ?_
        refine D.bind (l185_25_ok (by decide) h82_4 (fun q3 e4 he4 e5 he5 => ?_) 100000 _ _ _ _ (by first | rfl | assumption) (by first | rfl | assumption))
        refine D.run 1 rfl ?_
        refine D.st rfl (by decide) (gf_1 h82_4) ?_
        refine D.run 3 rfl ?_
        refine D.st rfl (by decide) (gf_1 h82_4) ?_
        refine D.run 3 rfl ?_
        refine D.st rfl (by decide) (gf_1 h82_4) ?_
        show _ → Rn E 185 (103, [.ref 82, .int b1, e4, .int q3.1, .int (q3.2 85 5)], [.ref 85, .int (q3.2 85 5), .ref (85 + 2)], wT q3.2 R) o w
        refine D.run 3 rfl ?_
        refine D.gd fun hg => ?_
        refine D.st rfl (by decide) (as_i (by decide) (by first | rfl | decide) hg.1 hg.2) ?_
        refine D.run 1 rfl ?_
        refine D.st rfl (by decide) (gf_1 h82_4) ?_
        show _ → Rn E 185 (113, [.ref 82, .int b1, e4, .int q3.1, .int (q3.2 85 5)], [.ref 85], wT (up2 q3.2 (85 + 2) (q3.2 85 5).toNatClampNeg ((q3.2 85 4) - q3.1)) R) o w
        refine D.run 3 rfl ?_
        refine D.gd fun hg => ?_
        refine D.st rfl (by decide) (as_i (by decide) (by first | rfl | decide) hg.1 hg.2) ?_
        refine D.letS (fun J6 => ?_)
        refine D.run 1 rfl ?_
        refine D.st rfl (by decide) (gf_1 h82_4) ?_
        show _ → Rn E 185 (124, [.ref 82, .int b1, e4, .int q3.1, .int (q3.2 85 5)], [.ref 85], wT J6 R) o w
        refine D.run 6 rfl ?_
        refine D.st rfl (by decide) (gf_1 h82_4) ?_
        refine D.run 6 rfl ?_
        refine D.st rfl (by decide) (gf_1 h82_4) ?_
        refine D.run 3 rfl ?_
        refine D.gd fun hg => ?_
        refine D.st rfl (by decide) (as_i (by decide) (by first | rfl | decide) hg.1 hg.2) ?_
        refine D.letS (fun J7 => ?_)
        show _ → Rn E 185 (158, [.ref 82, .int b1, e4, .int q3.1, .int (q3.2 85 5)], [], wT J7 R) o w
        refine D.run 1 rfl ?_
        refine D.st rfl (by decide) (gf_1 h82_4) ?_
        refine D.run 3 rfl ?_
        have Kj187 : ∀ (q8 : Int32), Dq (if inb (q3.2 85 5) 19 then if inb (q3.2 85 5) 19 then l185_14 85 n (b1 + (q3.1 + 1)) (up2 (up2 J7 (85 + 8) (q3.2 85 5).toNatClampNeg q8) (85 + 6) (q3.2 85 5).toNatClampNeg (-1)) else none else none) T → Rn E 185 (187, [.ref 82, .int b1, e4, .int q3.1, .int (q3.2 85 5)], [.int q8, .int (q3.2 85 5), .ref (85 + 8)], wT J7 R) o w := by
          intro q8
          refine D.gd fun hg => ?_
          refine D.st rfl (by decide) (as_i (by decide) (by first | rfl | decide) hg.1 hg.2) ?_
          refine D.run 1 rfl ?_
          refine D.st rfl (by decide) (gf_1 h82_4) ?_
          refine D.run 3 rfl ?_
          refine D.gd fun hg => ?_
          refine D.st rfl (by decide) (as_i (by decide) (by first | rfl | decide) hg.1 hg.2) ?_
          show _ → Rn E 185 (199, [.ref 82, .int b1, e4, .int q3.1, .int (q3.2 85 5)], [], wT (up2 (up2 J7 (85 + 8) (q3.2 85 5).toNatClampNeg q8) (85 + 6) (q3.2 85 5).toNatClampNeg (-1)) R) o w
          refine D.run 7 rfl ?_
          exact ih _ _ _ _ _ (by first | rfl | assumption) (by first | rfl | assumption) (by first | rfl | assumption)
        refine D.jn (fun T187 c187 => ?_)
        refine D.br rfl (by decide) rfl (fun hc => ?_) (fun hc => ?_)
        · refine D.run 2 rfl ?_
          exact fun h => Kj187 _   (c187 _ (D.some h))
        · refine D.run 2 rfl ?_
          refine D.br rfl (by decide) rfl (fun hc => ?_) (fun hc => ?_)
          · refine D.run 2 rfl ?_
            exact fun h => Kj187 _   (c187 _ (D.some h))
          · refine D.run 1 rfl ?_
            exact fun h => Kj187 _   (c187 _ (D.some h))
  · intro n
    induction n with
    | zero => intro b1 d2 d3 d4 I hd2 hd3 hd4; exact D.none
    | succ n ih =>
      intro b1 d2 d3 d4 I hd2 hd3 hd4
      rw [l185_14]
      refine D.run 2 rfl ?_
      refine D.ce rfl rfl rfl rfl (slen_ok (t := 2) (by decide)) ?_
      refine D.br rfl (by decide) rfl (fun hc => ?_) (fun hc => ?_)
      · exact fun h => D.to h (K _ _ (by first | rfl | assumption) _ (by first | rfl | assumption) _ (by first | rfl | assumption) _ (by first | rfl | assumption))
      · refine D.run 1 rfl ?_
        refine D.st rfl (by decide) (istn_d rfl (by first | rfl | assumption) rfl) ?_
        refine D.bind (l185_25_ok (by decide) h82_4 (fun q3 e4 he4 e5 he5 => ?_) 100000 _ _ _ _ (by first | rfl | assumption) (by first | rfl | assumption))
        refine D.run 1 rfl ?_
        refine D.st rfl (by decide) (gf_1 h82_4) ?_
        refine D.run 3 rfl ?_
        refine D.st rfl (by decide) (gf_1 h82_4) ?_
        refine D.run 3 rfl ?_
        refine D.st rfl (by decide) (gf_1 h82_4) ?_
        show _ → Rn E 185 (103, [.ref 82, .int b1, e4, .int q3.1, .int (q3.2 126 5)], [.ref 126, .int (q3.2 126 5), .ref (126 + 2)], wT q3.2 R) o w
        refine D.run 3 rfl ?_
        refine D.gd fun hg => ?_
        refine D.st rfl (by decide) (as_i (by decide) (by first | rfl | decide) hg.1 hg.2) ?_
        refine D.run 1 rfl ?_
        refine D.st rfl (by decide) (gf_1 h82_4) ?_
        show _ → Rn E 185 (113, [.ref 82, .int b1, e4, .int q3.1, .int (q3.2 126 5)], [.ref 126], wT (up2 q3.2 (126 + 2) (q3.2 126 5).toNatClampNeg ((q3.2 126 4) - q3.1)) R) o w
        refine D.run 3 rfl ?_
        refine D.gd fun hg => ?_
        refine D.st rfl (by decide) (as_i (by decide) (by first | rfl | decide) hg.1 hg.2) ?_
        refine D.letS (fun J6 => ?_)
        refine D.run 1 rfl ?_
        refine D.st rfl (by decide) (gf_1 h82_4) ?_
        show _ → Rn E 185 (124, [.ref 82, .int b1, e4, .int q3.1, .int (q3.2 126 5)], [.ref 126], wT J6 R) o w
        refine D.run 6 rfl ?_
        refine D.st rfl (by decide) (gf_1 h82_4) ?_
        refine D.run 6 rfl ?_
        refine D.st rfl (by decide) (gf_1 h82_4) ?_
        refine D.run 3 rfl ?_
        refine D.gd fun hg => ?_
        refine D.st rfl (by decide) (as_i (by decide) (by first | rfl | decide) hg.1 hg.2) ?_
        refine D.letS (fun J7 => ?_)
        show _ → Rn E 185 (158, [.ref 82, .int b1, e4, .int q3.1, .int (q3.2 126 5)], [], wT J7 R) o w
        refine D.run 1 rfl ?_
        refine D.st rfl (by decide) (gf_1 h82_4) ?_
        refine D.run 3 rfl ?_
        have Kj187 : ∀ (q8 : Int32), Dq (if inb (q3.2 126 5) 19 then if inb (q3.2 126 5) 19 then l185_14 126 n (b1 + (q3.1 + 1)) (up2 (up2 J7 (126 + 8) (q3.2 126 5).toNatClampNeg q8) (126 + 6) (q3.2 126 5).toNatClampNeg (-1)) else none else none) T → Rn E 185 (187, [.ref 82, .int b1, e4, .int q3.1, .int (q3.2 126 5)], [.int q8, .int (q3.2 126 5), .ref (126 + 8)], wT J7 R) o w := by
          intro q8
          refine D.gd fun hg => ?_
          refine D.st rfl (by decide) (as_i (by decide) (by first | rfl | decide) hg.1 hg.2) ?_
          refine D.run 1 rfl ?_
          refine D.st rfl (by decide) (gf_1 h82_4) ?_
          refine D.run 3 rfl ?_
          refine D.gd fun hg => ?_
          refine D.st rfl (by decide) (as_i (by decide) (by first | rfl | decide) hg.1 hg.2) ?_
          show _ → Rn E 185 (199, [.ref 82, .int b1, e4, .int q3.1, .int (q3.2 126 5)], [], wT (up2 (up2 J7 (126 + 8) (q3.2 126 5).toNatClampNeg q8) (126 + 6) (q3.2 126 5).toNatClampNeg (-1)) R) o w
          refine D.run 7 rfl ?_
          exact ih _ _ _ _ _ (by first | rfl | assumption) (by first | rfl | assumption) (by first | rfl | assumption)
        refine D.jn (fun T187 c187 => ?_)
        refine D.br rfl (by decide) rfl (fun hc => ?_) (fun hc => ?_)
        · refine D.run 2 rfl ?_
          exact fun h => Kj187 _   (c187 _ (D.some h))
        · refine D.run 2 rfl ?_
          refine D.br rfl (by decide) rfl (fun hc => ?_) (fun hc => ?_)
          · refine D.run 2 rfl ?_
            exact fun h => Kj187 _   (c187 _ (D.some h))
          · refine D.run 1 rfl ?_
            exact fun h => Kj187 _   (c187 _ (D.some h))
def x185 (Z : Nat) (I : St) : Option (St) := (x186 Z I).bind fun q1 => (l185_14 Z 100000 0 q1).bind fun q9 => some q9
set_option maxRecDepth 20000 in
theorem x185_D {E : Xe} {R : Nat → Nat → Option Nat} {Z : Nat} {o : Outcome} {w : Wd} {T : (St) → Prop} {I : St} (hZ : Z = 85 ∨ Z = 126) (h82_4 : R 82 4 = some Z) (hT : ∀ r, T r → o = .returned none ∧ w = wT r R) : Dq (x185 Z I) T → Rn E 185 (0, loc0 185 [.ref 82], [], wT I R) o w := by
  unfold x185
  rcases hZ with rfl | rfl
  all_goals
    refine D.run 1 rfl ?_
    refine D.st rfl (by decide) (gf_1 h82_4) ?_
    refine D.call rfl rfl rfl rfl (fun q h => x186_ok (by decide) h) (fun q1 => ?_)
    refine D.run 5 rfl ?_
    refine D.bind (l185_14_ok (by decide) h82_4 (fun q9 e10 he10 e11 he11 e12 he12 e13 he13 => ?_) 100000 _ _ _ _ _ (by first | rfl | assumption) (by first | rfl | assumption) (by first | rfl | assumption))
    exact fun h => by obtain ⟨rfl, rfl⟩ := hT _ (D.some h); exact Rn.ret rfl rfl rfl
set_option maxRecDepth 20000 in
theorem x185_ok {E : Xe} {R : Nat → Nat → Option Nat} {Z : Nat} {I : St} (hZ : Z = 85 ∨ Z = 126) (h82_4 : R 82 4 = some Z) {q : St} (h : x185 Z I = some q) : Rn E 185 (0, loc0 185 [.ref 82], [], wT I R) (.returned none) (wT q R) := x185_D hZ h82_4 (T := fun r => r = q) (by rintro r rfl; exact ⟨rfl, rfl⟩) ⟨_, h, rfl⟩
/-- TaintHouseModel.feed(IIIII)Z -/
def x188 (I : St) (a1 a2 a3 a4 a5 : Int32) : Option (Int32 × St) := if (I 82 1) ≤ 3980 then (x189 I a1).bind fun q1 => (x189 q1 a2).bind fun q2 => (x189 q2 a3).bind fun q3 => (x189 q3 a4).bind fun q4 => (x189 q4 a5).bind fun q5 => some (1, q5) else some (0, I)
set_option maxRecDepth 20000 in
theorem x188_D {E : Xe} {R : Nat → Nat → Option Nat} {o : Outcome} {w : Wd} {T : (Int32 × St) → Prop} {I : St} (a1 a2 a3 a4 a5 : Int32) (hT : ∀ r, T r → o = .returned (some (.int r.1)) ∧ w = wT r.2 R) : Dq (x188 I a1 a2 a3 a4 a5) T → Rn E 188 (0, loc0 188 [.ref 82, .int a1, .int a2, .int a3, .int a4, .int a5], [], wT I R) o w := by
  unfold x188
  refine D.run 3 rfl ?_
  refine D.br rfl (by decide) rfl (fun hc => ?_) (fun hc => ?_)
  · refine D.run 2 rfl ?_
    refine D.call rfl rfl rfl rfl (fun q h => x189_ok h) (fun q1 => ?_)
    refine D.run 2 rfl ?_
    refine D.call rfl rfl rfl rfl (fun q h => x189_ok h) (fun q2 => ?_)
    refine D.run 2 rfl ?_
    refine D.call rfl rfl rfl rfl (fun q h => x189_ok h) (fun q3 => ?_)
    show _ → Rn E 188 (27, [.ref 82, .int a1, .int a2, .int a3, .int a4, .int a5], [], wT q3 R) o w
    refine D.run 2 rfl ?_
    refine D.call rfl rfl rfl rfl (fun q h => x189_ok h) (fun q4 => ?_)
    refine D.run 2 rfl ?_
    refine D.call rfl rfl rfl rfl (fun q h => x189_ok h) (fun q5 => ?_)
    refine D.run 1 rfl ?_
    exact fun h => by obtain ⟨rfl, rfl⟩ := hT _ (D.some h); exact Rn.ret rfl rfl (by first | rfl | (simp [rt1, rt]; done) | decide)
  · refine D.run 1 rfl ?_
    exact fun h => by obtain ⟨rfl, rfl⟩ := hT _ (D.some h); exact Rn.ret rfl rfl (by first | rfl | (simp [rt1, rt]; done) | decide)
set_option maxRecDepth 20000 in
theorem x188_ok {E : Xe} {R : Nat → Nat → Option Nat} {I : St} {a1 a2 a3 a4 a5 : Int32} {q : Int32 × St} (h : x188 I a1 a2 a3 a4 a5 = some q) : Rn E 188 (0, loc0 188 [.ref 82, .int a1, .int a2, .int a3, .int a4, .int a5], [], wT I R) (.returned (some (.int q.1))) (wT q.2 R) := x188_D  _ _ _ _ _ (T := fun r => r = q) (by rintro r rfl; exact ⟨rfl, rfl⟩) ⟨_, h, rfl⟩
/-- TaintHouseModel.next()V -/
def l192_21 (b1 : Int32) : Nat → St → Option (St)
  | 0, _ => none
  | n + 1, I => if (I 82 1) ≤ (I 82 11) then some I else (x193 I (I 82 11)).bind fun q2 => if q2 = 10 then some I else l192_21 b1 n (up2 I 82 11 ((I 82 11) + 1))
set_option maxRecDepth 20000 in
theorem l192_21_ok {E : Xe} {R : Nat → Nat → Option Nat} {o : Outcome} {w : Wd} {T : (St) → Prop} {b1 : Int32} (K : ∀ (q : St) (e2 : Value) (_ : is1 e2 = true) (e3 : Value) (_ : is1 e3 = true) (e4 : Value) (_ : is1 e4 = true), T q → Rn E 192 (102, [.ref 82, .int b1, e2, e3, e4], [], wT q R) o w) : ∀ (n : Nat) (d2 : Value) (d3 : Value) (d4 : Value) (I : St), is1 d2 = true → is1 d3 = true → is1 d4 = true → Dq (l192_21 b1 n I) T → Rn E 192 (21, [.ref 82, .int b1, d2, d3, d4], [], wT I R) o w := by
  intro n
  induction n with
  | zero => intro d2 d3 d4 I hd2 hd3 hd4; exact D.none
  | succ n ih =>
    intro d2 d3 d4 I hd2 hd3 hd4
    rw [l192_21]
    refine D.run 4 rfl ?_
    refine D.br rfl (by decide) rfl (fun hc => ?_) (fun hc => ?_)
    · exact fun h => D.to h (K _ _ (by first | rfl | assumption) _ (by first | rfl | assumption) _ (by first | rfl | assumption))
    · refine D.run 3 rfl ?_
      refine D.call rfl rfl rfl rfl (fun q h => x193_ok h) (fun q2 => ?_)
      refine D.run 1 rfl ?_
      refine D.br rfl (by decide) rfl (fun hc => ?_) (fun hc => ?_)
      · exact fun h => D.to h (K _ _ (by first | rfl | assumption) _ (by first | rfl | assumption) _ (by first | rfl | assumption))
      · refine D.run 7 rfl ?_
        exact ih _ _ _ _ (by first | rfl | assumption) (by first | rfl | assumption) (by first | rfl | assumption)
def l192_2 : Nat → Int32 → St → Option (St)
  | 0, _, _ => none
  | n + 1, b1, I => if b1 = 0 then some I else (x193 I (I 82 11)).bind fun q1 => if q1 = 35 then (l192_21 b1 100000 I).bind fun q3 => l192_2 n b1 q3 else (if q1 = 32 then some 1 else if q1 = 9 then some 1 else if q1 = 10 then some 1 else if q1 = 13 then some 1 else some 0).bind fun (q7 : Int32) => if q7 = 0 then l192_2 n q7 I else l192_2 n q7 (up2 I 82 11 ((I 82 11) + 1))
set_option maxRecDepth 20000 in
theorem l192_2_ok {E : Xe} {R : Nat → Nat → Option Nat} {o : Outcome} {w : Wd} {T : (St) → Prop} (K : ∀ (q : St) (e1 : Value) (_ : is1 e1 = true) (e2 : Value) (_ : is1 e2 = true) (e3 : Value) (_ : is1 e3 = true) (e4 : Value) (_ : is1 e4 = true), T q → Rn E 192 (105, [.ref 82, e1, e2, e3, e4], [], wT q R) o w) : ∀ (n : Nat) (b1 : Int32) (d2 : Value) (d3 : Value) (d4 : Value) (I : St), is1 d2 = true → is1 d3 = true → is1 d4 = true → Dq (l192_2 n b1 I) T → Rn E 192 (2, [.ref 82, .int b1, d2, d3, d4], [], wT I R) o w := by
  intro n
  induction n with
  | zero => intro b1 d2 d3 d4 I hd2 hd3 hd4; exact D.none
  | succ n ih =>
    intro b1 d2 d3 d4 I hd2 hd3 hd4
    rw [l192_2]
    refine D.run 1 rfl ?_
    refine D.br rfl (by decide) rfl (fun hc => ?_) (fun hc => ?_)
    · exact fun h => D.to h (K _ _ (by first | rfl | assumption) _ (by first | rfl | assumption) _ (by first | rfl | assumption) _ (by first | rfl | assumption))
    · refine D.run 3 rfl ?_
      refine D.call rfl rfl rfl rfl (fun q h => x193_ok h) (fun q1 => ?_)
      refine D.run 3 rfl ?_
      refine D.br rfl (by decide) rfl (fun hc => ?_) (fun hc => ?_)
      · refine D.bind (l192_21_ok  (fun q3 e4 he4 e5 he5 e6 he6 => ?_) 100000  _ _ _ _ (by first | rfl | assumption) (by first | rfl | assumption) (by first | rfl | assumption))
        refine D.run 1 rfl ?_
        exact ih _ _ _ _ _ (by first | rfl | assumption) (by first | rfl | assumption) (by first | rfl | assumption)
      · refine D.run 2 rfl ?_
        have Kj87 : ∀ (q7 : Int32), Dq (if q7 = 0 then l192_2 n q7 I else l192_2 n q7 (up2 I 82 11 ((I 82 11) + 1))) T → Rn E 192 (87, [.ref 82, .int b1, .int q1, d3, d4], [.int q7], wT I R) o w := by
          intro q7
          refine D.run 2 rfl ?_
          refine D.br rfl (by decide) rfl (fun hc => ?_) (fun hc => ?_)
          · refine D.run 1 rfl ?_
            exact ih _ _ _ _ _ (by first | rfl | assumption) (by first | rfl | assumption) (by first | rfl | assumption)
          · refine D.run 7 rfl ?_
            exact ih _ _ _ _ _ (by first | rfl | assumption) (by first | rfl | assumption) (by first | rfl | assumption)
        refine D.jn (fun T87 c87 => ?_)
        refine D.br rfl (by decide) rfl (fun hc => ?_) (fun hc => ?_)
        · refine D.run 2 rfl ?_
          exact fun h => Kj87 _   (c87 _ (D.some h))
        · refine D.run 2 rfl ?_
          refine D.br rfl (by decide) rfl (fun hc => ?_) (fun hc => ?_)
          · refine D.run 2 rfl ?_
            exact fun h => Kj87 _   (c87 _ (D.some h))
          · refine D.run 2 rfl ?_
            refine D.br rfl (by decide) rfl (fun hc => ?_) (fun hc => ?_)
            · refine D.run 2 rfl ?_
              exact fun h => Kj87 _   (c87 _ (D.some h))
            · refine D.run 2 rfl ?_
              refine D.br rfl (by decide) rfl (fun hc => ?_) (fun hc => ?_)
              · refine D.run 2 rfl ?_
                exact fun h => Kj87 _   (c87 _ (D.some h))
              · refine D.run 1 rfl ?_
                exact fun h => Kj87 _   (c87 _ (D.some h))
def l192_267 : Nat → Int64 → St → Option (Int64 × St)
  | 0, _, _ => none
  | n + 1, b3, I => (x193 I (I 82 11)).bind fun q23 => if (x195 I q23) = 0 then some (b3, I) else if (I 82 11) = (I 82 13) then if (lg_cmp b3 (2147483648 : Int64)) ≤ 0 then (x193 I (I 82 11)).bind fun q24 => l192_267 n ((((10 : Int64) * b3) + (Int32.toInt64 q24)) - (48 : Int64)) (up2 I 82 11 ((I 82 11) + 1)) else l192_267 n b3 (up2 I 82 11 ((I 82 11) + 1)) else (x193 I (I 82 13)).bind fun q25 => if q25 = 48 then some (b3, I) else if (lg_cmp b3 (2147483648 : Int64)) ≤ 0 then (x193 I (I 82 11)).bind fun q26 => l192_267 n ((((10 : Int64) * b3) + (Int32.toInt64 q26)) - (48 : Int64)) (up2 I 82 11 ((I 82 11) + 1)) else l192_267 n b3 (up2 I 82 11 ((I 82 11) + 1))
set_option maxRecDepth 20000 in
theorem l192_267_ok {E : Xe} {R : Nat → Nat → Option Nat} {o : Outcome} {w : Wd} {T : (Int64 × St) → Prop} (K : ∀ (q : Int64 × St) (e1 : Value) (_ : is1 e1 = true) (e2 : Value) (_ : is1 e2 = true), T q → Rn E 192 (350, [.ref 82, e1, e2, .long q.1, us], [], wT q.2 R) o w) : ∀ (n : Nat) (b3 : Int64) (d1 : Value) (d2 : Value) (I : St), is1 d1 = true → is1 d2 = true → Dq (l192_267 n b3 I) T → Rn E 192 (267, [.ref 82, d1, d2, .long b3, us], [], wT I R) o w := by
  intro n
  induction n with
  | zero => intro b3 d1 d2 I hd1 hd2; exact D.none
  | succ n ih =>
    intro b3 d1 d2 I hd1 hd2
    rw [l192_267]
    refine D.run 3 rfl ?_
    refine D.call rfl rfl rfl rfl (fun q h => x193_ok h) (fun q23 => ?_)
    refine D.ce rfl rfl rfl rfl (x195_ok _) ?_
    refine D.br rfl (by decide) rfl (fun hc => ?_) (fun hc => ?_)
    · exact fun h => D.to h (K _ _ (by first | rfl | assumption) _ (by first | rfl | assumption))
    · refine D.run 4 rfl ?_
      refine D.br rfl (by decide) rfl (fun hc => ?_) (fun hc => ?_)
      · refine D.run 3 rfl ?_
        refine D.br rfl (by decide) rfl (fun hc => ?_) (fun hc => ?_)
        · refine D.run 6 rfl ?_
          refine D.call rfl rfl rfl rfl (fun q h => x193_ok h) (fun q24 => ?_)
          refine D.run 4 rfl ?_
          refine D.st rfl (by decide) (lstn_d rfl (by first | rfl | assumption) rfl) ?_
          refine D.run 7 rfl ?_
          exact ih _ _ _ _ (by first | rfl | assumption) (by first | rfl | assumption)
        · refine D.run 2 rfl ?_
          refine D.st rfl (by decide) (lstn_d rfl (by first | rfl | assumption) rfl) ?_
          refine D.run 7 rfl ?_
          exact ih _ _ _ _ (by first | rfl | assumption) (by first | rfl | assumption)
      · refine D.run 3 rfl ?_
        refine D.call rfl rfl rfl rfl (fun q h => x193_ok h) (fun q25 => ?_)
        refine D.run 1 rfl ?_
        refine D.br rfl (by decide) rfl (fun hc => ?_) (fun hc => ?_)
        · exact fun h => D.to h (K _ _ (by first | rfl | assumption) _ (by first | rfl | assumption))
        · refine D.run 3 rfl ?_
          refine D.br rfl (by decide) rfl (fun hc => ?_) (fun hc => ?_)
          · refine D.run 6 rfl ?_
            refine D.call rfl rfl rfl rfl (fun q h => x193_ok h) (fun q26 => ?_)
            refine D.run 4 rfl ?_
            refine D.st rfl (by decide) (lstn_d rfl (by first | rfl | assumption) rfl) ?_
            refine D.run 7 rfl ?_
            exact ih _ _ _ _ (by first | rfl | assumption) (by first | rfl | assumption)
          · refine D.run 2 rfl ?_
            refine D.st rfl (by decide) (lstn_d rfl (by first | rfl | assumption) rfl) ?_
            refine D.run 7 rfl ?_
            exact ih _ _ _ _ (by first | rfl | assumption) (by first | rfl | assumption)
def l192_147 : Nat → St → Option (St)
  | 0, _ => none
  | n + 1, I => (x193 I (I 82 11)).bind fun q30 => if (x194 I q30) = 0 then (x193 I (I 82 11)).bind fun q31 => if (x195 I q31) = 0 then some I else if ((I 82 11) - (I 82 13)) = 12 then if (I 82 16) = (-1) then l192_147 n (up2 (up2 I 82 16 (I 82 11)) 82 11 ((I 82 11) + 1)) else l192_147 n (up2 I 82 11 ((I 82 11) + 1)) else l192_147 n (up2 I 82 11 ((I 82 11) + 1)) else if ((I 82 11) - (I 82 13)) = 12 then if (I 82 16) = (-1) then l192_147 n (up2 (up2 I 82 16 (I 82 11)) 82 11 ((I 82 11) + 1)) else l192_147 n (up2 I 82 11 ((I 82 11) + 1)) else l192_147 n (up2 I 82 11 ((I 82 11) + 1))
set_option maxRecDepth 20000 in
theorem l192_147_ok {E : Xe} {R : Nat → Nat → Option Nat} {o : Outcome} {w : Wd} {T : (St) → Prop} (K : ∀ (q : St) (e1 : Value) (_ : is1 e1 = true) (e2 : Value) (_ : is1 e2 = true) (e3 : Value) (_ : is1 e3 = true) (e4 : Value) (_ : is1 e4 = true), T q → Rn E 192 (218, [.ref 82, e1, e2, e3, e4], [], wT q R) o w) : ∀ (n : Nat) (d1 : Value) (d2 : Value) (d3 : Value) (d4 : Value) (I : St), is1 d1 = true → is1 d2 = true → is1 d3 = true → is1 d4 = true → Dq (l192_147 n I) T → Rn E 192 (147, [.ref 82, d1, d2, d3, d4], [], wT I R) o w := by
  intro n
  induction n with
  | zero => intro d1 d2 d3 d4 I hd1 hd2 hd3 hd4; exact D.none
  | succ n ih =>
    intro d1 d2 d3 d4 I hd1 hd2 hd3 hd4
    rw [l192_147]
    refine D.run 3 rfl ?_
    refine D.call rfl rfl rfl rfl (fun q h => x193_ok h) (fun q30 => ?_)
    refine D.ce rfl rfl rfl rfl (x194_ok _) ?_
    refine D.br rfl (by decide) rfl (fun hc => ?_) (fun hc => ?_)
    · refine D.run 3 rfl ?_
      refine D.call rfl rfl rfl rfl (fun q h => x193_ok h) (fun q31 => ?_)
      refine D.ce rfl rfl rfl rfl (x195_ok _) ?_
      refine D.br rfl (by decide) rfl (fun hc => ?_) (fun hc => ?_)
      · exact fun h => D.to h (K _ _ (by first | rfl | assumption) _ (by first | rfl | assumption) _ (by first | rfl | assumption) _ (by first | rfl | assumption))
      · refine D.run 6 rfl ?_
        refine D.br rfl (by decide) rfl (fun hc => ?_) (fun hc => ?_)
        · refine D.run 3 rfl ?_
          refine D.br rfl (by decide) rfl (fun hc => ?_) (fun hc => ?_)
          · refine D.run 11 rfl ?_
            exact ih _ _ _ _ _ (by first | rfl | assumption) (by first | rfl | assumption) (by first | rfl | assumption) (by first | rfl | assumption)
          · refine D.run 7 rfl ?_
            exact ih _ _ _ _ _ (by first | rfl | assumption) (by first | rfl | assumption) (by first | rfl | assumption) (by first | rfl | assumption)
        · refine D.run 7 rfl ?_
          exact ih _ _ _ _ _ (by first | rfl | assumption) (by first | rfl | assumption) (by first | rfl | assumption) (by first | rfl | assumption)
    · refine D.run 6 rfl ?_
      refine D.br rfl (by decide) rfl (fun hc => ?_) (fun hc => ?_)
      · refine D.run 3 rfl ?_
        refine D.br rfl (by decide) rfl (fun hc => ?_) (fun hc => ?_)
        · refine D.run 11 rfl ?_
          exact ih _ _ _ _ _ (by first | rfl | assumption) (by first | rfl | assumption) (by first | rfl | assumption) (by first | rfl | assumption)
        · refine D.run 7 rfl ?_
          exact ih _ _ _ _ _ (by first | rfl | assumption) (by first | rfl | assumption) (by first | rfl | assumption) (by first | rfl | assumption)
      · refine D.run 7 rfl ?_
        exact ih _ _ _ _ _ (by first | rfl | assumption) (by first | rfl | assumption) (by first | rfl | assumption) (by first | rfl | assumption)
def x192 (I : St) : Option (St) := (l192_2 100000 1 I).bind fun q8 => (x193 (up2 (up2 q8 82 13 (q8 82 11)) 82 16 (-1)) (q8 82 11)).bind fun q13 => if q13 = (-1) then some (up2 (up2 (up2 (up2 q8 82 13 (q8 82 11)) 82 16 (-1)) 82 12 4) 82 14 (q8 82 11)) else if (x194 (up2 (up2 q8 82 13 (q8 82 11)) 82 16 (-1)) q13) = 0 then if (x195 (up2 (up2 q8 82 13 (q8 82 11)) 82 16 (-1)) q13) = 0 then if q13 = 123 then Lt (up2 (up2 (up2 (up2 (up2 q8 82 13 (q8 82 11)) 82 16 (-1)) 82 11 ((q8 82 11) + 1)) 82 12 3) 82 14 ((q8 82 11) + 1)) fun J14 => some J14 else if q13 = 125 then Lt (up2 (up2 (up2 (up2 (up2 q8 82 13 (q8 82 11)) 82 16 (-1)) 82 11 ((q8 82 11) + 1)) 82 12 3) 82 14 ((q8 82 11) + 1)) fun J15 => some J15 else if q13 = 40 then Lt (up2 (up2 (up2 (up2 (up2 q8 82 13 (q8 82 11)) 82 16 (-1)) 82 11 ((q8 82 11) + 1)) 82 12 3) 82 14 ((q8 82 11) + 1)) fun J16 => some J16 else if q13 = 41 then Lt (up2 (up2 (up2 (up2 (up2 q8 82 13 (q8 82 11)) 82 16 (-1)) 82 11 ((q8 82 11) + 1)) 82 12 3) 82 14 ((q8 82 11) + 1)) fun J17 => some J17 else if q13 = 59 then Lt (up2 (up2 (up2 (up2 (up2 q8 82 13 (q8 82 11)) 82 16 (-1)) 82 11 ((q8 82 11) + 1)) 82 12 3) 82 14 ((q8 82 11) + 1)) fun J18 => some J18 else if q13 = 58 then Lt (up2 (up2 (up2 (up2 (up2 q8 82 13 (q8 82 11)) 82 16 (-1)) 82 11 ((q8 82 11) + 1)) 82 12 3) 82 14 ((q8 82 11) + 1)) fun J19 => some J19 else if q13 = 44 then Lt (up2 (up2 (up2 (up2 (up2 q8 82 13 (q8 82 11)) 82 16 (-1)) 82 11 ((q8 82 11) + 1)) 82 12 3) 82 14 ((q8 82 11) + 1)) fun J20 => some J20 else if q13 = 45 then Lt (up2 (up2 (up2 (up2 (up2 q8 82 13 (q8 82 11)) 82 16 (-1)) 82 11 ((q8 82 11) + 1)) 82 12 3) 82 14 ((q8 82 11) + 1)) fun J21 => some J21 else Lt (up2 (up2 (up2 (up2 (up2 q8 82 13 (q8 82 11)) 82 16 (-1)) 82 11 ((q8 82 11) + 1)) 82 12 6) 82 14 ((q8 82 11) + 1)) fun J22 => some J22 else (l192_267 100000 (0 : Int64) (up2 (up2 q8 82 13 (q8 82 11)) 82 16 (-1))).bind fun q27 => if (lg_cmp q27.1 (2147483648 : Int64)) = 0 then some (up2 (up2 (up2 q27.2 82 15 (-2147483648)) 82 12 2) 82 14 (q27.2 82 11)) else if (lg_cmp q27.1 (2147483648 : Int64)) ≤ 0 then some (up2 (up2 (up2 q27.2 82 15 (Int64.toInt32 q27.1)) 82 12 2) 82 14 (q27.2 82 11)) else some (up2 (up2 (up2 q27.2 82 15 (-2)) 82 12 2) 82 14 (q27.2 82 11)) else (l192_147 100000 (up2 (up2 q8 82 13 (q8 82 11)) 82 16 (-1))).bind fun q32 => if (q32 82 16) = (-1) then (x196 3 q32).bind fun q37 => if q37 = (-1) then (x196 4 q32).bind fun q38 => if q38 = (-1) then some (up2 (up2 q32 82 12 1) 82 14 (q32 82 11)) else some (up2 (up2 q32 82 12 5) 82 14 (q32 82 11)) else some (up2 (up2 q32 82 12 5) 82 14 (q32 82 11)) else some (up2 (up2 q32 82 12 1) 82 14 (q32 82 11))
set_option maxRecDepth 20000 in
theorem x192_D {E : Xe} {R : Nat → Nat → Option Nat} {o : Outcome} {w : Wd} {T : (St) → Prop} {I : St} (hT : ∀ r, T r → o = .returned none ∧ w = wT r R) : Dq (x192 I) T → Rn E 192 (0, loc0 192 [.ref 82], [], wT I R) o w := by
  unfold x192
  refine D.run 2 rfl ?_
  refine D.bind (l192_2_ok  (fun q8 e9 he9 e10 he10 e11 he11 e12 he12 => ?_) 100000 _ _ _ _ _ (by first | rfl | assumption) (by first | rfl | assumption) (by first | rfl | assumption))
  refine D.run 10 rfl ?_
  refine D.call rfl rfl rfl rfl (fun q h => x193_ok h) (fun q13 => ?_)
  refine D.st rfl (by decide) (istn_d rfl (by first | rfl | assumption) rfl) ?_
  refine D.run 2 rfl ?_
  refine D.br rfl (by decide) rfl (fun hc => ?_) (fun hc => ?_)
  · refine D.run 8 rfl ?_
    exact fun h => by obtain ⟨rfl, rfl⟩ := hT _ (D.some h); exact Rn.ret rfl rfl rfl
  · refine D.run 1 rfl ?_
    refine D.ce rfl rfl rfl rfl (x194_ok _) ?_
    refine D.br rfl (by decide) rfl (fun hc => ?_) (fun hc => ?_)
    · refine D.run 1 rfl ?_
      refine D.ce rfl rfl rfl rfl (x195_ok _) ?_
      refine D.br rfl (by decide) rfl (fun hc => ?_) (fun hc => ?_)
      · refine D.run 9 rfl ?_
        refine D.br rfl (by decide) rfl (fun hc => ?_) (fun hc => ?_)
        · refine D.run 7 rfl ?_
          refine D.letS (fun J14 => ?_)
          exact fun h => by obtain ⟨rfl, rfl⟩ := hT _ (D.some h); exact Rn.ret rfl rfl rfl
        · refine D.run 2 rfl ?_
          refine D.br rfl (by decide) rfl (fun hc => ?_) (fun hc => ?_)
          · refine D.run 7 rfl ?_
            refine D.letS (fun J15 => ?_)
            exact fun h => by obtain ⟨rfl, rfl⟩ := hT _ (D.some h); exact Rn.ret rfl rfl rfl
          · refine D.run 2 rfl ?_
            refine D.br rfl (by decide) rfl (fun hc => ?_) (fun hc => ?_)
            · refine D.run 7 rfl ?_
              refine D.letS (fun J16 => ?_)
              exact fun h => by obtain ⟨rfl, rfl⟩ := hT _ (D.some h); exact Rn.ret rfl rfl rfl
            · refine D.run 2 rfl ?_
              refine D.br rfl (by decide) rfl (fun hc => ?_) (fun hc => ?_)
              · refine D.run 7 rfl ?_
                refine D.letS (fun J17 => ?_)
                exact fun h => by obtain ⟨rfl, rfl⟩ := hT _ (D.some h); exact Rn.ret rfl rfl rfl
              · refine D.run 2 rfl ?_
                refine D.br rfl (by decide) rfl (fun hc => ?_) (fun hc => ?_)
                · refine D.run 7 rfl ?_
                  refine D.letS (fun J18 => ?_)
                  exact fun h => by obtain ⟨rfl, rfl⟩ := hT _ (D.some h); exact Rn.ret rfl rfl rfl
                · refine D.run 2 rfl ?_
                  refine D.br rfl (by decide) rfl (fun hc => ?_) (fun hc => ?_)
                  · refine D.run 7 rfl ?_
                    refine D.letS (fun J19 => ?_)
                    exact fun h => by obtain ⟨rfl, rfl⟩ := hT _ (D.some h); exact Rn.ret rfl rfl rfl
                  · refine D.run 2 rfl ?_
                    refine D.br rfl (by decide) rfl (fun hc => ?_) (fun hc => ?_)
                    · refine D.run 7 rfl ?_
                      refine D.letS (fun J20 => ?_)
                      exact fun h => by obtain ⟨rfl, rfl⟩ := hT _ (D.some h); exact Rn.ret rfl rfl rfl
                    · refine D.run 2 rfl ?_
                      refine D.br rfl (by decide) rfl (fun hc => ?_) (fun hc => ?_)
                      · refine D.run 7 rfl ?_
                        refine D.letS (fun J21 => ?_)
                        exact fun h => by obtain ⟨rfl, rfl⟩ := hT _ (D.some h); exact Rn.ret rfl rfl rfl
                      · refine D.run 6 rfl ?_
                        refine D.letS (fun J22 => ?_)
                        exact fun h => by obtain ⟨rfl, rfl⟩ := hT _ (D.some h); exact Rn.ret rfl rfl rfl
      · refine D.run 2 rfl ?_
        refine D.bind (l192_267_ok  (fun q27 e28 he28 e29 he29 => ?_) 100000 _ _ _ _ (by first | rfl | assumption) (by first | rfl | assumption))
        refine D.run 4 rfl ?_
        refine D.br rfl (by decide) rfl (fun hc => ?_) (fun hc => ?_)
        · refine D.run 11 rfl ?_
          exact fun h => by obtain ⟨rfl, rfl⟩ := hT _ (D.some h); exact Rn.ret rfl rfl rfl
        · refine D.run 3 rfl ?_
          refine D.br rfl (by decide) rfl (fun hc => ?_) (fun hc => ?_)
          · refine D.run 11 rfl ?_
            exact fun h => by obtain ⟨rfl, rfl⟩ := hT _ (D.some h); exact Rn.ret rfl rfl rfl
          · refine D.run 11 rfl ?_
            exact fun h => by obtain ⟨rfl, rfl⟩ := hT _ (D.some h); exact Rn.ret rfl rfl rfl
    · refine D.bind (l192_147_ok  (fun q32 e33 he33 e34 he34 e35 he35 e36 he36 => ?_) 100000  _ _ _ _ _ (by first | rfl | assumption) (by first | rfl | assumption) (by first | rfl | assumption) (by first | rfl | assumption))
      refine D.run 4 rfl ?_
      refine D.br rfl (by decide) rfl (fun hc => ?_) (fun hc => ?_)
      · refine D.run 2 rfl ?_
        refine D.call rfl rfl rfl rfl (fun q h => x196_ok (by decide) h) (fun q37 => ?_)
        refine D.run 1 rfl ?_
        refine D.br rfl (by decide) rfl (fun hc => ?_) (fun hc => ?_)
        · refine D.run 2 rfl ?_
          refine D.call rfl rfl rfl rfl (fun q h => x196_ok (by decide) h) (fun q38 => ?_)
          refine D.run 1 rfl ?_
          refine D.br rfl (by decide) rfl (fun hc => ?_) (fun hc => ?_)
          · refine D.run 7 rfl ?_
            exact fun h => by obtain ⟨rfl, rfl⟩ := hT _ (D.some h); exact Rn.ret rfl rfl rfl
          · refine D.run 8 rfl ?_
            exact fun h => by obtain ⟨rfl, rfl⟩ := hT _ (D.some h); exact Rn.ret rfl rfl rfl
        · refine D.run 8 rfl ?_
          exact fun h => by obtain ⟨rfl, rfl⟩ := hT _ (D.some h); exact Rn.ret rfl rfl rfl
      · refine D.run 7 rfl ?_
        exact fun h => by obtain ⟨rfl, rfl⟩ := hT _ (D.some h); exact Rn.ret rfl rfl rfl
set_option maxRecDepth 20000 in
theorem x192_ok {E : Xe} {R : Nat → Nat → Option Nat} {I : St} {q : St} (h : x192 I = some q) : Rn E 192 (0, loc0 192 [.ref 82], [], wT I R) (.returned none) (wT q R) := x192_D  (T := fun r => r = q) (by rintro r rfl; exact ⟨rfl, rfl⟩) ⟨_, h, rfl⟩
/-- TaintHouseModel.isOther(I)Z -/
def x199 (I : St) (a1 : Int32) : Option (Int32 × St) := if (I 82 12) = 5 then (x200 4 I).bind fun q1 => if q1.1 = a1 then some (1, q1.2) else some (0, q1.2) else some (0, I)
set_option maxRecDepth 20000 in
theorem x199_D {E : Xe} {R : Nat → Nat → Option Nat} {o : Outcome} {w : Wd} {T : (Int32 × St) → Prop} {I : St} (a1 : Int32) (hT : ∀ r, T r → o = .returned (some (.int r.1)) ∧ w = wT r.2 R) : Dq (x199 I a1) T → Rn E 199 (0, loc0 199 [.ref 82, .int a1], [], wT I R) o w := by
  unfold x199
  refine D.run 3 rfl ?_
  refine D.br rfl (by decide) rfl (fun hc => ?_) (fun hc => ?_)
  · refine D.run 2 rfl ?_
    refine D.call rfl rfl rfl rfl (fun q h => x200_ok (by decide) h) (fun q1 => ?_)
    refine D.run 1 rfl ?_
    refine D.br rfl (by decide) rfl (fun hc => ?_) (fun hc => ?_)
    · refine D.run 2 rfl ?_
      exact fun h => by obtain ⟨rfl, rfl⟩ := hT _ (D.some h); exact Rn.ret rfl rfl (by first | rfl | (simp [rt1, rt]; done) | decide)
    · refine D.run 1 rfl ?_
      exact fun h => by obtain ⟨rfl, rfl⟩ := hT _ (D.some h); exact Rn.ret rfl rfl (by first | rfl | (simp [rt1, rt]; done) | decide)
  · refine D.run 1 rfl ?_
    exact fun h => by obtain ⟨rfl, rfl⟩ := hT _ (D.some h); exact Rn.ret rfl rfl (by first | rfl | (simp [rt1, rt]; done) | decide)
set_option maxRecDepth 20000 in
theorem x199_ok {E : Xe} {R : Nat → Nat → Option Nat} {I : St} {a1 : Int32} {q : Int32 × St} (h : x199 I a1 = some q) : Rn E 199 (0, loc0 199 [.ref 82, .int a1], [], wT I R) (.returned (some (.int q.1))) (wT q.2 R) := x199_D  _ (T := fun r => r = q) (by rintro r rfl; exact ⟨rfl, rfl⟩) ⟨_, h, rfl⟩
/-- TaintHouseModel.name()I -/
def x201 (Z : Nat) (I : St) : Option (St ⊕ (Int32 × St)) := if (I 82 12) = 1 then if (I 82 16) = (-1) then (x202 Z I).bind fun q1 => (x192 q1.2).bind fun q2 => some (.inr (q1.1, q2)) else some (.inl (up2 I 84 0 (I 82 16))) else some (.inl (up2 I 84 0 (I 82 13)))
set_option maxRecDepth 20000 in
theorem x201_D {E : Xe} {R : Nat → Nat → Option Nat} {Z : Nat} {o : Outcome} {w : Wd} {T : (St ⊕ (Int32 × St)) → Prop} {I : St} (hZ : Z = 85 ∨ Z = 126) (h82_4 : R 82 4 = some Z) (hT : ∀ r, T (.inr r) → o = .returned (some (.int r.1)) ∧ w = wT r.2 R) (hX : ∀ J, T (.inl J) → o = .threw 84 ∧ w = wT J R) : Dq (x201 Z I) T → Rn E 201 (0, loc0 201 [.ref 82], [], wT I R) o w := by
  unfold x201
  rcases hZ with rfl | rfl
  all_goals
    refine D.run 3 rfl ?_
    refine D.br rfl (by decide) rfl (fun hc => ?_) (fun hc => ?_)
    · refine D.run 3 rfl ?_
      refine D.br rfl (by decide) rfl (fun hc => ?_) (fun hc => ?_)
      · refine D.run 1 rfl ?_
        refine D.call rfl rfl rfl rfl (fun q h => x202_ok (by decide) h82_4 h) (fun q1 => ?_)
        refine D.run 2 rfl ?_
        refine D.call rfl rfl rfl rfl (fun q h => x192_ok h) (fun q2 => ?_)
        refine D.run 1 rfl ?_
        exact fun h => by obtain ⟨rfl, rfl⟩ := hT _ (D.some h); exact Rn.ret rfl rfl rfl
      · refine D.run 3 rfl ?_
        refine D.ce rfl rfl rfl rfl (fail_ok _) ?_
        exact fun h => by obtain ⟨rfl, rfl⟩ := hX _ (D.some h); exact Rn.thr rfl rfl rfl
    · refine D.run 3 rfl ?_
      refine D.ce rfl rfl rfl rfl (fail_ok _) ?_
      exact fun h => by obtain ⟨rfl, rfl⟩ := hX _ (D.some h); exact Rn.thr rfl rfl rfl
set_option maxRecDepth 20000 in
theorem x201_ok {E : Xe} {R : Nat → Nat → Option Nat} {Z : Nat} {I : St} (hZ : Z = 85 ∨ Z = 126) (h82_4 : R 82 4 = some Z) {q : Int32 × St} (h : x201 Z I = some (.inr q)) : Rn E 201 (0, loc0 201 [.ref 82], [], wT I R) (.returned (some (.int q.1))) (wT q.2 R) := x201_D hZ h82_4 (T := fun r => r = .inr q) (by rintro r h; cases h; exact ⟨rfl, rfl⟩) (by rintro J h; cases h) ⟨_, h, rfl⟩
set_option maxRecDepth 20000 in
theorem x201_thr {E : Xe} {R : Nat → Nat → Option Nat} {Z : Nat} {I : St} (hZ : Z = 85 ∨ Z = 126) (h82_4 : R 82 4 = some Z) {J : St} (h : x201 Z I = some (.inl J)) : Rn E 201 (0, loc0 201 [.ref 82], [], wT I R) (.threw 84) (wT J R) := x201_D hZ h82_4 (T := fun r => r = .inl J) (by rintro r h; cases h) (by rintro K h; cases h; exact ⟨rfl, rfl⟩) ⟨_, h, rfl⟩
/-- TaintHouseModel.must(I)V -/
def x204 (I : St) (a1 : Int32) : Option (St ⊕ (St)) := (x203 I a1).bind fun q1 => if q1 = 0 then some (.inl (up2 I 84 0 (I 82 13))) else (x192 I).bind fun q2 => some (.inr q2)
set_option maxRecDepth 20000 in
theorem x204_D {E : Xe} {R : Nat → Nat → Option Nat} {o : Outcome} {w : Wd} {T : (St ⊕ (St)) → Prop} {I : St} (a1 : Int32) (hT : ∀ r, T (.inr r) → o = .returned none ∧ w = wT r R) (hX : ∀ J, T (.inl J) → o = .threw 84 ∧ w = wT J R) : Dq (x204 I a1) T → Rn E 204 (0, loc0 204 [.ref 82, .int a1], [], wT I R) o w := by
  unfold x204
  refine D.run 2 rfl ?_
  refine D.call rfl rfl rfl rfl (fun q h => x203_ok h) (fun q1 => ?_)
  refine D.br rfl (by decide) rfl (fun hc => ?_) (fun hc => ?_)
  · refine D.run 3 rfl ?_
    refine D.ce rfl rfl rfl rfl (fail_ok _) ?_
    exact fun h => by obtain ⟨rfl, rfl⟩ := hX _ (D.some h); exact Rn.thr rfl rfl rfl
  · refine D.run 1 rfl ?_
    refine D.call rfl rfl rfl rfl (fun q h => x192_ok h) (fun q2 => ?_)
    exact fun h => by obtain ⟨rfl, rfl⟩ := hT _ (D.some h); exact Rn.ret rfl rfl rfl
set_option maxRecDepth 20000 in
theorem x204_ok {E : Xe} {R : Nat → Nat → Option Nat} {I : St} {a1 : Int32} {q : St} (h : x204 I a1 = some (.inr q)) : Rn E 204 (0, loc0 204 [.ref 82, .int a1], [], wT I R) (.returned none) (wT q R) := x204_D  _ (T := fun r => r = .inr q) (by rintro r h; cases h; exact ⟨rfl, rfl⟩) (by rintro J h; cases h) ⟨_, h, rfl⟩
set_option maxRecDepth 20000 in
theorem x204_thr {E : Xe} {R : Nat → Nat → Option Nat} {I : St} {a1 : Int32} {J : St} (h : x204 I a1 = some (.inl J)) : Rn E 204 (0, loc0 204 [.ref 82, .int a1], [], wT I R) (.threw 84) (wT J R) := x204_D  _ (T := fun r => r = .inl J) (by rintro r h; cases h) (by rintro K h; cases h; exact ⟨rfl, rfl⟩) ⟨_, h, rfl⟩
/-- TaintHouseModel.kindOf(Z)I -/
def x207 (I : St) (a1 : Int32) : Option (St ⊕ (Int32 × St)) := (x199 I 5).bind fun q1 => (if q1.1 = 0 then (x199 q1.2 6).bind fun q2 => if q2.1 = 0 then if a1 = 0 then some ((-1), q2.2) else (x199 q2.2 7).bind fun q3 => if q3.1 = 0 then some ((-1), q3.2) else some (0, q3.2) else some (2, q2.2) else some (1, q1.2)).bind fun (q4 : Int32 × St) => if q4.1 = (-1) then some (.inl (up2 q4.2 84 0 (q4.2 82 13))) else (x192 q4.2).bind fun q5 => some (.inr (q4.1, q5))
set_option maxRecDepth 20000 in
theorem x207_D {E : Xe} {R : Nat → Nat → Option Nat} {o : Outcome} {w : Wd} {T : (St ⊕ (Int32 × St)) → Prop} {I : St} (a1 : Int32) (hT : ∀ r, T (.inr r) → o = .returned (some (.int r.1)) ∧ w = wT r.2 R) (hX : ∀ J, T (.inl J) → o = .threw 84 ∧ w = wT J R) : Dq (x207 I a1) T → Rn E 207 (0, loc0 207 [.ref 82, .int a1], [], wT I R) o w := by
  unfold x207
  refine D.run 2 rfl ?_
  refine D.call rfl rfl rfl rfl (fun q h => x199_ok h) (fun q1 => ?_)
  have Kj43 : ∀ (q4 : Int32 × St), Dq (if q4.1 = (-1) then some (.inl (up2 q4.2 84 0 (q4.2 82 13))) else (x192 q4.2).bind fun q5 => some (.inr (q4.1, q5))) T → Rn E 207 (43, [.ref 82, .int a1, us], [.int q4.1], wT q4.2 R) o w := by
    intro q4
    refine D.run 3 rfl ?_
    refine D.br rfl (by decide) rfl (fun hc => ?_) (fun hc => ?_)
    · refine D.run 3 rfl ?_
      refine D.ce rfl rfl rfl rfl (fail_ok _) ?_
      exact fun h => by obtain ⟨rfl, rfl⟩ := hX _ (D.some h); exact Rn.thr rfl rfl rfl
    · refine D.run 1 rfl ?_
      refine D.call rfl rfl rfl rfl (fun q h => x192_ok h) (fun q5 => ?_)
      refine D.run 1 rfl ?_
      exact fun h => by obtain ⟨rfl, rfl⟩ := hT _ (D.some h); exact Rn.ret rfl rfl rfl
  refine D.jn (fun T43 c43 => ?_)
  refine D.br rfl (by decide) rfl (fun hc => ?_) (fun hc => ?_)
  · refine D.run 2 rfl ?_
    refine D.call rfl rfl rfl rfl (fun q h => x199_ok h) (fun q2 => ?_)
    refine D.br rfl (by decide) rfl (fun hc => ?_) (fun hc => ?_)
    · refine D.run 1 rfl ?_
      refine D.br rfl (by decide) rfl (fun hc => ?_) (fun hc => ?_)
      · refine D.run 1 rfl ?_
        exact fun h => Kj43 _   (c43 _ (D.some h))
      · refine D.run 2 rfl ?_
        refine D.call rfl rfl rfl rfl (fun q h => x199_ok h) (fun q3 => ?_)
        refine D.br rfl (by decide) rfl (fun hc => ?_) (fun hc => ?_)
        · refine D.run 1 rfl ?_
          exact fun h => Kj43 _   (c43 _ (D.some h))
        · refine D.run 2 rfl ?_
          exact fun h => Kj43 _   (c43 _ (D.some h))
    · refine D.run 2 rfl ?_
      exact fun h => Kj43 _   (c43 _ (D.some h))
  · refine D.run 2 rfl ?_
    exact fun h => Kj43 _   (c43 _ (D.some h))
set_option maxRecDepth 20000 in
theorem x207_ok {E : Xe} {R : Nat → Nat → Option Nat} {I : St} {a1 : Int32} {q : Int32 × St} (h : x207 I a1 = some (.inr q)) : Rn E 207 (0, loc0 207 [.ref 82, .int a1], [], wT I R) (.returned (some (.int q.1))) (wT q.2 R) := x207_D  _ (T := fun r => r = .inr q) (by rintro r h; cases h; exact ⟨rfl, rfl⟩) (by rintro J h; cases h) ⟨_, h, rfl⟩
set_option maxRecDepth 20000 in
theorem x207_thr {E : Xe} {R : Nat → Nat → Option Nat} {I : St} {a1 : Int32} {J : St} (h : x207 I a1 = some (.inl J)) : Rn E 207 (0, loc0 207 [.ref 82, .int a1], [], wT I R) (.threw 84) (wT J R) := x207_D  _ (T := fun r => r = .inl J) (by rintro r h; cases h) (by rintro K h; cases h; exact ⟨rfl, rfl⟩) ⟨_, h, rfl⟩
/-- TaintHouseModel.readStatic(I)V -/
def x208 (Z : Nat) (I : St) (a1 : Int32) : Option (St ⊕ (St)) := (x192 I).bind fun q1 => (x201 Z q1).bind (Sum.elim (fun J => some (.inl J)) (fun q2 => (x206 q2.2 a1 q2.1 (q1 82 13)).bind fun q3 => if inb (q3 Z 6) 16 then if inb (q3 Z 6) 16 then (x207 (up2 (up2 q3 (Z + 12) (q3 Z 6).toNatClampNeg a1) (Z + 13) (q3 Z 6).toNatClampNeg q2.1) 0).bind (Sum.elim (fun J => some (.inl J)) (fun q4 => if inb (q3 Z 6) 16 then Lt (up2 (up2 q4.2 (Z + 14) (q3 Z 6).toNatClampNeg q4.1) Z 6 (((up2 q4.2 (Z + 14) (q3 Z 6).toNatClampNeg q4.1) Z 6) + 1)) fun J5 => (x204 J5 59).bind (Sum.elim (fun J => some (.inl J)) (fun q6 => some (.inr q6))) else none)) else none else none))
set_option maxRecDepth 20000 in
theorem x208_D {E : Xe} {R : Nat → Nat → Option Nat} {Z : Nat} {o : Outcome} {w : Wd} {T : (St ⊕ (St)) → Prop} {I : St} (hZ : Z = 85 ∨ Z = 126) (h82_4 : R 82 4 = some Z) (a1 : Int32) (hT : ∀ r, T (.inr r) → o = .returned none ∧ w = wT r R) (hX : ∀ J, T (.inl J) → o = .threw 84 ∧ w = wT J R) : Dq (x208 Z I a1) T → Rn E 208 (0, loc0 208 [.ref 82, .int a1], [], wT I R) o w := by
  unfold x208
  rcases hZ with rfl | rfl
  · refine D.run 1 rfl ?_
    refine D.call rfl rfl rfl rfl (fun q h => x192_ok h) (fun q1 => ?_)
    refine D.run 4 rfl ?_
    refine D.ct rfl rfl rfl rfl rfl (fun q h => x201_ok (by decide) h82_4 h) (fun J h => x201_thr (by decide) h82_4 h) (fun J h => hX _ (D.some h)) (fun q2 => ?_)
    refine D.run 5 rfl ?_
    refine D.call rfl rfl rfl rfl (fun q h => x206_ok h) (fun q3 => ?_)
    show _ → Rn E 208 (21, [.ref 82, .int a1, .int (q1 82 13), .int q2.1, us], [], wT q3 R) o w
    refine D.run 1 rfl ?_
    refine D.st rfl (by decide) (gf_1 h82_4) ?_
    refine D.run 3 rfl ?_
    refine D.st rfl (by decide) (gf_1 h82_4) ?_
    refine D.run 3 rfl ?_
    refine D.gd fun hg => ?_
    refine D.st rfl (by decide) (as_i (by decide) (by first | rfl | decide) hg.1 hg.2) ?_
    show _ → Rn E 208 (41, [.ref 82, .int a1, .int (q1 82 13), .int q2.1, .int (q3 85 6)], [], wT (up2 q3 (85 + 12) (q3 85 6).toNatClampNeg a1) R) o w
    refine D.run 1 rfl ?_
    refine D.st rfl (by decide) (gf_1 h82_4) ?_
    refine D.run 3 rfl ?_
    refine D.gd fun hg => ?_
    refine D.st rfl (by decide) (as_i (by decide) (by first | rfl | decide) hg.1 hg.2) ?_
    show _ → Rn E 208 (52, [.ref 82, .int a1, .int (q1 82 13), .int q2.1, .int (q3 85 6)], [], wT (up2 (up2 q3 (85 + 12) (q3 85 6).toNatClampNeg a1) (85 + 13) (q3 85 6).toNatClampNeg q2.1) R) o w
    refine D.run 1 rfl ?_
    refine D.st rfl (by decide) (gf_1 h82_4) ?_
    refine D.run 4 rfl ?_
    refine D.ct rfl rfl rfl rfl rfl (fun q h => x207_ok h) (fun J h => x207_thr h) (fun J h => hX _ (D.some h)) (fun q4 => ?_)
    refine D.gd fun hg => ?_
    refine D.st rfl (by decide) (as_i (by decide) (by first | rfl | decide) hg.1 hg.2) ?_
    show _ → Rn E 208 (67, [.ref 82, .int a1, .int (q1 82 13), .int q2.1, .int (q3 85 6)], [], wT (up2 q4.2 (85 + 14) (q3 85 6).toNatClampNeg q4.1) R) o w
    refine D.run 1 rfl ?_
    refine D.st rfl (by decide) (gf_1 h82_4) ?_
    refine D.run 5 rfl ?_
    refine D.letS (fun J5 => ?_)
    refine D.run 2 rfl ?_
    refine D.ct rfl rfl rfl rfl rfl (fun q h => x204_ok h) (fun J h => x204_thr h) (fun J h => hX _ (D.some h)) (fun q6 => ?_)
    show _ → Rn E 208 (86, [.ref 82, .int a1, .int (q1 82 13), .int q2.1, .int (q3 85 6)], [], wT q6 R) o w
    exact fun h => by obtain ⟨rfl, rfl⟩ := hT _ (D.some h); exact Rn.ret rfl rfl rfl
  · refine D.run 1 rfl ?_
    refine D.call rfl rfl rfl rfl (fun q h => x192_ok h) (fun q1 => ?_)
    refine D.run 4 rfl ?_
    refine D.ct rfl rfl rfl rfl rfl (fun q h => x201_ok (by decide) h82_4 h) (fun J h => x201_thr (by decide) h82_4 h) (fun J h => hX _ (D.some h)) (fun q2 => ?_)
    refine D.run 5 rfl ?_
    refine D.call rfl rfl rfl rfl (fun q h => x206_ok h) (fun q3 => ?_)
    show _ → Rn E 208 (21, [.ref 82, .int a1, .int (q1 82 13), .int q2.1, us], [], wT q3 R) o w
    refine D.run 1 rfl ?_
    refine D.st rfl (by decide) (gf_1 h82_4) ?_
    refine D.run 3 rfl ?_
    refine D.st rfl (by decide) (gf_1 h82_4) ?_
    refine D.run 3 rfl ?_
    refine D.gd fun hg => ?_
    refine D.st rfl (by decide) (as_i (by decide) (by first | rfl | decide) hg.1 hg.2) ?_
    show _ → Rn E 208 (41, [.ref 82, .int a1, .int (q1 82 13), .int q2.1, .int (q3 126 6)], [], wT (up2 q3 (126 + 12) (q3 126 6).toNatClampNeg a1) R) o w
    refine D.run 1 rfl ?_
    refine D.st rfl (by decide) (gf_1 h82_4) ?_
    refine D.run 3 rfl ?_
    refine D.gd fun hg => ?_
    refine D.st rfl (by decide) (as_i (by decide) (by first | rfl | decide) hg.1 hg.2) ?_
    show _ → Rn E 208 (52, [.ref 82, .int a1, .int (q1 82 13), .int q2.1, .int (q3 126 6)], [], wT (up2 (up2 q3 (126 + 12) (q3 126 6).toNatClampNeg a1) (126 + 13) (q3 126 6).toNatClampNeg q2.1) R) o w
    refine D.run 1 rfl ?_
    refine D.st rfl (by decide) (gf_1 h82_4) ?_
    refine D.run 4 rfl ?_
    refine D.ct rfl rfl rfl rfl rfl (fun q h => x207_ok h) (fun J h => x207_thr h) (fun J h => hX _ (D.some h)) (fun q4 => ?_)
    refine D.gd fun hg => ?_
    refine D.st rfl (by decide) (as_i (by decide) (by first | rfl | decide) hg.1 hg.2) ?_
    show _ → Rn E 208 (67, [.ref 82, .int a1, .int (q1 82 13), .int q2.1, .int (q3 126 6)], [], wT (up2 q4.2 (126 + 14) (q3 126 6).toNatClampNeg q4.1) R) o w
    refine D.run 1 rfl ?_
    refine D.st rfl (by decide) (gf_1 h82_4) ?_
    refine D.run 5 rfl ?_
    refine D.letS (fun J5 => ?_)
    refine D.run 2 rfl ?_
    refine D.ct rfl rfl rfl rfl rfl (fun q h => x204_ok h) (fun J h => x204_thr h) (fun J h => hX _ (D.some h)) (fun q6 => ?_)
    show _ → Rn E 208 (86, [.ref 82, .int a1, .int (q1 82 13), .int q2.1, .int (q3 126 6)], [], wT q6 R) o w
    exact fun h => by obtain ⟨rfl, rfl⟩ := hT _ (D.some h); exact Rn.ret rfl rfl rfl
set_option maxRecDepth 20000 in
theorem x208_ok {E : Xe} {R : Nat → Nat → Option Nat} {Z : Nat} {I : St} (hZ : Z = 85 ∨ Z = 126) (h82_4 : R 82 4 = some Z) {a1 : Int32} {q : St} (h : x208 Z I a1 = some (.inr q)) : Rn E 208 (0, loc0 208 [.ref 82, .int a1], [], wT I R) (.returned none) (wT q R) := x208_D hZ h82_4 _ (T := fun r => r = .inr q) (by rintro r h; cases h; exact ⟨rfl, rfl⟩) (by rintro J h; cases h) ⟨_, h, rfl⟩
set_option maxRecDepth 20000 in
theorem x208_thr {E : Xe} {R : Nat → Nat → Option Nat} {Z : Nat} {I : St} (hZ : Z = 85 ∨ Z = 126) (h82_4 : R 82 4 = some Z) {a1 : Int32} {J : St} (h : x208 Z I a1 = some (.inl J)) : Rn E 208 (0, loc0 208 [.ref 82, .int a1], [], wT I R) (.threw 84) (wT J R) := x208_D hZ h82_4 _ (T := fun r => r = .inl J) (by rintro r h; cases h) (by rintro K h; cases h; exact ⟨rfl, rfl⟩) ⟨_, h, rfl⟩
/-- TaintHouseModel.readKind(I)V -/
def x210 (Z : Nat) (I : St) (a1 : Int32) : Option (St ⊕ (St)) := (x207 I 0).bind (Sum.elim (fun J => some (.inl J)) (fun q1 => if q1.1 = 2 then if inb a1 24 then if inb a1 24 then if inb a1 24 then Lt (up2 q1.2 (Z + 19) a1.toNatClampNeg ((q1.2 (Z + 19) a1.toNatClampNeg) ||| (1 <<< ((q1.2 (Z + 18) a1.toNatClampNeg) &&& 31)))) fun J2 => if inb a1 24 then if inb a1 24 then some (.inr (up2 J2 (Z + 18) a1.toNatClampNeg ((J2 (Z + 18) a1.toNatClampNeg) + 1))) else none else none else none else none else none else if inb a1 24 then if inb a1 24 then some (.inr (up2 q1.2 (Z + 18) a1.toNatClampNeg ((q1.2 (Z + 18) a1.toNatClampNeg) + 1))) else none else none))
set_option maxRecDepth 20000 in
theorem x210_D {E : Xe} {R : Nat → Nat → Option Nat} {Z : Nat} {o : Outcome} {w : Wd} {T : (St ⊕ (St)) → Prop} {I : St} (hZ : Z = 85 ∨ Z = 126) (h82_4 : R 82 4 = some Z) (a1 : Int32) (hT : ∀ r, T (.inr r) → o = .returned none ∧ w = wT r R) (hX : ∀ J, T (.inl J) → o = .threw 84 ∧ w = wT J R) : Dq (x210 Z I a1) T → Rn E 210 (0, loc0 210 [.ref 82, .int a1], [], wT I R) o w := by
  unfold x210
  rcases hZ with rfl | rfl
  · refine D.run 2 rfl ?_
    refine D.ct rfl rfl rfl rfl rfl (fun q h => x207_ok h) (fun J h => x207_thr h) (fun J h => hX _ (D.some h)) (fun q1 => ?_)
    refine D.run 3 rfl ?_
    refine D.br rfl (by decide) rfl (fun hc => ?_) (fun hc => ?_)
    · refine D.run 1 rfl ?_
      refine D.st rfl (by decide) (gf_1 h82_4) ?_
      refine D.run 3 rfl ?_
      refine D.gd fun hg => ?_
      refine D.st rfl (by decide) (al_i (by decide) (by first | rfl | decide) hg.1 hg.2) ?_
      show _ → Rn E 210 (21, [.ref 82, .int a1, .int q1.1], [.int (q1.2 (85 + 19) a1.toNatClampNeg), .int a1, .ref (85 + 19)], wT q1.2 R) o w
      refine D.run 2 rfl ?_
      refine D.st rfl (by decide) (gf_1 h82_4) ?_
      refine D.run 2 rfl ?_
      refine D.gd fun hg => ?_
      refine D.st rfl (by decide) (al_i (by decide) (by first | rfl | decide) hg.1 hg.2) ?_
      show _ → Rn E 210 (31, [.ref 82, .int a1, .int q1.1], [.int (q1.2 (85 + 18) a1.toNatClampNeg), .int 1, .int (q1.2 (85 + 19) a1.toNatClampNeg), .int a1, .ref (85 + 19)], wT q1.2 R) o w
      refine D.run 2 rfl ?_
      refine D.gd fun hg => ?_
      refine D.st rfl (by decide) (as_i (by decide) (by first | rfl | decide) hg.1 hg.2) ?_
      refine D.letS (fun J2 => ?_)
      refine D.run 1 rfl ?_
      refine D.st rfl (by decide) (gf_1 h82_4) ?_
      show _ → Rn E 210 (38, [.ref 82, .int a1, .int q1.1], [.ref 85], wT J2 R) o w
      refine D.run 3 rfl ?_
      refine D.gd fun hg => ?_
      refine D.st rfl (by decide) (al_i (by decide) (by first | rfl | decide) hg.1 hg.2) ?_
      refine D.run 2 rfl ?_
      refine D.gd fun hg => ?_
      refine D.st rfl (by decide) (as_i (by decide) (by first | rfl | decide) hg.1 hg.2) ?_
      show _ → Rn E 210 (47, [.ref 82, .int a1, .int q1.1], [], wT (up2 J2 (85 + 18) a1.toNatClampNeg ((J2 (85 + 18) a1.toNatClampNeg) + 1)) R) o w
      exact fun h => by obtain ⟨rfl, rfl⟩ := hT _ (D.some h); exact Rn.ret rfl rfl rfl
    · refine D.run 1 rfl ?_
      refine D.st rfl (by decide) (gf_1 h82_4) ?_
      refine D.run 3 rfl ?_
      refine D.gd fun hg => ?_
      refine D.st rfl (by decide) (al_i (by decide) (by first | rfl | decide) hg.1 hg.2) ?_
      show _ → Rn E 210 (44, [.ref 82, .int a1, .int q1.1], [.int (q1.2 (85 + 18) a1.toNatClampNeg), .int a1, .ref (85 + 18)], wT q1.2 R) o w
      refine D.run 2 rfl ?_
      refine D.gd fun hg => ?_
      refine D.st rfl (by decide) (as_i (by decide) (by first | rfl | decide) hg.1 hg.2) ?_
      exact fun h => by obtain ⟨rfl, rfl⟩ := hT _ (D.some h); exact Rn.ret rfl rfl rfl
  · refine D.run 2 rfl ?_
    refine D.ct rfl rfl rfl rfl rfl (fun q h => x207_ok h) (fun J h => x207_thr h) (fun J h => hX _ (D.some h)) (fun q1 => ?_)
    refine D.run 3 rfl ?_
    refine D.br rfl (by decide) rfl (fun hc => ?_) (fun hc => ?_)
    · refine D.run 1 rfl ?_
      refine D.st rfl (by decide) (gf_1 h82_4) ?_
      refine D.run 3 rfl ?_
      refine D.gd fun hg => ?_
      refine D.st rfl (by decide) (al_i (by decide) (by first | rfl | decide) hg.1 hg.2) ?_
      show _ → Rn E 210 (21, [.ref 82, .int a1, .int q1.1], [.int (q1.2 (126 + 19) a1.toNatClampNeg), .int a1, .ref (126 + 19)], wT q1.2 R) o w
      refine D.run 2 rfl ?_
      refine D.st rfl (by decide) (gf_1 h82_4) ?_
      refine D.run 2 rfl ?_
      refine D.gd fun hg => ?_
      refine D.st rfl (by decide) (al_i (by decide) (by first | rfl | decide) hg.1 hg.2) ?_
      show _ → Rn E 210 (31, [.ref 82, .int a1, .int q1.1], [.int (q1.2 (126 + 18) a1.toNatClampNeg), .int 1, .int (q1.2 (126 + 19) a1.toNatClampNeg), .int a1, .ref (126 + 19)], wT q1.2 R) o w
      refine D.run 2 rfl ?_
      refine D.gd fun hg => ?_
      refine D.st rfl (by decide) (as_i (by decide) (by first | rfl | decide) hg.1 hg.2) ?_
      refine D.letS (fun J2 => ?_)
      refine D.run 1 rfl ?_
      refine D.st rfl (by decide) (gf_1 h82_4) ?_
      show _ → Rn E 210 (38, [.ref 82, .int a1, .int q1.1], [.ref 126], wT J2 R) o w
      refine D.run 3 rfl ?_
      refine D.gd fun hg => ?_
      refine D.st rfl (by decide) (al_i (by decide) (by first | rfl | decide) hg.1 hg.2) ?_
      refine D.run 2 rfl ?_
      refine D.gd fun hg => ?_
      refine D.st rfl (by decide) (as_i (by decide) (by first | rfl | decide) hg.1 hg.2) ?_
      show _ → Rn E 210 (47, [.ref 82, .int a1, .int q1.1], [], wT (up2 J2 (126 + 18) a1.toNatClampNeg ((J2 (126 + 18) a1.toNatClampNeg) + 1)) R) o w
      exact fun h => by obtain ⟨rfl, rfl⟩ := hT _ (D.some h); exact Rn.ret rfl rfl rfl
    · refine D.run 1 rfl ?_
      refine D.st rfl (by decide) (gf_1 h82_4) ?_
      refine D.run 3 rfl ?_
      refine D.gd fun hg => ?_
      refine D.st rfl (by decide) (al_i (by decide) (by first | rfl | decide) hg.1 hg.2) ?_
      show _ → Rn E 210 (44, [.ref 82, .int a1, .int q1.1], [.int (q1.2 (126 + 18) a1.toNatClampNeg), .int a1, .ref (126 + 18)], wT q1.2 R) o w
      refine D.run 2 rfl ?_
      refine D.gd fun hg => ?_
      refine D.st rfl (by decide) (as_i (by decide) (by first | rfl | decide) hg.1 hg.2) ?_
      exact fun h => by obtain ⟨rfl, rfl⟩ := hT _ (D.some h); exact Rn.ret rfl rfl rfl
set_option maxRecDepth 20000 in
theorem x210_ok {E : Xe} {R : Nat → Nat → Option Nat} {Z : Nat} {I : St} (hZ : Z = 85 ∨ Z = 126) (h82_4 : R 82 4 = some Z) {a1 : Int32} {q : St} (h : x210 Z I a1 = some (.inr q)) : Rn E 210 (0, loc0 210 [.ref 82, .int a1], [], wT I R) (.returned none) (wT q R) := x210_D hZ h82_4 _ (T := fun r => r = .inr q) (by rintro r h; cases h; exact ⟨rfl, rfl⟩) (by rintro J h; cases h) ⟨_, h, rfl⟩
set_option maxRecDepth 20000 in
theorem x210_thr {E : Xe} {R : Nat → Nat → Option Nat} {Z : Nat} {I : St} (hZ : Z = 85 ∨ Z = 126) (h82_4 : R 82 4 = some Z) {a1 : Int32} {J : St} (h : x210 Z I a1 = some (.inl J)) : Rn E 210 (0, loc0 210 [.ref 82, .int a1], [], wT I R) (.threw 84) (wT J R) := x210_D hZ h82_4 _ (T := fun r => r = .inl J) (by rintro r h; cases h) (by rintro K h; cases h; exact ⟨rfl, rfl⟩) ⟨_, h, rfl⟩
/-- TaintHouseModel.readTry(I)V -/
def l211_24 (Z : Nat) (b2 : Int32) : Nat → Int32 → St → Option ((St) ⊕ (St ⊕ (St)))
  | 0, _, _ => none
  | n + 1, b3, I => if 4 ≤ b3 then some (.inl I) else if inb ((4 * b2) + b3) 800 then (x201 Z (up2 I (Z + 39) ((4 * b2) + b3).toNatClampNeg (I 82 13))).bind (Sum.elim (fun J => some (.inr (.inl J))) (fun q2 => if inb ((4 * b2) + b3) 800 then l211_24 Z b2 n (b3 + 1) (up2 q2.2 (Z + 38) ((4 * b2) + b3).toNatClampNeg q2.1) else none)) else none
set_option maxRecDepth 20000 in
theorem l211_24_ok {E : Xe} {R : Nat → Nat → Option Nat} {Z : Nat} {o : Outcome} {w : Wd} {T : ((St) ⊕ (St ⊕ (St))) → Prop} {b2 : Int32} (hZ : Z = 85 ∨ Z = 126) (h82_4 : R 82 4 = some Z) (hT : ∀ r, T (.inr (.inr r)) → o = .returned none ∧ w = wT r R) (hX : ∀ J, T (.inr (.inl J)) → o = .threw 84 ∧ w = wT J R) (K : ∀ (q : St) (e1 : Value) (_ : is1 e1 = true) (e2 : Value) (_ : is1 e2 = true) (e3 : Value) (_ : is1 e3 = true), T (.inl q) → Rn E 211 (69, [.ref 82, e1, e2, e3], [], wT q R) o w) : ∀ (n : Nat) (b3 : Int32) (d1 : Value) (I : St), is1 d1 = true → Dq (l211_24 Z b2 n b3 I) T → Rn E 211 (24, [.ref 82, d1, .int b2, .int b3], [], wT I R) o w := by
  rcases hZ with rfl | rfl
  · intro n
    induction n with
    | zero => intro b3 d1 I hd1; exact D.none
    | succ n ih =>
      intro b3 d1 I hd1
      rw [l211_24]
      refine D.run 2 rfl ?_
      refine D.br rfl (by decide) rfl (fun hc => ?_) (fun hc => ?_)
      · exact fun h => D.to h (K _ _ (by first | rfl | assumption) _ (by first | rfl | assumption) _ (by first | rfl | assumption))
      · refine D.run 1 rfl ?_
        refine D.st rfl (by decide) (gf_1 h82_4) ?_
        refine D.run 8 rfl ?_
        refine D.gd fun hg => ?_
        refine D.st rfl (by decide) (as_i (by decide) (by first | rfl | decide) hg.1 hg.2) ?_
        show _ → Rn E 211 (46, [.ref 82, d1, .int b2, .int b3], [], wT (up2 I (85 + 39) ((4 * b2) + b3).toNatClampNeg (I 82 13)) R) o w
        refine D.run 1 rfl ?_
        refine D.st rfl (by decide) (gf_1 h82_4) ?_
        refine D.run 7 rfl ?_
        refine D.ct rfl rfl rfl rfl rfl (fun q h => x201_ok (by decide) h82_4 h) (fun J h => x201_thr (by decide) h82_4 h) (fun J h => hX _ (D.some h)) (fun q2 => ?_)
        refine D.gd fun hg => ?_
        refine D.st rfl (by decide) (as_i (by decide) (by first | rfl | decide) hg.1 hg.2) ?_
        show _ → Rn E 211 (63, [.ref 82, d1, .int b2, .int b3], [], wT (up2 q2.2 (85 + 38) ((4 * b2) + b3).toNatClampNeg q2.1) R) o w
        refine D.run 2 rfl ?_
        exact ih _ _ _ (by first | rfl | assumption)
  · intro n
    induction n with
    | zero => intro b3 d1 I hd1; exact D.none
    | succ n ih =>
      intro b3 d1 I hd1
      rw [l211_24]
      refine D.run 2 rfl ?_
      refine D.br rfl (by decide) rfl (fun hc => ?_) (fun hc => ?_)
      · exact fun h => D.to h (K _ _ (by first | rfl | assumption) _ (by first | rfl | assumption) _ (by first | rfl | assumption))
      · refine D.run 1 rfl ?_
        refine D.st rfl (by decide) (gf_1 h82_4) ?_
        refine D.run 8 rfl ?_
        refine D.gd fun hg => ?_
        refine D.st rfl (by decide) (as_i (by decide) (by first | rfl | decide) hg.1 hg.2) ?_
        show _ → Rn E 211 (46, [.ref 82, d1, .int b2, .int b3], [], wT (up2 I (126 + 39) ((4 * b2) + b3).toNatClampNeg (I 82 13)) R) o w
        refine D.run 1 rfl ?_
        refine D.st rfl (by decide) (gf_1 h82_4) ?_
        refine D.run 7 rfl ?_
        refine D.ct rfl rfl rfl rfl rfl (fun q h => x201_ok (by decide) h82_4 h) (fun J h => x201_thr (by decide) h82_4 h) (fun J h => hX _ (D.some h)) (fun q2 => ?_)
        refine D.gd fun hg => ?_
        refine D.st rfl (by decide) (as_i (by decide) (by first | rfl | decide) hg.1 hg.2) ?_
        show _ → Rn E 211 (63, [.ref 82, d1, .int b2, .int b3], [], wT (up2 q2.2 (126 + 38) ((4 * b2) + b3).toNatClampNeg q2.1) R) o w
        refine D.run 2 rfl ?_
        exact ih _ _ _ (by first | rfl | assumption)
def x211 (Z : Nat) (I : St) (a1 : Int32) : Option (St ⊕ (St)) := (x192 I).bind fun q1 => if inb (q1 Z 11) 200 then (l211_24 Z (q1 Z 11) 100000 0 (up2 q1 (Z + 37) (q1 Z 11).toNatClampNeg a1)).bind (Sum.elim (fun q3 => (x204 (up2 q3 Z 11 ((q3 Z 11) + 1)) 59).bind (Sum.elim (fun J => some (.inl J)) (fun q7 => some (.inr q7)))) (fun r => some r)) else none
set_option maxRecDepth 20000 in
theorem x211_D {E : Xe} {R : Nat → Nat → Option Nat} {Z : Nat} {o : Outcome} {w : Wd} {T : (St ⊕ (St)) → Prop} {I : St} (hZ : Z = 85 ∨ Z = 126) (h82_4 : R 82 4 = some Z) (a1 : Int32) (hT : ∀ r, T (.inr r) → o = .returned none ∧ w = wT r R) (hX : ∀ J, T (.inl J) → o = .threw 84 ∧ w = wT J R) : Dq (x211 Z I a1) T → Rn E 211 (0, loc0 211 [.ref 82, .int a1], [], wT I R) o w := by
  unfold x211
  rcases hZ with rfl | rfl
  · refine D.run 1 rfl ?_
    refine D.call rfl rfl rfl rfl (fun q h => x192_ok h) (fun q1 => ?_)
    refine D.run 1 rfl ?_
    refine D.st rfl (by decide) (gf_1 h82_4) ?_
    refine D.run 3 rfl ?_
    refine D.st rfl (by decide) (gf_1 h82_4) ?_
    show _ → Rn E 211 (16, [.ref 82, .int a1, .int (q1 85 11), us], [.ref 85], wT q1 R) o w
    refine D.run 3 rfl ?_
    refine D.gd fun hg => ?_
    refine D.st rfl (by decide) (as_i (by decide) (by first | rfl | decide) hg.1 hg.2) ?_
    refine D.run 2 rfl ?_
    refine D.bind (l211_24_ok (by decide) h82_4 (fun r h => hT _ (D.some h)) (fun r h => hX _ (D.some h)) (fun q3 e4 he4 e5 he5 e6 he6 => ?_) 100000 _ _ _ (by first | rfl | assumption))
    refine D.inl ?_
    refine D.run 1 rfl ?_
    refine D.st rfl (by decide) (gf_1 h82_4) ?_
    refine D.run 7 rfl ?_
    refine D.ct rfl rfl rfl rfl rfl (fun q h => x204_ok h) (fun J h => x204_thr h) (fun J h => hX _ (D.some h)) (fun q7 => ?_)
    exact fun h => by obtain ⟨rfl, rfl⟩ := hT _ (D.some h); exact Rn.ret rfl rfl rfl
  · refine D.run 1 rfl ?_
    refine D.call rfl rfl rfl rfl (fun q h => x192_ok h) (fun q1 => ?_)
    refine D.run 1 rfl ?_
    refine D.st rfl (by decide) (gf_1 h82_4) ?_
    refine D.run 3 rfl ?_
    refine D.st rfl (by decide) (gf_1 h82_4) ?_
    show _ → Rn E 211 (16, [.ref 82, .int a1, .int (q1 126 11), us], [.ref 126], wT q1 R) o w
    refine D.run 3 rfl ?_
    refine D.gd fun hg => ?_
    refine D.st rfl (by decide) (as_i (by decide) (by first | rfl | decide) hg.1 hg.2) ?_
    refine D.run 2 rfl ?_
    refine D.bind (l211_24_ok (by decide) h82_4 (fun r h => hT _ (D.some h)) (fun r h => hX _ (D.some h)) (fun q3 e4 he4 e5 he5 e6 he6 => ?_) 100000 _ _ _ (by first | rfl | assumption))
    refine D.inl ?_
    refine D.run 1 rfl ?_
    refine D.st rfl (by decide) (gf_1 h82_4) ?_
    refine D.run 7 rfl ?_
    refine D.ct rfl rfl rfl rfl rfl (fun q h => x204_ok h) (fun J h => x204_thr h) (fun J h => hX _ (D.some h)) (fun q7 => ?_)
    exact fun h => by obtain ⟨rfl, rfl⟩ := hT _ (D.some h); exact Rn.ret rfl rfl rfl
set_option maxRecDepth 20000 in
theorem x211_ok {E : Xe} {R : Nat → Nat → Option Nat} {Z : Nat} {I : St} (hZ : Z = 85 ∨ Z = 126) (h82_4 : R 82 4 = some Z) {a1 : Int32} {q : St} (h : x211 Z I a1 = some (.inr q)) : Rn E 211 (0, loc0 211 [.ref 82, .int a1], [], wT I R) (.returned none) (wT q R) := x211_D hZ h82_4 _ (T := fun r => r = .inr q) (by rintro r h; cases h; exact ⟨rfl, rfl⟩) (by rintro J h; cases h) ⟨_, h, rfl⟩
set_option maxRecDepth 20000 in
theorem x211_thr {E : Xe} {R : Nat → Nat → Option Nat} {Z : Nat} {I : St} (hZ : Z = 85 ∨ Z = 126) (h82_4 : R 82 4 = some Z) {a1 : Int32} {J : St} (h : x211 Z I a1 = some (.inl J)) : Rn E 211 (0, loc0 211 [.ref 82, .int a1], [], wT I R) (.threw 84) (wT J R) := x211_D hZ h82_4 _ (T := fun r => r = .inl J) (by rintro r h; cases h) (by rintro K h; cases h; exact ⟨rfl, rfl⟩) ⟨_, h, rfl⟩
/-- TaintHouseModel.number(I)I -/
def x214 (I : St) (a1 : Int32) : Option (St ⊕ (Int32 × St)) := if (I 82 12) = 2 then if (I 82 15) < 0 then some (.inl (up2 I 84 0 (I 82 13))) else if (I 82 15) ≤ a1 then (x192 I).bind fun q1 => some (.inr ((I 82 15), q1)) else some (.inl (up2 I 84 0 (I 82 13))) else some (.inl (up2 I 84 0 (I 82 13)))
set_option maxRecDepth 20000 in
theorem x214_D {E : Xe} {R : Nat → Nat → Option Nat} {o : Outcome} {w : Wd} {T : (St ⊕ (Int32 × St)) → Prop} {I : St} (a1 : Int32) (hT : ∀ r, T (.inr r) → o = .returned (some (.int r.1)) ∧ w = wT r.2 R) (hX : ∀ J, T (.inl J) → o = .threw 84 ∧ w = wT J R) : Dq (x214 I a1) T → Rn E 214 (0, loc0 214 [.ref 82, .int a1], [], wT I R) o w := by
  unfold x214
  refine D.run 3 rfl ?_
  refine D.br rfl (by decide) rfl (fun hc => ?_) (fun hc => ?_)
  · refine D.run 2 rfl ?_
    refine D.br rfl (by decide) rfl (fun hc => ?_) (fun hc => ?_)
    · refine D.run 3 rfl ?_
      refine D.ce rfl rfl rfl rfl (fail_ok _) ?_
      exact fun h => by obtain ⟨rfl, rfl⟩ := hX _ (D.some h); exact Rn.thr rfl rfl rfl
    · refine D.run 3 rfl ?_
      refine D.br rfl (by decide) rfl (fun hc => ?_) (fun hc => ?_)
      · refine D.run 4 rfl ?_
        refine D.call rfl rfl rfl rfl (fun q h => x192_ok h) (fun q1 => ?_)
        refine D.run 1 rfl ?_
        exact fun h => by obtain ⟨rfl, rfl⟩ := hT _ (D.some h); exact Rn.ret rfl rfl rfl
      · refine D.run 3 rfl ?_
        refine D.ce rfl rfl rfl rfl (fail_ok _) ?_
        exact fun h => by obtain ⟨rfl, rfl⟩ := hX _ (D.some h); exact Rn.thr rfl rfl rfl
  · refine D.run 3 rfl ?_
    refine D.ce rfl rfl rfl rfl (fail_ok _) ?_
    exact fun h => by obtain ⟨rfl, rfl⟩ := hX _ (D.some h); exact Rn.thr rfl rfl rfl
set_option maxRecDepth 20000 in
theorem x214_ok {E : Xe} {R : Nat → Nat → Option Nat} {I : St} {a1 : Int32} {q : Int32 × St} (h : x214 I a1 = some (.inr q)) : Rn E 214 (0, loc0 214 [.ref 82, .int a1], [], wT I R) (.returned (some (.int q.1))) (wT q.2 R) := x214_D  _ (T := fun r => r = .inr q) (by rintro r h; cases h; exact ⟨rfl, rfl⟩) (by rintro J h; cases h) ⟨_, h, rfl⟩
set_option maxRecDepth 20000 in
theorem x214_thr {E : Xe} {R : Nat → Nat → Option Nat} {I : St} {a1 : Int32} {J : St} (h : x214 I a1 = some (.inl J)) : Rn E 214 (0, loc0 214 [.ref 82, .int a1], [], wT I R) (.threw 84) (wT J R) := x214_D  _ (T := fun r => r = .inl J) (by rintro r h; cases h) (by rintro K h; cases h; exact ⟨rfl, rfl⟩) ⟨_, h, rfl⟩
/-- TaintHouseModel.lookMethod(I)V -/
def x218 (Z : Nat) (I : St) (a1 : Int32) : Option (St) := if inb a1 24 then if (I (Z + 25) a1.toNatClampNeg) = 0 then some I else if inb a1 24 then if inb (I (Z + 15) a1.toNatClampNeg) 19 then if inb a1 24 then (x219 Z I (I (Z + 8) (I (Z + 15) a1.toNatClampNeg).toNatClampNeg) (I (Z + 16) a1.toNatClampNeg) 1).bind fun q1 => if q1 = (-1) then some I else if inb q1 24 then if inb a1 24 then if (I (Z + 18) q1.toNatClampNeg) = (I (Z + 18) a1.toNatClampNeg) then if inb q1 24 then if inb a1 24 then if (I (Z + 19) q1.toNatClampNeg) = (I (Z + 19) a1.toNatClampNeg) then if inb q1 24 then if inb a1 24 then if (I (Z + 20) q1.toNatClampNeg) = (I (Z + 20) a1.toNatClampNeg) then some I else if inb a1 24 then (x217 I 3 (I (Z + 17) a1.toNatClampNeg)).bind fun q2 => some q2 else none else none else none else if inb a1 24 then (x217 I 3 (I (Z + 17) a1.toNatClampNeg)).bind fun q3 => some q3 else none else none else none else if inb a1 24 then (x217 I 3 (I (Z + 17) a1.toNatClampNeg)).bind fun q4 => some q4 else none else none else none else none else none else none else none
set_option maxRecDepth 20000 in
theorem x218_D {E : Xe} {R : Nat → Nat → Option Nat} {Z : Nat} {o : Outcome} {w : Wd} {T : (St) → Prop} {I : St} (hZ : Z = 85 ∨ Z = 126) (h82_4 : R 82 4 = some Z) (a1 : Int32) (hT : ∀ r, T r → o = .returned none ∧ w = wT r R) : Dq (x218 Z I a1) T → Rn E 218 (0, loc0 218 [.ref 82, .int a1], [], wT I R) o w := by
  unfold x218
  rcases hZ with rfl | rfl
  · refine D.run 1 rfl ?_
    refine D.st rfl (by decide) (gf_1 h82_4) ?_
    refine D.run 2 rfl ?_
    refine D.gd fun hg => ?_
    refine D.st rfl (by decide) (al_b (by decide) (by first | rfl | decide) hg.1 hg.2) ?_
    show _ → Rn E 218 (9, [.ref 82, .int a1, us], [.int (I (85 + 25) a1.toNatClampNeg)], wT I R) o w
    refine D.br rfl (by decide) rfl (fun hc => ?_) (fun hc => ?_)
    · exact fun h => by obtain ⟨rfl, rfl⟩ := hT _ (D.some h); exact Rn.ret rfl rfl rfl
    · refine D.run 1 rfl ?_
      refine D.st rfl (by decide) (gf_1 h82_4) ?_
      refine D.run 1 rfl ?_
      refine D.st rfl (by decide) (gf_1 h82_4) ?_
      refine D.run 2 rfl ?_
      refine D.st rfl (by decide) (gf_1 h82_4) ?_
      show _ → Rn E 218 (28, [.ref 82, .int a1, us], [.ref 85, .ref (85 + 8), .ref 85], wT I R) o w
      refine D.run 2 rfl ?_
      refine D.gd fun hg => ?_
      refine D.st rfl (by decide) (al_i (by decide) (by first | rfl | decide) hg.1 hg.2) ?_
      refine D.gd fun hg => ?_
      refine D.st rfl (by decide) (al_i (by decide) (by first | rfl | decide) hg.1 hg.2) ?_
      show _ → Rn E 218 (34, [.ref 82, .int a1, us], [.int (I (85 + 8) (I (85 + 15) a1.toNatClampNeg).toNatClampNeg), .ref 85], wT I R) o w
      refine D.run 1 rfl ?_
      refine D.st rfl (by decide) (gf_1 h82_4) ?_
      refine D.run 2 rfl ?_
      refine D.gd fun hg => ?_
      refine D.st rfl (by decide) (al_i (by decide) (by first | rfl | decide) hg.1 hg.2) ?_
      show _ → Rn E 218 (43, [.ref 82, .int a1, us], [.int (I (85 + 16) a1.toNatClampNeg), .int (I (85 + 8) (I (85 + 15) a1.toNatClampNeg).toNatClampNeg), .ref 85], wT I R) o w
      refine D.run 1 rfl ?_
      refine D.call rfl rfl rfl rfl (fun q h => x219_ok (by decide) h) (fun q1 => ?_)
      refine D.run 3 rfl ?_
      refine D.br rfl (by decide) rfl (fun hc => ?_) (fun hc => ?_)
      · exact fun h => by obtain ⟨rfl, rfl⟩ := hT _ (D.some h); exact Rn.ret rfl rfl rfl
      · refine D.run 1 rfl ?_
        refine D.st rfl (by decide) (gf_1 h82_4) ?_
        refine D.run 2 rfl ?_
        refine D.gd fun hg => ?_
        refine D.st rfl (by decide) (al_i (by decide) (by first | rfl | decide) hg.1 hg.2) ?_
        show _ → Rn E 218 (63, [.ref 82, .int a1, .int q1], [.int (I (85 + 18) q1.toNatClampNeg)], wT I R) o w
        refine D.run 1 rfl ?_
        refine D.st rfl (by decide) (gf_1 h82_4) ?_
        refine D.run 2 rfl ?_
        refine D.gd fun hg => ?_
        refine D.st rfl (by decide) (al_i (by decide) (by first | rfl | decide) hg.1 hg.2) ?_
        show _ → Rn E 218 (72, [.ref 82, .int a1, .int q1], [.int (I (85 + 18) a1.toNatClampNeg), .int (I (85 + 18) q1.toNatClampNeg)], wT I R) o w
        refine D.br rfl (by decide) rfl (fun hc => ?_) (fun hc => ?_)
        · refine D.run 1 rfl ?_
          refine D.st rfl (by decide) (gf_1 h82_4) ?_
          refine D.run 2 rfl ?_
          refine D.gd fun hg => ?_
          refine D.st rfl (by decide) (al_i (by decide) (by first | rfl | decide) hg.1 hg.2) ?_
          show _ → Rn E 218 (84, [.ref 82, .int a1, .int q1], [.int (I (85 + 19) q1.toNatClampNeg)], wT I R) o w
          refine D.run 1 rfl ?_
          refine D.st rfl (by decide) (gf_1 h82_4) ?_
          refine D.run 2 rfl ?_
          refine D.gd fun hg => ?_
          refine D.st rfl (by decide) (al_i (by decide) (by first | rfl | decide) hg.1 hg.2) ?_
          show _ → Rn E 218 (93, [.ref 82, .int a1, .int q1], [.int (I (85 + 19) a1.toNatClampNeg), .int (I (85 + 19) q1.toNatClampNeg)], wT I R) o w
          refine D.br rfl (by decide) rfl (fun hc => ?_) (fun hc => ?_)
          · refine D.run 1 rfl ?_
            refine D.st rfl (by decide) (gf_1 h82_4) ?_
            refine D.run 2 rfl ?_
            refine D.gd fun hg => ?_
            refine D.st rfl (by decide) (al_i (by decide) (by first | rfl | decide) hg.1 hg.2) ?_
            show _ → Rn E 218 (105, [.ref 82, .int a1, .int q1], [.int (I (85 + 20) q1.toNatClampNeg)], wT I R) o w
            refine D.run 1 rfl ?_
            refine D.st rfl (by decide) (gf_1 h82_4) ?_
            refine D.run 2 rfl ?_
            refine D.gd fun hg => ?_
            refine D.st rfl (by decide) (al_i (by decide) (by first | rfl | decide) hg.1 hg.2) ?_
            show _ → Rn E 218 (114, [.ref 82, .int a1, .int q1], [.int (I (85 + 20) a1.toNatClampNeg), .int (I (85 + 20) q1.toNatClampNeg)], wT I R) o w
            refine D.br rfl (by decide) rfl (fun hc => ?_) (fun hc => ?_)
            · exact fun h => by obtain ⟨rfl, rfl⟩ := hT _ (D.some h); exact Rn.ret rfl rfl rfl
            · refine D.run 3 rfl ?_
              refine D.st rfl (by decide) (gf_1 h82_4) ?_
              refine D.run 2 rfl ?_
              refine D.gd fun hg => ?_
              refine D.st rfl (by decide) (al_i (by decide) (by first | rfl | decide) hg.1 hg.2) ?_
              show _ → Rn E 218 (128, [.ref 82, .int a1, .int q1], [.int (I (85 + 17) a1.toNatClampNeg), .int 3, .ref 82], wT I R) o w
              refine D.call rfl rfl rfl rfl (fun q h => x217_ok h) (fun q2 => ?_)
              exact fun h => by obtain ⟨rfl, rfl⟩ := hT _ (D.some h); exact Rn.ret rfl rfl rfl
          · refine D.run 3 rfl ?_
            refine D.st rfl (by decide) (gf_1 h82_4) ?_
            refine D.run 2 rfl ?_
            refine D.gd fun hg => ?_
            refine D.st rfl (by decide) (al_i (by decide) (by first | rfl | decide) hg.1 hg.2) ?_
            show _ → Rn E 218 (128, [.ref 82, .int a1, .int q1], [.int (I (85 + 17) a1.toNatClampNeg), .int 3, .ref 82], wT I R) o w
            refine D.call rfl rfl rfl rfl (fun q h => x217_ok h) (fun q3 => ?_)
            exact fun h => by obtain ⟨rfl, rfl⟩ := hT _ (D.some h); exact Rn.ret rfl rfl rfl
        · refine D.run 3 rfl ?_
          refine D.st rfl (by decide) (gf_1 h82_4) ?_
          refine D.run 2 rfl ?_
          refine D.gd fun hg => ?_
          refine D.st rfl (by decide) (al_i (by decide) (by first | rfl | decide) hg.1 hg.2) ?_
          show _ → Rn E 218 (128, [.ref 82, .int a1, .int q1], [.int (I (85 + 17) a1.toNatClampNeg), .int 3, .ref 82], wT I R) o w
          refine D.call rfl rfl rfl rfl (fun q h => x217_ok h) (fun q4 => ?_)
          exact fun h => by obtain ⟨rfl, rfl⟩ := hT _ (D.some h); exact Rn.ret rfl rfl rfl
  · refine D.run 1 rfl ?_
    refine D.st rfl (by decide) (gf_1 h82_4) ?_
    refine D.run 2 rfl ?_
    refine D.gd fun hg => ?_
    refine D.st rfl (by decide) (al_b (by decide) (by first | rfl | decide) hg.1 hg.2) ?_
    show _ → Rn E 218 (9, [.ref 82, .int a1, us], [.int (I (126 + 25) a1.toNatClampNeg)], wT I R) o w
    refine D.br rfl (by decide) rfl (fun hc => ?_) (fun hc => ?_)
    · exact fun h => by obtain ⟨rfl, rfl⟩ := hT _ (D.some h); exact Rn.ret rfl rfl rfl
    · refine D.run 1 rfl ?_
      refine D.st rfl (by decide) (gf_1 h82_4) ?_
      refine D.run 1 rfl ?_
      refine D.st rfl (by decide) (gf_1 h82_4) ?_
      refine D.run 2 rfl ?_
      refine D.st rfl (by decide) (gf_1 h82_4) ?_
      show _ → Rn E 218 (28, [.ref 82, .int a1, us], [.ref 126, .ref (126 + 8), .ref 126], wT I R) o w
      refine D.run 2 rfl ?_
      refine D.gd fun hg => ?_
      refine D.st rfl (by decide) (al_i (by decide) (by first | rfl | decide) hg.1 hg.2) ?_
      refine D.gd fun hg => ?_
      refine D.st rfl (by decide) (al_i (by decide) (by first | rfl | decide) hg.1 hg.2) ?_
      show _ → Rn E 218 (34, [.ref 82, .int a1, us], [.int (I (126 + 8) (I (126 + 15) a1.toNatClampNeg).toNatClampNeg), .ref 126], wT I R) o w
      refine D.run 1 rfl ?_
      refine D.st rfl (by decide) (gf_1 h82_4) ?_
      refine D.run 2 rfl ?_
      refine D.gd fun hg => ?_
      refine D.st rfl (by decide) (al_i (by decide) (by first | rfl | decide) hg.1 hg.2) ?_
      show _ → Rn E 218 (43, [.ref 82, .int a1, us], [.int (I (126 + 16) a1.toNatClampNeg), .int (I (126 + 8) (I (126 + 15) a1.toNatClampNeg).toNatClampNeg), .ref 126], wT I R) o w
      refine D.run 1 rfl ?_
      refine D.call rfl rfl rfl rfl (fun q h => x219_ok (by decide) h) (fun q1 => ?_)
      refine D.run 3 rfl ?_
      refine D.br rfl (by decide) rfl (fun hc => ?_) (fun hc => ?_)
      · exact fun h => by obtain ⟨rfl, rfl⟩ := hT _ (D.some h); exact Rn.ret rfl rfl rfl
      · refine D.run 1 rfl ?_
        refine D.st rfl (by decide) (gf_1 h82_4) ?_
        refine D.run 2 rfl ?_
        refine D.gd fun hg => ?_
        refine D.st rfl (by decide) (al_i (by decide) (by first | rfl | decide) hg.1 hg.2) ?_
        show _ → Rn E 218 (63, [.ref 82, .int a1, .int q1], [.int (I (126 + 18) q1.toNatClampNeg)], wT I R) o w
        refine D.run 1 rfl ?_
        refine D.st rfl (by decide) (gf_1 h82_4) ?_
        refine D.run 2 rfl ?_
        refine D.gd fun hg => ?_
        refine D.st rfl (by decide) (al_i (by decide) (by first | rfl | decide) hg.1 hg.2) ?_
        show _ → Rn E 218 (72, [.ref 82, .int a1, .int q1], [.int (I (126 + 18) a1.toNatClampNeg), .int (I (126 + 18) q1.toNatClampNeg)], wT I R) o w
        refine D.br rfl (by decide) rfl (fun hc => ?_) (fun hc => ?_)
        · refine D.run 1 rfl ?_
          refine D.st rfl (by decide) (gf_1 h82_4) ?_
          refine D.run 2 rfl ?_
          refine D.gd fun hg => ?_
          refine D.st rfl (by decide) (al_i (by decide) (by first | rfl | decide) hg.1 hg.2) ?_
          show _ → Rn E 218 (84, [.ref 82, .int a1, .int q1], [.int (I (126 + 19) q1.toNatClampNeg)], wT I R) o w
          refine D.run 1 rfl ?_
          refine D.st rfl (by decide) (gf_1 h82_4) ?_
          refine D.run 2 rfl ?_
          refine D.gd fun hg => ?_
          refine D.st rfl (by decide) (al_i (by decide) (by first | rfl | decide) hg.1 hg.2) ?_
          show _ → Rn E 218 (93, [.ref 82, .int a1, .int q1], [.int (I (126 + 19) a1.toNatClampNeg), .int (I (126 + 19) q1.toNatClampNeg)], wT I R) o w
          refine D.br rfl (by decide) rfl (fun hc => ?_) (fun hc => ?_)
          · refine D.run 1 rfl ?_
            refine D.st rfl (by decide) (gf_1 h82_4) ?_
            refine D.run 2 rfl ?_
            refine D.gd fun hg => ?_
            refine D.st rfl (by decide) (al_i (by decide) (by first | rfl | decide) hg.1 hg.2) ?_
            show _ → Rn E 218 (105, [.ref 82, .int a1, .int q1], [.int (I (126 + 20) q1.toNatClampNeg)], wT I R) o w
            refine D.run 1 rfl ?_
            refine D.st rfl (by decide) (gf_1 h82_4) ?_
            refine D.run 2 rfl ?_
            refine D.gd fun hg => ?_
            refine D.st rfl (by decide) (al_i (by decide) (by first | rfl | decide) hg.1 hg.2) ?_
            show _ → Rn E 218 (114, [.ref 82, .int a1, .int q1], [.int (I (126 + 20) a1.toNatClampNeg), .int (I (126 + 20) q1.toNatClampNeg)], wT I R) o w
            refine D.br rfl (by decide) rfl (fun hc => ?_) (fun hc => ?_)
            · exact fun h => by obtain ⟨rfl, rfl⟩ := hT _ (D.some h); exact Rn.ret rfl rfl rfl
            · refine D.run 3 rfl ?_
              refine D.st rfl (by decide) (gf_1 h82_4) ?_
              refine D.run 2 rfl ?_
              refine D.gd fun hg => ?_
              refine D.st rfl (by decide) (al_i (by decide) (by first | rfl | decide) hg.1 hg.2) ?_
              show _ → Rn E 218 (128, [.ref 82, .int a1, .int q1], [.int (I (126 + 17) a1.toNatClampNeg), .int 3, .ref 82], wT I R) o w
              refine D.call rfl rfl rfl rfl (fun q h => x217_ok h) (fun q2 => ?_)
              exact fun h => by obtain ⟨rfl, rfl⟩ := hT _ (D.some h); exact Rn.ret rfl rfl rfl
          · refine D.run 3 rfl ?_
            refine D.st rfl (by decide) (gf_1 h82_4) ?_
            refine D.run 2 rfl ?_
            refine D.gd fun hg => ?_
            refine D.st rfl (by decide) (al_i (by decide) (by first | rfl | decide) hg.1 hg.2) ?_
            show _ → Rn E 218 (128, [.ref 82, .int a1, .int q1], [.int (I (126 + 17) a1.toNatClampNeg), .int 3, .ref 82], wT I R) o w
            refine D.call rfl rfl rfl rfl (fun q h => x217_ok h) (fun q3 => ?_)
            exact fun h => by obtain ⟨rfl, rfl⟩ := hT _ (D.some h); exact Rn.ret rfl rfl rfl
        · refine D.run 3 rfl ?_
          refine D.st rfl (by decide) (gf_1 h82_4) ?_
          refine D.run 2 rfl ?_
          refine D.gd fun hg => ?_
          refine D.st rfl (by decide) (al_i (by decide) (by first | rfl | decide) hg.1 hg.2) ?_
          show _ → Rn E 218 (128, [.ref 82, .int a1, .int q1], [.int (I (126 + 17) a1.toNatClampNeg), .int 3, .ref 82], wT I R) o w
          refine D.call rfl rfl rfl rfl (fun q h => x217_ok h) (fun q4 => ?_)
          exact fun h => by obtain ⟨rfl, rfl⟩ := hT _ (D.some h); exact Rn.ret rfl rfl rfl
set_option maxRecDepth 20000 in
theorem x218_ok {E : Xe} {R : Nat → Nat → Option Nat} {Z : Nat} {I : St} (hZ : Z = 85 ∨ Z = 126) (h82_4 : R 82 4 = some Z) {a1 : Int32} {q : St} (h : x218 Z I a1 = some q) : Rn E 218 (0, loc0 218 [.ref 82, .int a1], [], wT I R) (.returned none) (wT q R) := x218_D hZ h82_4 _ (T := fun r => r = q) (by rintro r rfl; exact ⟨rfl, rfl⟩) ⟨_, h, rfl⟩
