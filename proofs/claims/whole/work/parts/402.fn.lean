/-! FUNCTIONS OF METHODS, by program (wip/gen/all.py): 196 200 202 203 206 216 217 219 221 222 223 224 228 229 231 232 235 236 239 240 241 244 246 247 248 250 252 -/
/-- TaintHouseModel.wordOf(Ljava/lang/String;)I -/
def l196_15 (t : Nat) (b2 : Int32) (b3 : Int32) : Nat → Int32 → St → Option (Int32)
  | 0, _, _ => none
  | n + 1, b4, I => if inb (b3 + b4) (xTL.getD t []).length then if ((xTL.getD t []).getD (b3 + b4).toNatClampNeg 0) = 32 then some b4 else l196_15 t b2 b3 n (b4 + 1) I else none
set_option maxRecDepth 20000 in
theorem l196_15_ok {E : Xe} {R : Nat → Nat → Option Nat} {t : Nat} {I0 : St} {o : Outcome} {w : Wd} {T : (Int32) → Prop} {b2 : Int32} {b3 : Int32} (ht : t = 3 ∨ t = 4) (K : ∀ (q : Int32) (e5 : Value) (_ : is1 e5 = true) (e6 : Value) (_ : is1 e6 = true), T q → Rn E 196 (34, [.ref 82, .retAddr (10 + t), .int b2, .int b3, .int q, e5, e6], [], wT I0 R) o w) : ∀ (n : Nat) (b4 : Int32) (d5 : Value) (d6 : Value), is1 d5 = true → is1 d6 = true → Dq (l196_15 t b2 b3 n b4 I0) T → Rn E 196 (15, [.ref 82, .retAddr (10 + t), .int b2, .int b3, .int b4, d5, d6], [], wT I0 R) o w := by
  rcases ht with rfl | rfl
  · intro n
    induction n with
    | zero => intro b4 d5 d6 hd5 hd6; exact D.none
    | succ n ih =>
      intro b4 d5 d6 hd5 hd6
      rw [l196_15]
      refine D.run 4 rfl ?_
      refine D.gd fun hg => ?_
      refine D.ce rfl rfl rfl rfl (scharI (tx := 3) (by decide) hg) ?_
      refine D.run 1 rfl ?_
      refine D.br rfl (by decide) rfl (fun hc => ?_) (fun hc => ?_)
      · exact fun h => D.to h (K _ _ (by first | rfl | assumption) _ (by first | rfl | assumption))
      · refine D.run 2 rfl ?_
        exact ih _ _ _  (by first | rfl | assumption) (by first | rfl | assumption)
  · intro n
    induction n with
    | zero => intro b4 d5 d6 hd5 hd6; exact D.none
    | succ n ih =>
      intro b4 d5 d6 hd5 hd6
      rw [l196_15]
      refine D.run 4 rfl ?_
      refine D.gd fun hg => ?_
      refine D.ce rfl rfl rfl rfl (scharI (tx := 4) (by decide) hg) ?_
      refine D.run 1 rfl ?_
      refine D.br rfl (by decide) rfl (fun hc => ?_) (fun hc => ?_)
      · exact fun h => D.to h (K _ _ (by first | rfl | assumption) _ (by first | rfl | assumption))
      · refine D.run 2 rfl ?_
        exact ih _ _ _  (by first | rfl | assumption) (by first | rfl | assumption)
def l196_58 (t : Nat) (b2 : Int32) (b3 : Int32) (b4 : Int32) : Nat → Int32 → Int32 → St → Option (Int32)
  | 0, _, _, _ => none
  | n + 1, b5, b6, I => if b4 ≤ b6 then some b5 else if b5 = 0 then some b5 else if inb (b3 + b6) (xTL.getD t []).length then (x193 I ((I 82 13) + b6)).bind fun q5 => if ((xTL.getD t []).getD (b3 + b6).toNatClampNeg 0) = q5 then l196_58 t b2 b3 b4 n 1 (b6 + 1) I else l196_58 t b2 b3 b4 n 0 (b6 + 1) I else none
set_option maxRecDepth 20000 in
theorem l196_58_ok {E : Xe} {R : Nat → Nat → Option Nat} {t : Nat} {I0 : St} {o : Outcome} {w : Wd} {T : (Int32) → Prop} {b2 : Int32} {b3 : Int32} {b4 : Int32} (ht : t = 3 ∨ t = 4) (K : ∀ (q : Int32) (e6 : Value) (_ : is1 e6 = true), T q → Rn E 196 (105, [.ref 82, .retAddr (10 + t), .int b2, .int b3, .int b4, .int q, e6], [], wT I0 R) o w) : ∀ (n : Nat) (b5 : Int32) (b6 : Int32), Dq (l196_58 t b2 b3 b4 n b5 b6 I0) T → Rn E 196 (58, [.ref 82, .retAddr (10 + t), .int b2, .int b3, .int b4, .int b5, .int b6], [], wT I0 R) o w := by
  rcases ht with rfl | rfl
  · intro n
    induction n with
    | zero => intro b5 b6; exact D.none
    | succ n ih =>
      intro b5 b6
      rw [l196_58]
      refine D.run 2 rfl ?_
      refine D.br rfl (by decide) rfl (fun hc => ?_) (fun hc => ?_)
      · exact fun h => D.to h (K _ _ (by first | rfl | assumption))
      · refine D.run 1 rfl ?_
        refine D.br rfl (by decide) rfl (fun hc => ?_) (fun hc => ?_)
        · exact fun h => D.to h (K _ _ (by first | rfl | assumption))
        · refine D.run 4 rfl ?_
          refine D.gd fun hg => ?_
          refine D.ce rfl rfl rfl rfl (scharI (tx := 3) (by decide) hg) ?_
          refine D.run 5 rfl ?_
          refine D.call rfl rfl rfl rfl (fun q h => x193_ok h) (fun q5 => ?_)
          refine D.br rfl (by decide) rfl (fun hc => ?_) (fun hc => ?_)
          · refine D.run 5 rfl ?_
            exact ih _ _  
          · refine D.run 4 rfl ?_
            exact ih _ _  
  · intro n
    induction n with
    | zero => intro b5 b6; exact D.none
    | succ n ih =>
      intro b5 b6
      rw [l196_58]
      refine D.run 2 rfl ?_
      refine D.br rfl (by decide) rfl (fun hc => ?_) (fun hc => ?_)
      · exact fun h => D.to h (K _ _ (by first | rfl | assumption))
      · refine D.run 1 rfl ?_
        refine D.br rfl (by decide) rfl (fun hc => ?_) (fun hc => ?_)
        · exact fun h => D.to h (K _ _ (by first | rfl | assumption))
        · refine D.run 4 rfl ?_
          refine D.gd fun hg => ?_
          refine D.ce rfl rfl rfl rfl (scharI (tx := 4) (by decide) hg) ?_
          refine D.run 5 rfl ?_
          refine D.call rfl rfl rfl rfl (fun q h => x193_ok h) (fun q5 => ?_)
          refine D.br rfl (by decide) rfl (fun hc => ?_) (fun hc => ?_)
          · refine D.run 5 rfl ?_
            exact ih _ _  
          · refine D.run 4 rfl ?_
            exact ih _ _  
def l196_4 (t : Nat) : Nat → Int32 → Int32 → St → Option ((Unit) ⊕ (Int32))
  | 0, _, _, _ => none
  | n + 1, b2, b3, I => if (tlen t) ≤ b3 then some (.inl ()) else (l196_15 t b2 b3 100000 0 I).bind fun q1 => (if q1 = ((I 82 11) - (I 82 13)) then some 1 else some 0).bind fun (q4 : Int32) => (l196_58 t b2 b3 q1 100000 q4 0 I).bind fun q6 => if q6 = 0 then l196_4 t n (b2 + 1) (b3 + (q1 + 1)) I else some (.inr b2)
set_option maxRecDepth 20000 in
theorem l196_4_ok {E : Xe} {R : Nat → Nat → Option Nat} {t : Nat} {I0 : St} {o : Outcome} {w : Wd} {T : ((Unit) ⊕ (Int32)) → Prop} (ht : t = 3 ∨ t = 4) (hT : ∀ r, T (.inr r) → o = .returned (some (.int r)) ∧ w = wT I0 R) (K : ∀ (q : Unit) (e2 : Value) (_ : is1 e2 = true) (e3 : Value) (_ : is1 e3 = true) (e4 : Value) (_ : is1 e4 = true) (e5 : Value) (_ : is1 e5 = true) (e6 : Value) (_ : is1 e6 = true), T (.inl q) → Rn E 196 (125, [.ref 82, .retAddr (10 + t), e2, e3, e4, e5, e6], [], wT I0 R) o w) : ∀ (n : Nat) (b2 : Int32) (b3 : Int32) (d4 : Value) (d5 : Value) (d6 : Value), is1 d4 = true → is1 d5 = true → is1 d6 = true → Dq (l196_4 t n b2 b3 I0) T → Rn E 196 (4, [.ref 82, .retAddr (10 + t), .int b2, .int b3, d4, d5, d6], [], wT I0 R) o w := by
  rcases ht with rfl | rfl
  · intro n
    induction n with
    | zero => intro b2 b3 d4 d5 d6 hd4 hd5 hd6; exact D.none
    | succ n ih =>
      intro b2 b3 d4 d5 d6 hd4 hd5 hd6
      rw [l196_4]
      refine D.run 2 rfl ?_
      refine D.ce rfl rfl rfl rfl (slen_ok (by decide)) ?_
      refine D.br rfl (by decide) rfl (fun hc => ?_) (fun hc => ?_)
      · exact fun h => D.to h (K _ _ (by first | rfl | assumption) _ (by first | rfl | assumption) _ (by first | rfl | assumption) _ (by first | rfl | assumption) _ (by first | rfl | assumption))
      · refine D.run 2 rfl ?_
        refine D.bind (l196_15_ok (by decide) (fun q1 e2 he2 e3 he3 => ?_) 100000 _ _ _  (by first | rfl | assumption) (by first | rfl | assumption))
        refine D.run 6 rfl ?_
        have Kj53 : ∀ (q4 : Int32), Dq ((l196_58 3 b2 b3 q1 100000 q4 0 I0).bind fun q6 => if q6 = 0 then l196_4 3 n (b2 + 1) (b3 + (q1 + 1)) I0 else some (.inr b2)) T → Rn E 196 (53, [.ref 82, .retAddr (10 + 3), .int b2, .int b3, .int q1, e2, e3], [.int q4], wT I0 R) o w := by
          intro q4
          refine D.run 3 rfl ?_
          refine D.bind (l196_58_ok (by decide) (fun q6 e7 he7 => ?_) 100000 _ _   )
          refine D.run 1 rfl ?_
          refine D.br rfl (by decide) rfl (fun hc => ?_) (fun hc => ?_)
          · refine D.run 8 rfl ?_
            exact ih _ _ _ _ _  (by first | rfl | assumption) (by first | rfl | assumption) (by first | rfl | assumption)
          · refine D.run 1 rfl ?_
            exact fun h => by obtain ⟨rfl, rfl⟩ := hT _ (D.some h); exact Rn.ret rfl rfl rfl
        refine D.bind ?_
        refine D.br rfl (by decide) rfl (fun hc => ?_) (fun hc => ?_)
        · refine D.run 2 rfl ?_
          exact fun h => D.to h (Kj53 _  )
        · refine D.run 1 rfl ?_
          exact fun h => D.to h (Kj53 _  )
  · intro n
    induction n with
    | zero => intro b2 b3 d4 d5 d6 hd4 hd5 hd6; exact D.none
    | succ n ih =>
      intro b2 b3 d4 d5 d6 hd4 hd5 hd6
      rw [l196_4]
      refine D.run 2 rfl ?_
      refine D.ce rfl rfl rfl rfl (slen_ok (by decide)) ?_
      refine D.br rfl (by decide) rfl (fun hc => ?_) (fun hc => ?_)
      · exact fun h => D.to h (K _ _ (by first | rfl | assumption) _ (by first | rfl | assumption) _ (by first | rfl | assumption) _ (by first | rfl | assumption) _ (by first | rfl | assumption))
      · refine D.run 2 rfl ?_
        refine D.bind (l196_15_ok (by decide) (fun q1 e2 he2 e3 he3 => ?_) 100000 _ _ _  (by first | rfl | assumption) (by first | rfl | assumption))
        refine D.run 6 rfl ?_
        have Kj53 : ∀ (q4 : Int32), Dq ((l196_58 4 b2 b3 q1 100000 q4 0 I0).bind fun q6 => if q6 = 0 then l196_4 4 n (b2 + 1) (b3 + (q1 + 1)) I0 else some (.inr b2)) T → Rn E 196 (53, [.ref 82, .retAddr (10 + 4), .int b2, .int b3, .int q1, e2, e3], [.int q4], wT I0 R) o w := by
          intro q4
          refine D.run 3 rfl ?_
          refine D.bind (l196_58_ok (by decide) (fun q6 e7 he7 => ?_) 100000 _ _   )
          refine D.run 1 rfl ?_
          refine D.br rfl (by decide) rfl (fun hc => ?_) (fun hc => ?_)
          · refine D.run 8 rfl ?_
            exact ih _ _ _ _ _  (by first | rfl | assumption) (by first | rfl | assumption) (by first | rfl | assumption)
          · refine D.run 1 rfl ?_
            exact fun h => by obtain ⟨rfl, rfl⟩ := hT _ (D.some h); exact Rn.ret rfl rfl rfl
        refine D.bind ?_
        refine D.br rfl (by decide) rfl (fun hc => ?_) (fun hc => ?_)
        · refine D.run 2 rfl ?_
          exact fun h => D.to h (Kj53 _  )
        · refine D.run 1 rfl ?_
          exact fun h => D.to h (Kj53 _  )
def x196 (t : Nat) (I : St) : Option (Int32) := (l196_4 t 100000 0 0 I).bind (Sum.elim (fun q8 => some (-1)) (fun r => some r))
set_option maxRecDepth 20000 in
theorem x196_D {E : Xe} {R : Nat → Nat → Option Nat} {t : Nat} {o : Outcome} {w : Wd} {T : (Int32) → Prop} {I : St} (ht : t = 3 ∨ t = 4) (hT : ∀ r, T r → o = .returned (some (.int r)) ∧ w = wT I R) : Dq (x196 t I) T → Rn E 196 (0, loc0 196 [.ref 82, .retAddr (10 + t)], [], wT I R) o w := by
  unfold x196
  rcases ht with rfl | rfl
  all_goals
    refine D.run 4 rfl ?_
    refine D.bind (l196_4_ok (by decide) (fun r h => hT _ (D.some h)) (fun q8 e9 he9 e10 he10 e11 he11 e12 he12 e13 he13 => ?_) 100000 _ _ _ _ _  (by first | rfl | assumption) (by first | rfl | assumption) (by first | rfl | assumption))
    refine D.inl ?_
    refine D.run 1 rfl ?_
    exact fun h => by obtain ⟨rfl, rfl⟩ := hT _ (D.some h); exact Rn.ret rfl rfl rfl
set_option maxRecDepth 20000 in
theorem x196_ok {E : Xe} {R : Nat → Nat → Option Nat} {t : Nat} {I : St} (ht : t = 3 ∨ t = 4) {q : Int32} (h : x196 t I = some q) : Rn E 196 (0, loc0 196 [.ref 82, .retAddr (10 + t)], [], wT I R) (.returned (some (.int q))) (wT I R) := x196_D ht (T := fun r => r = q) (by rintro r rfl; exact ⟨rfl, rfl⟩) ⟨_, h, rfl⟩
/-- TaintHouseModel.wordIn(Ljava/lang/String;)I -/
def x200 (t : Nat) (I : St) : Option (Int32 × St) := (x196 t (up2 I 82 11 (I 82 14))).bind fun q1 => some (q1, (up2 (up2 I 82 11 (I 82 14)) 82 11 (I 82 11)))
set_option maxRecDepth 20000 in
theorem x200_D {E : Xe} {R : Nat → Nat → Option Nat} {t : Nat} {o : Outcome} {w : Wd} {T : (Int32 × St) → Prop} {I : St} (ht : t = 3 ∨ t = 4) (hT : ∀ r, T r → o = .returned (some (.int r.1)) ∧ w = wT r.2 R) : Dq (x200 t I) T → Rn E 200 (0, loc0 200 [.ref 82, .retAddr (10 + t)], [], wT I R) o w := by
  unfold x200
  rcases ht with rfl | rfl
  all_goals
    refine D.run 9 rfl ?_
    refine D.call rfl rfl rfl rfl (fun q h => x196_ok (by decide) h) (fun q1 => ?_)
    refine D.run 5 rfl ?_
    exact fun h => by obtain ⟨rfl, rfl⟩ := hT _ (D.some h); exact Rn.ret rfl rfl rfl
set_option maxRecDepth 20000 in
theorem x200_ok {E : Xe} {R : Nat → Nat → Option Nat} {t : Nat} {I : St} (ht : t = 3 ∨ t = 4) {q : Int32 × St} (h : x200 t I = some q) : Rn E 200 (0, loc0 200 [.ref 82, .retAddr (10 + t)], [], wT I R) (.returned (some (.int q.1))) (wT q.2 R) := x200_D ht (T := fun r => r = q) (by rintro r rfl; exact ⟨rfl, rfl⟩) ⟨_, h, rfl⟩
/-- TaintHouseModel.nameOf()I -/
def l202_42 (Z : Nat) (b1 : Int32) : Nat → Int32 → Int32 → St → Option (Int32)
  | 0, _, _, _ => none
  | n + 1, b2, b3, I => if ((I 82 14) - (I 82 13)) ≤ b3 then some b2 else if b2 = 0 then some b2 else if inb b1 2000 then if inb ((I (Z + 2) b1.toNatClampNeg) + b3) 4100 then if inb ((I 82 13) + b3) 4000 then if (I (Z + 1) ((I (Z + 2) b1.toNatClampNeg) + b3).toNatClampNeg) = (I 83 ((I 82 13) + b3).toNatClampNeg) then l202_42 Z b1 n 1 (b3 + 1) I else l202_42 Z b1 n 0 (b3 + 1) I else none else none else none
set_option maxRecDepth 20000 in
theorem l202_42_ok {E : Xe} {R : Nat → Nat → Option Nat} {Z : Nat} {I0 : St} {o : Outcome} {w : Wd} {T : (Int32) → Prop} {b1 : Int32} (hZ : Z = 85 ∨ Z = 126) (h82_4 : R 82 4 = some Z) (K : ∀ (q : Int32) (e3 : Value) (_ : is1 e3 = true), T q → Rn E 202 (104, [.ref 82, .int b1, .int q, e3], [], wT I0 R) o w) : ∀ (n : Nat) (b2 : Int32) (b3 : Int32), Dq (l202_42 Z b1 n b2 b3 I0) T → Rn E 202 (42, [.ref 82, .int b1, .int b2, .int b3], [], wT I0 R) o w := by
  rcases hZ with rfl | rfl
  all_goals
    intro n
    induction n with
    | zero => intro b2 b3; exact D.none
    | succ n ih =>
      intro b2 b3
      rw [l202_42]
      refine D.run 6 rfl ?_
      refine D.br rfl (by decide) rfl (fun hc => ?_) (fun hc => ?_)
      · exact fun h => D.to h (K _ _ (by first | rfl | assumption))
      · refine D.run 1 rfl ?_
        refine D.br rfl (by decide) rfl (fun hc => ?_) (fun hc => ?_)
        · exact fun h => D.to h (K _ _ (by first | rfl | assumption))
        · refine D.run 1 rfl ?_
          refine D.st rfl (by decide) (gf_1 h82_4) ?_
          refine D.run 2 rfl ?_
          refine D.st rfl (by decide) (gf_1 h82_4) ?_
          refine D.run 2 rfl ?_
          refine D.gd fun hg => ?_
          refine D.st rfl (by decide) (al_i (by decide) (by first | rfl | decide) hg.1 hg.2) ?_
          refine D.run 2 rfl ?_
          refine D.gd fun hg => ?_
          refine D.st rfl (by decide) (al_b (by decide) (by first | rfl | decide) hg.1 hg.2) ?_
          refine D.run 6 rfl ?_
          refine D.gd fun hg => ?_
          refine D.st rfl (by decide) (al_b (by decide) (by first | rfl | decide) hg.1 hg.2) ?_
          refine D.br rfl (by decide) rfl (fun hc => ?_) (fun hc => ?_)
          · refine D.run 5 rfl ?_
            exact ih _ _  
          · refine D.run 4 rfl ?_
            exact ih _ _  
def l202_2 (Z : Nat) : Nat → Int32 → St → Option ((Unit) ⊕ (Int32 × St))
  | 0, _, _ => none
  | n + 1, b1, I => if (I Z 3) ≤ b1 then some (.inl ()) else if inb b1 2000 then (if (I (Z + 3) b1.toNatClampNeg) = ((I 82 14) - (I 82 13)) then some 1 else some 0).bind fun (q1 : Int32) => (l202_42 Z b1 100000 q1 0 I).bind fun q2 => if q2 = 0 then l202_2 Z n (b1 + 1) I else some (.inr (b1, I)) else none
set_option maxRecDepth 20000 in
theorem l202_2_ok {E : Xe} {R : Nat → Nat → Option Nat} {Z : Nat} {I0 : St} {o : Outcome} {w : Wd} {T : ((Unit) ⊕ (Int32 × St)) → Prop} (hZ : Z = 85 ∨ Z = 126) (h82_4 : R 82 4 = some Z) (hT : ∀ r, T (.inr r) → o = .returned (some (.int r.1)) ∧ w = wT r.2 R) (K : ∀ (q : Unit) (e1 : Value) (_ : is1 e1 = true) (e2 : Value) (_ : is1 e2 = true) (e3 : Value) (_ : is1 e3 = true), T (.inl q) → Rn E 202 (116, [.ref 82, e1, e2, e3], [], wT I0 R) o w) : ∀ (n : Nat) (b1 : Int32) (d2 : Value) (d3 : Value), is1 d2 = true → is1 d3 = true → Dq (l202_2 Z n b1 I0) T → Rn E 202 (2, [.ref 82, .int b1, d2, d3], [], wT I0 R) o w := by
  rcases hZ with rfl | rfl
  · intro n
    induction n with
    | zero => intro b1 d2 d3 hd2 hd3; exact D.none
    | succ n ih =>
      intro b1 d2 d3 hd2 hd3
      rw [l202_2]
      refine D.run 2 rfl ?_
      refine D.st rfl (by decide) (gf_1 h82_4) ?_
      refine D.run 1 rfl ?_
      refine D.br rfl (by decide) rfl (fun hc => ?_) (fun hc => ?_)
      · exact fun h => D.to h (K _ _ (by first | rfl | assumption) _ (by first | rfl | assumption) _ (by first | rfl | assumption))
      · refine D.run 1 rfl ?_
        refine D.st rfl (by decide) (gf_1 h82_4) ?_
        refine D.run 2 rfl ?_
        refine D.gd fun hg => ?_
        refine D.st rfl (by decide) (al_i (by decide) (by first | rfl | decide) hg.1 hg.2) ?_
        refine D.run 5 rfl ?_
        have Kj39 : ∀ (q1 : Int32), Dq ((l202_42 85 b1 100000 q1 0 I0).bind fun q2 => if q2 = 0 then l202_2 85 n (b1 + 1) I0 else some (.inr (b1, I0))) T → Rn E 202 (39, [.ref 82, .int b1, d2, d3], [.int q1], wT I0 R) o w := by
          intro q1
          refine D.run 3 rfl ?_
          refine D.bind (l202_42_ok (by decide) h82_4 (fun q2 e3 he3 => ?_) 100000 _ _   )
          refine D.run 1 rfl ?_
          refine D.br rfl (by decide) rfl (fun hc => ?_) (fun hc => ?_)
          · refine D.run 2 rfl ?_
            exact ih _ _ _  (by first | rfl | assumption) (by first | rfl | assumption)
          · refine D.run 1 rfl ?_
            exact fun h => by obtain ⟨rfl, rfl⟩ := hT _ (D.some h); exact Rn.ret rfl rfl rfl
        refine D.bind ?_
        refine D.br rfl (by decide) rfl (fun hc => ?_) (fun hc => ?_)
        · refine D.run 2 rfl ?_
          exact fun h => D.to h (Kj39 _  )
        · refine D.run 1 rfl ?_
          exact fun h => D.to h (Kj39 _  )
  · intro n
    induction n with
    | zero => intro b1 d2 d3 hd2 hd3; exact D.none
    | succ n ih =>
      intro b1 d2 d3 hd2 hd3
      rw [l202_2]
      refine D.run 2 rfl ?_
      refine D.st rfl (by decide) (gf_1 h82_4) ?_
      refine D.run 1 rfl ?_
      refine D.br rfl (by decide) rfl (fun hc => ?_) (fun hc => ?_)
      · exact fun h => D.to h (K _ _ (by first | rfl | assumption) _ (by first | rfl | assumption) _ (by first | rfl | assumption))
      · refine D.run 1 rfl ?_
        refine D.st rfl (by decide) (gf_1 h82_4) ?_
        refine D.run 2 rfl ?_
        refine D.gd fun hg => ?_
        refine D.st rfl (by decide) (al_i (by decide) (by first | rfl | decide) hg.1 hg.2) ?_
        refine D.run 5 rfl ?_
        have Kj39 : ∀ (q1 : Int32), Dq ((l202_42 126 b1 100000 q1 0 I0).bind fun q2 => if q2 = 0 then l202_2 126 n (b1 + 1) I0 else some (.inr (b1, I0))) T → Rn E 202 (39, [.ref 82, .int b1, d2, d3], [.int q1], wT I0 R) o w := by
          intro q1
          refine D.run 3 rfl ?_
          refine D.bind (l202_42_ok (by decide) h82_4 (fun q2 e3 he3 => ?_) 100000 _ _   )
          refine D.run 1 rfl ?_
          refine D.br rfl (by decide) rfl (fun hc => ?_) (fun hc => ?_)
          · refine D.run 2 rfl ?_
            exact ih _ _ _  (by first | rfl | assumption) (by first | rfl | assumption)
          · refine D.run 1 rfl ?_
            exact fun h => by obtain ⟨rfl, rfl⟩ := hT _ (D.some h); exact Rn.ret rfl rfl rfl
        refine D.bind ?_
        refine D.br rfl (by decide) rfl (fun hc => ?_) (fun hc => ?_)
        · refine D.run 2 rfl ?_
          exact fun h => D.to h (Kj39 _  )
        · refine D.run 1 rfl ?_
          exact fun h => D.to h (Kj39 _  )
def l202_176 (Z : Nat) (b1 : Int32) : Nat → Int32 → St → Option (St)
  | 0, _, _ => none
  | n + 1, b2, I => if (I 82 14) ≤ b2 then some I else if inb b2 4000 then if inb (I Z 4) 4100 then Lt (up2 (up2 I (Z + 1) (I Z 4).toNatClampNeg (vp_nar .byte (I 83 b2.toNatClampNeg))) Z 4 (((up2 I (Z + 1) (I Z 4).toNatClampNeg (vp_nar .byte (I 83 b2.toNatClampNeg))) Z 4) + 1)) fun J10 => l202_176 Z b1 n (b2 + 1) J10 else none else none
set_option maxRecDepth 20000 in
theorem l202_176_ok {E : Xe} {R : Nat → Nat → Option Nat} {Z : Nat} {o : Outcome} {w : Wd} {T : (St) → Prop} {b1 : Int32} (hZ : Z = 85 ∨ Z = 126) (h82_4 : R 82 4 = some Z) (K : ∀ (q : St) (e2 : Value) (_ : is1 e2 = true) (e3 : Value) (_ : is1 e3 = true), T q → Rn E 202 (224, [.ref 82, .int b1, e2, e3], [], wT q R) o w) : ∀ (n : Nat) (b2 : Int32) (d3 : Value) (I : St), is1 d3 = true → Dq (l202_176 Z b1 n b2 I) T → Rn E 202 (176, [.ref 82, .int b1, .int b2, d3], [], wT I R) o w := by
  rcases hZ with rfl | rfl
  all_goals
    intro n
    induction n with
    | zero => intro b2 d3 I hd3; exact D.none
    | succ n ih =>
      intro b2 d3 I hd3
      rw [l202_176]
      refine D.run 3 rfl ?_
      refine D.br rfl (by decide) rfl (fun hc => ?_) (fun hc => ?_)
      · exact fun h => D.to h (K _ _ (by first | rfl | assumption) _ (by first | rfl | assumption))
      · refine D.run 1 rfl ?_
        refine D.st rfl (by decide) (gf_1 h82_4) ?_
        refine D.run 2 rfl ?_
        refine D.st rfl (by decide) (gf_1 h82_4) ?_
        refine D.run 4 rfl ?_
        refine D.gd fun hg => ?_
        refine D.st rfl (by decide) (al_b (by decide) (by first | rfl | decide) hg.1 hg.2) ?_
        refine D.gd fun hg => ?_
        refine D.st rfl (by decide) (as_b (by decide) (by first | rfl | decide) hg.1 hg.2) ?_
        refine D.run 1 rfl ?_
        refine D.st rfl (by decide) (gf_1 h82_4) ?_
        refine D.run 5 rfl ?_
        refine D.letS (fun J10 => ?_)
        refine D.run 2 rfl ?_
        exact ih _ _ _ (by first | rfl | assumption)
def x202 (Z : Nat) (I : St) : Option (Int32 × St) := (l202_2 Z 100000 0 I).bind (Sum.elim (fun q4 => if inb (I Z 3) 2000 then Lt (up2 (up2 I Z 3 ((I Z 3) + 1)) (Z + 2) (I Z 3).toNatClampNeg ((up2 I Z 3 ((I Z 3) + 1)) Z 4)) fun J8 => if inb (I Z 3) 2000 then Lt ((up2 J8 (Z + 3) (I Z 3).toNatClampNeg ((J8 82 14) - (J8 82 13))) 82 13) fun v9 => (l202_176 Z (I Z 3) 100000 v9 (up2 J8 (Z + 3) (I Z 3).toNatClampNeg ((J8 82 14) - (J8 82 13)))).bind fun q11 => some ((I Z 3), q11) else none else none) (fun r => some r))
set_option maxRecDepth 20000 in
theorem x202_D {E : Xe} {R : Nat → Nat → Option Nat} {Z : Nat} {o : Outcome} {w : Wd} {T : (Int32 × St) → Prop} {I : St} (hZ : Z = 85 ∨ Z = 126) (h82_4 : R 82 4 = some Z) (hT : ∀ r, T r → o = .returned (some (.int r.1)) ∧ w = wT r.2 R) : Dq (x202 Z I) T → Rn E 202 (0, loc0 202 [.ref 82], [], wT I R) o w := by
  unfold x202
  rcases hZ with rfl | rfl
  all_goals
    refine D.run 2 rfl ?_
    refine D.bind (l202_2_ok (by decide) h82_4 (fun r h => hT _ (D.some h)) (fun q4 e5 he5 e6 he6 e7 he7 => ?_) 100000 _ _ _  (by first | rfl | assumption) (by first | rfl | assumption))
    refine D.inl ?_
    refine D.run 1 rfl ?_
    refine D.st rfl (by decide) (gf_1 h82_4) ?_
    refine D.run 3 rfl ?_
    refine D.st rfl (by decide) (gf_1 h82_4) ?_
    refine D.run 6 rfl ?_
    refine D.st rfl (by decide) (gf_1 h82_4) ?_
    refine D.run 3 rfl ?_
    refine D.st rfl (by decide) (gf_1 h82_4) ?_
    refine D.run 1 rfl ?_
    refine D.gd fun hg => ?_
    refine D.st rfl (by decide) (as_i (by decide) (by first | rfl | decide) hg.1 hg.2) ?_
    refine D.letS (fun J8 => ?_)
    refine D.run 1 rfl ?_
    refine D.st rfl (by decide) (gf_1 h82_4) ?_
    refine D.run 7 rfl ?_
    refine D.gd fun hg => ?_
    refine D.st rfl (by decide) (as_i (by decide) (by first | rfl | decide) hg.1 hg.2) ?_
    refine D.run 2 rfl ?_
    refine D.lett ?_
    refine D.run 1 rfl ?_
    refine D.bind (l202_176_ok (by decide) h82_4 (fun q11 e12 he12 e13 he13 => ?_) 100000 _ _ _ (by first | rfl | assumption))
    refine D.run 1 rfl ?_
    exact fun h => by obtain ⟨rfl, rfl⟩ := hT _ (D.some h); exact Rn.ret rfl rfl rfl
set_option maxRecDepth 20000 in
theorem x202_ok {E : Xe} {R : Nat → Nat → Option Nat} {Z : Nat} {I : St} (hZ : Z = 85 ∨ Z = 126) (h82_4 : R 82 4 = some Z) {q : Int32 × St} (h : x202 Z I = some q) : Rn E 202 (0, loc0 202 [.ref 82], [], wT I R) (.returned (some (.int q.1))) (wT q.2 R) := x202_D hZ h82_4 (T := fun r => r = q) (by rintro r rfl; exact ⟨rfl, rfl⟩) ⟨_, h, rfl⟩
/-- TaintHouseModel.is(I)Z -/
def x203 (I : St) (a1 : Int32) : Option (Int32) := if (I 82 12) = 3 then (x193 I (I 82 13)).bind fun q1 => if q1 = a1 then some 1 else some 0 else some 0
set_option maxRecDepth 20000 in
theorem x203_D {E : Xe} {R : Nat → Nat → Option Nat} {o : Outcome} {w : Wd} {T : (Int32) → Prop} {I : St} (a1 : Int32) (hT : ∀ r, T r → o = .returned (some (.int r)) ∧ w = wT I R) : Dq (x203 I a1) T → Rn E 203 (0, loc0 203 [.ref 82, .int a1], [], wT I R) o w := by
  unfold x203
  refine D.run 3 rfl ?_
  refine D.br rfl (by decide) rfl (fun hc => ?_) (fun hc => ?_)
  · refine D.run 3 rfl ?_
    refine D.call rfl rfl rfl rfl (fun q h => x193_ok h) (fun q1 => ?_)
    refine D.run 1 rfl ?_
    refine D.br rfl (by decide) rfl (fun hc => ?_) (fun hc => ?_)
    · refine D.run 2 rfl ?_
      exact fun h => by obtain ⟨rfl, rfl⟩ := hT _ (D.some h); exact Rn.ret rfl rfl (by first | rfl | (simp [rt1, rt]; done) | decide)
    · refine D.run 1 rfl ?_
      exact fun h => by obtain ⟨rfl, rfl⟩ := hT _ (D.some h); exact Rn.ret rfl rfl (by first | rfl | (simp [rt1, rt]; done) | decide)
  · refine D.run 1 rfl ?_
    exact fun h => by obtain ⟨rfl, rfl⟩ := hT _ (D.some h); exact Rn.ret rfl rfl (by first | rfl | (simp [rt1, rt]; done) | decide)
set_option maxRecDepth 20000 in
theorem x203_ok {E : Xe} {R : Nat → Nat → Option Nat} {I : St} {a1 : Int32} {q : Int32} (h : x203 I a1 = some q) : Rn E 203 (0, loc0 203 [.ref 82, .int a1], [], wT I R) (.returned (some (.int q))) (wT I R) := x203_D  _ (T := fun r => r = q) (by rintro r rfl; exact ⟨rfl, rfl⟩) ⟨_, h, rfl⟩
/-- TaintHouseModel.member(III)V -/
def x206 (I : St) (a1 a2 a3 : Int32) : Option (St) := if inb (I 82 20) 1300 then if inb (I 82 20) 1300 then if inb (I 82 20) 1300 then Lt (up2 (up2 (up2 I 171 (I 82 20).toNatClampNeg a1) 172 (I 82 20).toNatClampNeg a2) 173 (I 82 20).toNatClampNeg a3) fun J1 => some (up2 J1 82 20 ((J1 82 20) + 1)) else none else none else none
set_option maxRecDepth 20000 in
theorem x206_D {E : Xe} {R : Nat → Nat → Option Nat} {o : Outcome} {w : Wd} {T : (St) → Prop} {I : St} (a1 a2 a3 : Int32) (hT : ∀ r, T r → o = .returned none ∧ w = wT r R) : Dq (x206 I a1 a2 a3) T → Rn E 206 (0, loc0 206 [.ref 82, .int a1, .int a2, .int a3], [], wT I R) o w := by
  unfold x206
  refine D.run 5 rfl ?_
  refine D.gd fun hg => ?_
  refine D.st rfl (by decide) (as_i (by decide) (by first | rfl | decide) hg.1 hg.2) ?_
  refine D.run 5 rfl ?_
  refine D.gd fun hg => ?_
  refine D.st rfl (by decide) (as_i (by decide) (by first | rfl | decide) hg.1 hg.2) ?_
  refine D.run 5 rfl ?_
  refine D.gd fun hg => ?_
  refine D.st rfl (by decide) (as_i (by decide) (by first | rfl | decide) hg.1 hg.2) ?_
  refine D.letS (fun J1 => ?_)
  refine D.run 6 rfl ?_
  exact fun h => by obtain ⟨rfl, rfl⟩ := hT _ (D.some h); exact Rn.ret rfl rfl rfl
set_option maxRecDepth 20000 in
theorem x206_ok {E : Xe} {R : Nat → Nat → Option Nat} {I : St} {a1 a2 a3 : Int32} {q : St} (h : x206 I a1 a2 a3 = some q) : Rn E 206 (0, loc0 206 [.ref 82, .int a1, .int a2, .int a3], [], wT I R) (.returned none) (wT q R) := x206_D  _ _ _ (T := fun r => r = q) (by rintro r rfl; exact ⟨rfl, rfl⟩) ⟨_, h, rfl⟩
/-- TaintHouseModel.classOf(II)I -/
def l216_2 (Z : Nat) (b1 : Int32) (b2 : Int32) : Nat → Int32 → St → Option ((Unit) ⊕ (Int32))
  | 0, _, _ => none
  | n + 1, b3, I => if b2 ≤ b3 then some (.inl ()) else if inb b3 19 then if (I (Z + 4) b3.toNatClampNeg) = b1 then some (.inr b3) else l216_2 Z b1 b2 n (b3 + 1) I else none
set_option maxRecDepth 20000 in
theorem l216_2_ok {E : Xe} {R : Nat → Nat → Option Nat} {Z : Nat} {I0 : St} {o : Outcome} {w : Wd} {T : ((Unit) ⊕ (Int32)) → Prop} {b1 : Int32} {b2 : Int32} (hZ : Z = 85 ∨ Z = 126) (h82_4 : R 82 4 = some Z) (hT : ∀ r, T (.inr r) → o = .returned (some (.int r)) ∧ w = wT I0 R) (K : ∀ (q : Unit) (e1 : Value) (_ : is1 e1 = true) (e2 : Value) (_ : is1 e2 = true) (e3 : Value) (_ : is1 e3 = true), T (.inl q) → Rn E 216 (28, [.ref 82, e1, e2, e3], [], wT I0 R) o w) : ∀ (n : Nat) (b3 : Int32), Dq (l216_2 Z b1 b2 n b3 I0) T → Rn E 216 (2, [.ref 82, .int b1, .int b2, .int b3], [], wT I0 R) o w := by
  rcases hZ with rfl | rfl
  all_goals
    intro n
    induction n with
    | zero => intro b3; exact D.none
    | succ n ih =>
      intro b3
      rw [l216_2]
      refine D.run 2 rfl ?_
      refine D.br rfl (by decide) rfl (fun hc => ?_) (fun hc => ?_)
      · exact fun h => D.to h (K _ _ (by first | rfl | assumption) _ (by first | rfl | assumption) _ (by first | rfl | assumption))
      · refine D.run 1 rfl ?_
        refine D.st rfl (by decide) (gf_1 h82_4) ?_
        refine D.run 2 rfl ?_
        refine D.gd fun hg => ?_
        refine D.st rfl (by decide) (al_i (by decide) (by first | rfl | decide) hg.1 hg.2) ?_
        refine D.run 1 rfl ?_
        refine D.br rfl (by decide) rfl (fun hc => ?_) (fun hc => ?_)
        · refine D.run 1 rfl ?_
          exact fun h => by obtain ⟨rfl, rfl⟩ := hT _ (D.some h); exact Rn.ret rfl rfl rfl
        · refine D.run 2 rfl ?_
          exact ih _  
def x216 (Z : Nat) (I : St) (a1 a2 : Int32) : Option (Int32) := (l216_2 Z a1 a2 100000 0 I).bind (Sum.elim (fun q1 => some (-1)) (fun r => some r))
set_option maxRecDepth 20000 in
theorem x216_D {E : Xe} {R : Nat → Nat → Option Nat} {Z : Nat} {o : Outcome} {w : Wd} {T : (Int32) → Prop} {I : St} (hZ : Z = 85 ∨ Z = 126) (h82_4 : R 82 4 = some Z) (a1 a2 : Int32) (hT : ∀ r, T r → o = .returned (some (.int r)) ∧ w = wT I R) : Dq (x216 Z I a1 a2) T → Rn E 216 (0, loc0 216 [.ref 82, .int a1, .int a2], [], wT I R) o w := by
  unfold x216
  rcases hZ with rfl | rfl
  all_goals
    refine D.run 2 rfl ?_
    refine D.bind (l216_2_ok (by decide) h82_4 (fun r h => hT _ (D.some h)) (fun q1 e2 he2 e3 he3 e4 he4 => ?_) 100000 _   )
    refine D.inl ?_
    refine D.run 1 rfl ?_
    exact fun h => by obtain ⟨rfl, rfl⟩ := hT _ (D.some h); exact Rn.ret rfl rfl rfl
set_option maxRecDepth 20000 in
theorem x216_ok {E : Xe} {R : Nat → Nat → Option Nat} {Z : Nat} {I : St} (hZ : Z = 85 ∨ Z = 126) (h82_4 : R 82 4 = some Z) {a1 a2 : Int32} {q : Int32} (h : x216 Z I a1 a2 = some q) : Rn E 216 (0, loc0 216 [.ref 82, .int a1, .int a2], [], wT I R) (.returned (some (.int q))) (wT I R) := x216_D hZ h82_4 _ _ (T := fun r => r = q) (by rintro r rfl; exact ⟨rfl, rfl⟩) ⟨_, h, rfl⟩
/-- TaintHouseModel.note(II)V -/
def x217 (I : St) (a1 a2 : Int32) : Option (St) := if a2 < (I 82 5) then some (up2 (up2 I 82 22 a1) 82 5 a2) else if a2 = (I 82 5) then if (I 82 22) ≤ a1 then some I else some (up2 (up2 I 82 22 a1) 82 5 a2) else some I
set_option maxRecDepth 20000 in
theorem x217_D {E : Xe} {R : Nat → Nat → Option Nat} {o : Outcome} {w : Wd} {T : (St) → Prop} {I : St} (a1 a2 : Int32) (hT : ∀ r, T r → o = .returned none ∧ w = wT r R) : Dq (x217 I a1 a2) T → Rn E 217 (0, loc0 217 [.ref 82, .int a1, .int a2], [], wT I R) o w := by
  unfold x217
  refine D.run 3 rfl ?_
  refine D.br rfl (by decide) rfl (fun hc => ?_) (fun hc => ?_)
  · refine D.run 6 rfl ?_
    exact fun h => by obtain ⟨rfl, rfl⟩ := hT _ (D.some h); exact Rn.ret rfl rfl rfl
  · refine D.run 3 rfl ?_
    refine D.br rfl (by decide) rfl (fun hc => ?_) (fun hc => ?_)
    · refine D.run 3 rfl ?_
      refine D.br rfl (by decide) rfl (fun hc => ?_) (fun hc => ?_)
      · exact fun h => by obtain ⟨rfl, rfl⟩ := hT _ (D.some h); exact Rn.ret rfl rfl rfl
      · refine D.run 6 rfl ?_
        exact fun h => by obtain ⟨rfl, rfl⟩ := hT _ (D.some h); exact Rn.ret rfl rfl rfl
    · exact fun h => by obtain ⟨rfl, rfl⟩ := hT _ (D.some h); exact Rn.ret rfl rfl rfl
set_option maxRecDepth 20000 in
theorem x217_ok {E : Xe} {R : Nat → Nat → Option Nat} {I : St} {a1 a2 : Int32} {q : St} (h : x217 I a1 a2 = some q) : Rn E 217 (0, loc0 217 [.ref 82, .int a1, .int a2], [], wT I R) (.returned none) (wT q R) := x217_D  _ _ (T := fun r => r = q) (by rintro r rfl; exact ⟨rfl, rfl⟩) ⟨_, h, rfl⟩
/-- TaintHouseModel.methodOf(LTaintHouseModel$Program;IIZ)I -/
def l219_12 (Q : Nat) (b2 : Int32) (b3 : Int32) (b4 : Int32) : Nat → Int32 → St → Option ((Unit) ⊕ (Int32))
  | 0, _, _ => none
  | n + 1, b5, I => if (I Q 8) ≤ b5 then some (.inl ()) else if inb b5 24 then if (I (Q + 15) b5.toNatClampNeg) = b4 then if inb b5 24 then if (I (Q + 16) b5.toNatClampNeg) = b2 then if inb b5 24 then if (I (Q + 25) b5.toNatClampNeg) = b3 then some (.inr b5) else l219_12 Q b2 b3 b4 n (b5 + 1) I else none else l219_12 Q b2 b3 b4 n (b5 + 1) I else none else l219_12 Q b2 b3 b4 n (b5 + 1) I else none
set_option maxRecDepth 20000 in
theorem l219_12_ok {E : Xe} {R : Nat → Nat → Option Nat} {Q : Nat} {I0 : St} {o : Outcome} {w : Wd} {T : ((Unit) ⊕ (Int32)) → Prop} {b2 : Int32} {b3 : Int32} {b4 : Int32} (hQ : Q = 85 ∨ Q = 126) (hT : ∀ r, T (.inr r) → o = .returned (some (.int r)) ∧ w = wT I0 R) (K : ∀ (q : Unit) (e1 : Value) (_ : is1 e1 = true) (e5 : Value) (_ : is1 e5 = true), T (.inl q) → Rn E 219 (64, [.ref Q, e1, .int b2, .int b3, .int b4, e5], [], wT I0 R) o w) : ∀ (n : Nat) (b5 : Int32) (d1 : Value), is1 d1 = true → Dq (l219_12 Q b2 b3 b4 n b5 I0) T → Rn E 219 (12, [.ref Q, d1, .int b2, .int b3, .int b4, .int b5], [], wT I0 R) o w := by
  rcases hQ with rfl | rfl
  all_goals
    intro n
    induction n with
    | zero => intro b5 d1 hd1; exact D.none
    | succ n ih =>
      intro b5 d1 hd1
      rw [l219_12]
      refine D.run 3 rfl ?_
      refine D.br rfl (by decide) rfl (fun hc => ?_) (fun hc => ?_)
      · exact fun h => D.to h (K _ _ (by first | rfl | assumption) _ (by first | rfl | assumption))
      · refine D.run 3 rfl ?_
        refine D.gd fun hg => ?_
        refine D.st rfl (by decide) (al_i (by decide) (by first | rfl | decide) hg.1 hg.2) ?_
        refine D.run 1 rfl ?_
        refine D.br rfl (by decide) rfl (fun hc => ?_) (fun hc => ?_)
        · refine D.run 3 rfl ?_
          refine D.gd fun hg => ?_
          refine D.st rfl (by decide) (al_i (by decide) (by first | rfl | decide) hg.1 hg.2) ?_
          refine D.run 1 rfl ?_
          refine D.br rfl (by decide) rfl (fun hc => ?_) (fun hc => ?_)
          · refine D.run 3 rfl ?_
            refine D.gd fun hg => ?_
            refine D.st rfl (by decide) (al_b (by decide) (by first | rfl | decide) hg.1 hg.2) ?_
            refine D.run 1 rfl ?_
            refine D.br rfl (by decide) rfl (fun hc => ?_) (fun hc => ?_)
            · refine D.run 1 rfl ?_
              exact fun h => by obtain ⟨rfl, rfl⟩ := hT _ (D.some h); exact Rn.ret rfl rfl rfl
            · refine D.run 2 rfl ?_
              exact ih _ _  (by first | rfl | assumption)
          · refine D.run 2 rfl ?_
            exact ih _ _  (by first | rfl | assumption)
        · refine D.run 2 rfl ?_
          exact ih _ _  (by first | rfl | assumption)
def l219_3 (Q : Nat) (b2 : Int32) (b3 : Int32) : Nat → Int32 → St → Option ((Unit) ⊕ (Int32))
  | 0, _, _ => none
  | n + 1, b4, I => if b4 = (-1) then some (.inl ()) else (l219_12 Q b2 b3 b4 100000 0 I).bind (Sum.elim (fun q1 => if inb b4 19 then l219_3 Q b2 b3 n (I (Q + 8) b4.toNatClampNeg) I else none) (fun r => some (.inr r)))
set_option maxRecDepth 20000 in
theorem l219_3_ok {E : Xe} {R : Nat → Nat → Option Nat} {Q : Nat} {I0 : St} {o : Outcome} {w : Wd} {T : ((Unit) ⊕ (Int32)) → Prop} {b2 : Int32} {b3 : Int32} (hQ : Q = 85 ∨ Q = 126) (hT : ∀ r, T (.inr r) → o = .returned (some (.int r)) ∧ w = wT I0 R) (K : ∀ (q : Unit) (e1 : Value) (_ : is1 e1 = true) (e2 : Value) (_ : is1 e2 = true) (e3 : Value) (_ : is1 e3 = true) (e4 : Value) (_ : is1 e4 = true) (e5 : Value) (_ : is1 e5 = true), T (.inl q) → Rn E 219 (76, [.ref Q, e1, e2, e3, e4, e5], [], wT I0 R) o w) : ∀ (n : Nat) (b4 : Int32) (d1 : Value) (d5 : Value), is1 d1 = true → is1 d5 = true → Dq (l219_3 Q b2 b3 n b4 I0) T → Rn E 219 (3, [.ref Q, d1, .int b2, .int b3, .int b4, d5], [], wT I0 R) o w := by
  rcases hQ with rfl | rfl
  all_goals
    intro n
    induction n with
    | zero => intro b4 d1 d5 hd1 hd5; exact D.none
    | succ n ih =>
      intro b4 d1 d5 hd1 hd5
      rw [l219_3]
      refine D.run 2 rfl ?_
      refine D.br rfl (by decide) rfl (fun hc => ?_) (fun hc => ?_)
      · exact fun h => D.to h (K _ _ (by first | rfl | assumption) _ (by first | rfl | assumption) _ (by first | rfl | assumption) _ (by first | rfl | assumption) _ (by first | rfl | assumption))
      · refine D.run 2 rfl ?_
        refine D.bind (l219_12_ok (by decide) (fun r h => hT _ (D.some h)) (fun q1 e2 he2 e3 he3 => ?_) 100000 _ _  (by first | rfl | assumption))
        refine D.inl ?_
        refine D.run 3 rfl ?_
        refine D.gd fun hg => ?_
        refine D.st rfl (by decide) (al_i (by decide) (by first | rfl | decide) hg.1 hg.2) ?_
        refine D.run 2 rfl ?_
        exact ih _ _ _  (by first | rfl | assumption) (by first | rfl | assumption)
def x219 (Q : Nat) (I : St) (a1 a2 a3 : Int32) : Option (Int32) := (l219_3 Q a2 a3 100000 a1 I).bind (Sum.elim (fun q4 => some (-1)) (fun r => some r))
set_option maxRecDepth 20000 in
theorem x219_D {E : Xe} {R : Nat → Nat → Option Nat} {Q : Nat} {o : Outcome} {w : Wd} {T : (Int32) → Prop} {I : St} (hQ : Q = 85 ∨ Q = 126) (a1 a2 a3 : Int32) (hT : ∀ r, T r → o = .returned (some (.int r)) ∧ w = wT I R) : Dq (x219 Q I a1 a2 a3) T → Rn E 219 (0, loc0 219 [.ref Q, .int a1, .int a2, .int a3], [], wT I R) o w := by
  unfold x219
  rcases hQ with rfl | rfl
  all_goals
    refine D.run 2 rfl ?_
    refine D.bind (l219_3_ok (by decide) (fun r h => hT _ (D.some h)) (fun q4 e5 he5 e6 he6 e7 he7 e8 he8 e9 he9 => ?_) 100000 _ _ _  (by first | rfl | assumption) (by first | rfl | assumption))
    refine D.inl ?_
    refine D.run 1 rfl ?_
    exact fun h => by obtain ⟨rfl, rfl⟩ := hT _ (D.some h); exact Rn.ret rfl rfl rfl
set_option maxRecDepth 20000 in
theorem x219_ok {E : Xe} {R : Nat → Nat → Option Nat} {Q : Nat} {I : St} (hQ : Q = 85 ∨ Q = 126) {a1 a2 a3 : Int32} {q : Int32} (h : x219 Q I a1 a2 a3 = some q) : Rn E 219 (0, loc0 219 [.ref Q, .int a1, .int a2, .int a3], [], wT I R) (.returned (some (.int q))) (wT I R) := x219_D hQ _ _ _ (T := fun r => r = q) (by rintro r rfl; exact ⟨rfl, rfl⟩) ⟨_, h, rfl⟩
/-- TaintHouseModel.labelOf(II)I -/
def l221_2 (Z : Nat) (b1 : Int32) (b2 : Int32) : Nat → Int32 → St → Option ((Unit) ⊕ (Int32))
  | 0, _, _ => none
  | n + 1, b3, I => if (I Z 10) ≤ b3 then some (.inl ()) else if inb b3 2000 then if (I (Z + 34) b3.toNatClampNeg) = b1 then if inb b3 2000 then if (I (Z + 35) b3.toNatClampNeg) = b2 then if inb b3 2000 then some (.inr (I (Z + 36) b3.toNatClampNeg)) else none else l221_2 Z b1 b2 n (b3 + 1) I else none else l221_2 Z b1 b2 n (b3 + 1) I else none
set_option maxRecDepth 20000 in
theorem l221_2_ok {E : Xe} {R : Nat → Nat → Option Nat} {Z : Nat} {I0 : St} {o : Outcome} {w : Wd} {T : ((Unit) ⊕ (Int32)) → Prop} {b1 : Int32} {b2 : Int32} (hZ : Z = 85 ∨ Z = 126) (h82_4 : R 82 4 = some Z) (hT : ∀ r, T (.inr r) → o = .returned (some (.int r)) ∧ w = wT I0 R) (K : ∀ (q : Unit) (e1 : Value) (_ : is1 e1 = true) (e2 : Value) (_ : is1 e2 = true) (e3 : Value) (_ : is1 e3 = true), T (.inl q) → Rn E 221 (55, [.ref 82, e1, e2, e3], [], wT I0 R) o w) : ∀ (n : Nat) (b3 : Int32), Dq (l221_2 Z b1 b2 n b3 I0) T → Rn E 221 (2, [.ref 82, .int b1, .int b2, .int b3], [], wT I0 R) o w := by
  rcases hZ with rfl | rfl
  all_goals
    intro n
    induction n with
    | zero => intro b3; exact D.none
    | succ n ih =>
      intro b3
      rw [l221_2]
      refine D.run 2 rfl ?_
      refine D.st rfl (by decide) (gf_1 h82_4) ?_
      refine D.run 1 rfl ?_
      refine D.br rfl (by decide) rfl (fun hc => ?_) (fun hc => ?_)
      · exact fun h => D.to h (K _ _ (by first | rfl | assumption) _ (by first | rfl | assumption) _ (by first | rfl | assumption))
      · refine D.run 1 rfl ?_
        refine D.st rfl (by decide) (gf_1 h82_4) ?_
        refine D.run 2 rfl ?_
        refine D.gd fun hg => ?_
        refine D.st rfl (by decide) (al_i (by decide) (by first | rfl | decide) hg.1 hg.2) ?_
        refine D.run 1 rfl ?_
        refine D.br rfl (by decide) rfl (fun hc => ?_) (fun hc => ?_)
        · refine D.run 1 rfl ?_
          refine D.st rfl (by decide) (gf_1 h82_4) ?_
          refine D.run 2 rfl ?_
          refine D.gd fun hg => ?_
          refine D.st rfl (by decide) (al_i (by decide) (by first | rfl | decide) hg.1 hg.2) ?_
          refine D.run 1 rfl ?_
          refine D.br rfl (by decide) rfl (fun hc => ?_) (fun hc => ?_)
          · refine D.run 1 rfl ?_
            refine D.st rfl (by decide) (gf_1 h82_4) ?_
            refine D.run 2 rfl ?_
            refine D.gd fun hg => ?_
            refine D.st rfl (by decide) (al_i (by decide) (by first | rfl | decide) hg.1 hg.2) ?_
            exact fun h => by obtain ⟨rfl, rfl⟩ := hT _ (D.some h); exact Rn.ret rfl rfl rfl
          · refine D.run 2 rfl ?_
            exact ih _  
        · refine D.run 2 rfl ?_
          exact ih _  
def x221 (Z : Nat) (I : St) (a1 a2 : Int32) : Option (Int32) := (l221_2 Z a1 a2 100000 0 I).bind (Sum.elim (fun q1 => some (-1)) (fun r => some r))
set_option maxRecDepth 20000 in
theorem x221_D {E : Xe} {R : Nat → Nat → Option Nat} {Z : Nat} {o : Outcome} {w : Wd} {T : (Int32) → Prop} {I : St} (hZ : Z = 85 ∨ Z = 126) (h82_4 : R 82 4 = some Z) (a1 a2 : Int32) (hT : ∀ r, T r → o = .returned (some (.int r)) ∧ w = wT I R) : Dq (x221 Z I a1 a2) T → Rn E 221 (0, loc0 221 [.ref 82, .int a1, .int a2], [], wT I R) o w := by
  unfold x221
  rcases hZ with rfl | rfl
  all_goals
    refine D.run 2 rfl ?_
    refine D.bind (l221_2_ok (by decide) h82_4 (fun r h => hT _ (D.some h)) (fun q1 e2 he2 e3 he3 e4 he4 => ?_) 100000 _   )
    refine D.inl ?_
    refine D.run 1 rfl ?_
    exact fun h => by obtain ⟨rfl, rfl⟩ := hT _ (D.some h); exact Rn.ret rfl rfl rfl
set_option maxRecDepth 20000 in
theorem x221_ok {E : Xe} {R : Nat → Nat → Option Nat} {Z : Nat} {I : St} (hZ : Z = 85 ∨ Z = 126) (h82_4 : R 82 4 = some Z) {a1 a2 : Int32} {q : Int32} (h : x221 Z I a1 a2 = some q) : Rn E 221 (0, loc0 221 [.ref 82, .int a1, .int a2], [], wT I R) (.returned (some (.int q))) (wT I R) := x221_D hZ h82_4 _ _ (T := fun r => r = q) (by rintro r rfl; exact ⟨rfl, rfl⟩) ⟨_, h, rfl⟩
/-- TaintHouseModel.fieldOf(II)I -/
def l222_10 (Z : Nat) (b2 : Int32) (b3 : Int32) : Nat → Int32 → St → Option ((Unit) ⊕ (Int32))
  | 0, _, _ => none
  | n + 1, b4, I => if (I Z 7) ≤ b4 then some (.inl ()) else if inb b4 100 then if (I (Z + 9) b4.toNatClampNeg) = b3 then if inb b4 100 then if (I (Z + 10) b4.toNatClampNeg) = b2 then some (.inr b4) else l222_10 Z b2 b3 n (b4 + 1) I else none else l222_10 Z b2 b3 n (b4 + 1) I else none
set_option maxRecDepth 20000 in
theorem l222_10_ok {E : Xe} {R : Nat → Nat → Option Nat} {Z : Nat} {I0 : St} {o : Outcome} {w : Wd} {T : ((Unit) ⊕ (Int32)) → Prop} {b2 : Int32} {b3 : Int32} (hZ : Z = 85 ∨ Z = 126) (h82_4 : R 82 4 = some Z) (hT : ∀ r, T (.inr r) → o = .returned (some (.int r)) ∧ w = wT I0 R) (K : ∀ (q : Unit) (e1 : Value) (_ : is1 e1 = true) (e4 : Value) (_ : is1 e4 = true), T (.inl q) → Rn E 222 (59, [.ref 82, e1, .int b2, .int b3, e4], [], wT I0 R) o w) : ∀ (n : Nat) (b4 : Int32) (d1 : Value), is1 d1 = true → Dq (l222_10 Z b2 b3 n b4 I0) T → Rn E 222 (10, [.ref 82, d1, .int b2, .int b3, .int b4], [], wT I0 R) o w := by
  rcases hZ with rfl | rfl
  all_goals
    intro n
    induction n with
    | zero => intro b4 d1 hd1; exact D.none
    | succ n ih =>
      intro b4 d1 hd1
      rw [l222_10]
      refine D.run 2 rfl ?_
      refine D.st rfl (by decide) (gf_1 h82_4) ?_
      refine D.run 1 rfl ?_
      refine D.br rfl (by decide) rfl (fun hc => ?_) (fun hc => ?_)
      · exact fun h => D.to h (K _ _ (by first | rfl | assumption) _ (by first | rfl | assumption))
      · refine D.run 1 rfl ?_
        refine D.st rfl (by decide) (gf_1 h82_4) ?_
        refine D.run 2 rfl ?_
        refine D.gd fun hg => ?_
        refine D.st rfl (by decide) (al_i (by decide) (by first | rfl | decide) hg.1 hg.2) ?_
        refine D.run 1 rfl ?_
        refine D.br rfl (by decide) rfl (fun hc => ?_) (fun hc => ?_)
        · refine D.run 1 rfl ?_
          refine D.st rfl (by decide) (gf_1 h82_4) ?_
          refine D.run 2 rfl ?_
          refine D.gd fun hg => ?_
          refine D.st rfl (by decide) (al_i (by decide) (by first | rfl | decide) hg.1 hg.2) ?_
          refine D.run 1 rfl ?_
          refine D.br rfl (by decide) rfl (fun hc => ?_) (fun hc => ?_)
          · refine D.run 1 rfl ?_
            exact fun h => by obtain ⟨rfl, rfl⟩ := hT _ (D.some h); exact Rn.ret rfl rfl rfl
          · refine D.run 2 rfl ?_
            exact ih _ _  (by first | rfl | assumption)
        · refine D.run 2 rfl ?_
          exact ih _ _  (by first | rfl | assumption)
def l222_2 (Z : Nat) (b2 : Int32) : Nat → Int32 → St → Option ((Unit) ⊕ (Int32))
  | 0, _, _ => none
  | n + 1, b3, I => if b3 = (-1) then some (.inl ()) else (l222_10 Z b2 b3 100000 0 I).bind (Sum.elim (fun q1 => if inb b3 19 then l222_2 Z b2 n (I (Z + 8) b3.toNatClampNeg) I else none) (fun r => some (.inr r)))
set_option maxRecDepth 20000 in
theorem l222_2_ok {E : Xe} {R : Nat → Nat → Option Nat} {Z : Nat} {I0 : St} {o : Outcome} {w : Wd} {T : ((Unit) ⊕ (Int32)) → Prop} {b2 : Int32} (hZ : Z = 85 ∨ Z = 126) (h82_4 : R 82 4 = some Z) (hT : ∀ r, T (.inr r) → o = .returned (some (.int r)) ∧ w = wT I0 R) (K : ∀ (q : Unit) (e1 : Value) (_ : is1 e1 = true) (e2 : Value) (_ : is1 e2 = true) (e3 : Value) (_ : is1 e3 = true) (e4 : Value) (_ : is1 e4 = true), T (.inl q) → Rn E 222 (72, [.ref 82, e1, e2, e3, e4], [], wT I0 R) o w) : ∀ (n : Nat) (b3 : Int32) (d1 : Value) (d4 : Value), is1 d1 = true → is1 d4 = true → Dq (l222_2 Z b2 n b3 I0) T → Rn E 222 (2, [.ref 82, d1, .int b2, .int b3, d4], [], wT I0 R) o w := by
  rcases hZ with rfl | rfl
  all_goals
    intro n
    induction n with
    | zero => intro b3 d1 d4 hd1 hd4; exact D.none
    | succ n ih =>
      intro b3 d1 d4 hd1 hd4
      rw [l222_2]
      refine D.run 2 rfl ?_
      refine D.br rfl (by decide) rfl (fun hc => ?_) (fun hc => ?_)
      · exact fun h => D.to h (K _ _ (by first | rfl | assumption) _ (by first | rfl | assumption) _ (by first | rfl | assumption) _ (by first | rfl | assumption))
      · refine D.run 2 rfl ?_
        refine D.bind (l222_10_ok (by decide) h82_4 (fun r h => hT _ (D.some h)) (fun q1 e2 he2 e3 he3 => ?_) 100000 _ _  (by first | rfl | assumption))
        refine D.inl ?_
        refine D.run 1 rfl ?_
        refine D.st rfl (by decide) (gf_1 h82_4) ?_
        refine D.run 2 rfl ?_
        refine D.gd fun hg => ?_
        refine D.st rfl (by decide) (al_i (by decide) (by first | rfl | decide) hg.1 hg.2) ?_
        refine D.run 2 rfl ?_
        exact ih _ _ _  (by first | rfl | assumption) (by first | rfl | assumption)
def x222 (Z : Nat) (I : St) (a1 a2 : Int32) : Option (Int32) := (l222_2 Z a2 100000 a1 I).bind (Sum.elim (fun q4 => some (-1)) (fun r => some r))
set_option maxRecDepth 20000 in
theorem x222_D {E : Xe} {R : Nat → Nat → Option Nat} {Z : Nat} {o : Outcome} {w : Wd} {T : (Int32) → Prop} {I : St} (hZ : Z = 85 ∨ Z = 126) (h82_4 : R 82 4 = some Z) (a1 a2 : Int32) (hT : ∀ r, T r → o = .returned (some (.int r)) ∧ w = wT I R) : Dq (x222 Z I a1 a2) T → Rn E 222 (0, loc0 222 [.ref 82, .int a1, .int a2], [], wT I R) o w := by
  unfold x222
  rcases hZ with rfl | rfl
  all_goals
    refine D.run 2 rfl ?_
    refine D.bind (l222_2_ok (by decide) h82_4 (fun r h => hT _ (D.some h)) (fun q4 e5 he5 e6 he6 e7 he7 e8 he8 => ?_) 100000 _ _ _  (by first | rfl | assumption) (by first | rfl | assumption))
    refine D.inl ?_
    refine D.run 1 rfl ?_
    exact fun h => by obtain ⟨rfl, rfl⟩ := hT _ (D.some h); exact Rn.ret rfl rfl rfl
set_option maxRecDepth 20000 in
theorem x222_ok {E : Xe} {R : Nat → Nat → Option Nat} {Z : Nat} {I : St} (hZ : Z = 85 ∨ Z = 126) (h82_4 : R 82 4 = some Z) {a1 a2 : Int32} {q : Int32} (h : x222 Z I a1 a2 = some q) : Rn E 222 (0, loc0 222 [.ref 82, .int a1, .int a2], [], wT I R) (.returned (some (.int q))) (wT I R) := x222_D hZ h82_4 _ _ (T := fun r => r = q) (by rintro r rfl; exact ⟨rfl, rfl⟩) ⟨_, h, rfl⟩
/-- TaintHouseModel.staticOf(II)I -/
def l223_10 (Z : Nat) (b2 : Int32) (b3 : Int32) : Nat → Int32 → St → Option ((Unit) ⊕ (Int32))
  | 0, _, _ => none
  | n + 1, b4, I => if (I Z 6) ≤ b4 then some (.inl ()) else if inb b4 16 then if (I (Z + 12) b4.toNatClampNeg) = b3 then if inb b4 16 then if (I (Z + 13) b4.toNatClampNeg) = b2 then some (.inr b4) else l223_10 Z b2 b3 n (b4 + 1) I else none else l223_10 Z b2 b3 n (b4 + 1) I else none
set_option maxRecDepth 20000 in
theorem l223_10_ok {E : Xe} {R : Nat → Nat → Option Nat} {Z : Nat} {I0 : St} {o : Outcome} {w : Wd} {T : ((Unit) ⊕ (Int32)) → Prop} {b2 : Int32} {b3 : Int32} (hZ : Z = 85 ∨ Z = 126) (h82_4 : R 82 4 = some Z) (hT : ∀ r, T (.inr r) → o = .returned (some (.int r)) ∧ w = wT I0 R) (K : ∀ (q : Unit) (e1 : Value) (_ : is1 e1 = true) (e4 : Value) (_ : is1 e4 = true), T (.inl q) → Rn E 223 (59, [.ref 82, e1, .int b2, .int b3, e4], [], wT I0 R) o w) : ∀ (n : Nat) (b4 : Int32) (d1 : Value), is1 d1 = true → Dq (l223_10 Z b2 b3 n b4 I0) T → Rn E 223 (10, [.ref 82, d1, .int b2, .int b3, .int b4], [], wT I0 R) o w := by
  rcases hZ with rfl | rfl
  all_goals
    intro n
    induction n with
    | zero => intro b4 d1 hd1; exact D.none
    | succ n ih =>
      intro b4 d1 hd1
      rw [l223_10]
      refine D.run 2 rfl ?_
      refine D.st rfl (by decide) (gf_1 h82_4) ?_
      refine D.run 1 rfl ?_
      refine D.br rfl (by decide) rfl (fun hc => ?_) (fun hc => ?_)
      · exact fun h => D.to h (K _ _ (by first | rfl | assumption) _ (by first | rfl | assumption))
      · refine D.run 1 rfl ?_
        refine D.st rfl (by decide) (gf_1 h82_4) ?_
        refine D.run 2 rfl ?_
        refine D.gd fun hg => ?_
        refine D.st rfl (by decide) (al_i (by decide) (by first | rfl | decide) hg.1 hg.2) ?_
        refine D.run 1 rfl ?_
        refine D.br rfl (by decide) rfl (fun hc => ?_) (fun hc => ?_)
        · refine D.run 1 rfl ?_
          refine D.st rfl (by decide) (gf_1 h82_4) ?_
          refine D.run 2 rfl ?_
          refine D.gd fun hg => ?_
          refine D.st rfl (by decide) (al_i (by decide) (by first | rfl | decide) hg.1 hg.2) ?_
          refine D.run 1 rfl ?_
          refine D.br rfl (by decide) rfl (fun hc => ?_) (fun hc => ?_)
          · refine D.run 1 rfl ?_
            exact fun h => by obtain ⟨rfl, rfl⟩ := hT _ (D.some h); exact Rn.ret rfl rfl rfl
          · refine D.run 2 rfl ?_
            exact ih _ _  (by first | rfl | assumption)
        · refine D.run 2 rfl ?_
          exact ih _ _  (by first | rfl | assumption)
def l223_2 (Z : Nat) (b2 : Int32) : Nat → Int32 → St → Option ((Unit) ⊕ (Int32))
  | 0, _, _ => none
  | n + 1, b3, I => if b3 = (-1) then some (.inl ()) else (l223_10 Z b2 b3 100000 0 I).bind (Sum.elim (fun q1 => if inb b3 19 then l223_2 Z b2 n (I (Z + 8) b3.toNatClampNeg) I else none) (fun r => some (.inr r)))
set_option maxRecDepth 20000 in
theorem l223_2_ok {E : Xe} {R : Nat → Nat → Option Nat} {Z : Nat} {I0 : St} {o : Outcome} {w : Wd} {T : ((Unit) ⊕ (Int32)) → Prop} {b2 : Int32} (hZ : Z = 85 ∨ Z = 126) (h82_4 : R 82 4 = some Z) (hT : ∀ r, T (.inr r) → o = .returned (some (.int r)) ∧ w = wT I0 R) (K : ∀ (q : Unit) (e1 : Value) (_ : is1 e1 = true) (e2 : Value) (_ : is1 e2 = true) (e3 : Value) (_ : is1 e3 = true) (e4 : Value) (_ : is1 e4 = true), T (.inl q) → Rn E 223 (72, [.ref 82, e1, e2, e3, e4], [], wT I0 R) o w) : ∀ (n : Nat) (b3 : Int32) (d1 : Value) (d4 : Value), is1 d1 = true → is1 d4 = true → Dq (l223_2 Z b2 n b3 I0) T → Rn E 223 (2, [.ref 82, d1, .int b2, .int b3, d4], [], wT I0 R) o w := by
  rcases hZ with rfl | rfl
  all_goals
    intro n
    induction n with
    | zero => intro b3 d1 d4 hd1 hd4; exact D.none
    | succ n ih =>
      intro b3 d1 d4 hd1 hd4
      rw [l223_2]
      refine D.run 2 rfl ?_
      refine D.br rfl (by decide) rfl (fun hc => ?_) (fun hc => ?_)
      · exact fun h => D.to h (K _ _ (by first | rfl | assumption) _ (by first | rfl | assumption) _ (by first | rfl | assumption) _ (by first | rfl | assumption))
      · refine D.run 2 rfl ?_
        refine D.bind (l223_10_ok (by decide) h82_4 (fun r h => hT _ (D.some h)) (fun q1 e2 he2 e3 he3 => ?_) 100000 _ _  (by first | rfl | assumption))
        refine D.inl ?_
        refine D.run 1 rfl ?_
        refine D.st rfl (by decide) (gf_1 h82_4) ?_
        refine D.run 2 rfl ?_
        refine D.gd fun hg => ?_
        refine D.st rfl (by decide) (al_i (by decide) (by first | rfl | decide) hg.1 hg.2) ?_
        refine D.run 2 rfl ?_
        exact ih _ _ _  (by first | rfl | assumption) (by first | rfl | assumption)
def x223 (Z : Nat) (I : St) (a1 a2 : Int32) : Option (Int32) := (l223_2 Z a2 100000 a1 I).bind (Sum.elim (fun q4 => some (-1)) (fun r => some r))
set_option maxRecDepth 20000 in
theorem x223_D {E : Xe} {R : Nat → Nat → Option Nat} {Z : Nat} {o : Outcome} {w : Wd} {T : (Int32) → Prop} {I : St} (hZ : Z = 85 ∨ Z = 126) (h82_4 : R 82 4 = some Z) (a1 a2 : Int32) (hT : ∀ r, T r → o = .returned (some (.int r)) ∧ w = wT I R) : Dq (x223 Z I a1 a2) T → Rn E 223 (0, loc0 223 [.ref 82, .int a1, .int a2], [], wT I R) o w := by
  unfold x223
  rcases hZ with rfl | rfl
  all_goals
    refine D.run 2 rfl ?_
    refine D.bind (l223_2_ok (by decide) h82_4 (fun r h => hT _ (D.some h)) (fun q4 e5 he5 e6 he6 e7 he7 e8 he8 => ?_) 100000 _ _ _  (by first | rfl | assumption) (by first | rfl | assumption))
    refine D.inl ?_
    refine D.run 1 rfl ?_
    exact fun h => by obtain ⟨rfl, rfl⟩ := hT _ (D.some h); exact Rn.ret rfl rfl rfl
set_option maxRecDepth 20000 in
theorem x223_ok {E : Xe} {R : Nat → Nat → Option Nat} {Z : Nat} {I : St} (hZ : Z = 85 ∨ Z = 126) (h82_4 : R 82 4 = some Z) {a1 a2 : Int32} {q : Int32} (h : x223 Z I a1 a2 = some q) : Rn E 223 (0, loc0 223 [.ref 82, .int a1, .int a2], [], wT I R) (.returned (some (.int q))) (wT I R) := x223_D hZ h82_4 _ _ (T := fun r => r = q) (by rintro r rfl; exact ⟨rfl, rfl⟩) ⟨_, h, rfl⟩
/-- TaintHouseModel.lookTry(I)V -/
def l224_12 (Z : Nat) (b1 : Int32) (b2 : Int32) : Nat → Int32 → St → Option (St)
  | 0, _, _ => none
  | n + 1, b3, I => if 4 ≤ b3 then some I else (if 3 ≤ b3 then if inb ((4 * b1) + b3) 800 then (x216 Z I (I (Z + 38) ((4 * b1) + b3).toNatClampNeg) (I Z 5)).bind fun q1 => some q1 else none else if inb ((4 * b1) + b3) 800 then (x221 Z I b2 (I (Z + 38) ((4 * b1) + b3).toNatClampNeg)).bind fun q2 => some q2 else none).bind fun (q3 : Int32) => if inb ((4 * b1) + b3) 800 then if q3 = (-1) then if inb ((4 * b1) + b3) 800 then (x217 (up2 I (Z + 40) ((4 * b1) + b3).toNatClampNeg q3) 2 ((up2 I (Z + 40) ((4 * b1) + b3).toNatClampNeg q3) (Z + 39) ((4 * b1) + b3).toNatClampNeg)).bind fun q4 => l224_12 Z b1 b2 n (b3 + 1) q4 else none else l224_12 Z b1 b2 n (b3 + 1) (up2 I (Z + 40) ((4 * b1) + b3).toNatClampNeg q3) else none
set_option maxRecDepth 20000 in
theorem l224_12_ok {E : Xe} {R : Nat → Nat → Option Nat} {Z : Nat} {o : Outcome} {w : Wd} {T : (St) → Prop} {b1 : Int32} {b2 : Int32} (hZ : Z = 85 ∨ Z = 126) (h82_4 : R 82 4 = some Z) (K : ∀ (q : St) (e2 : Value) (_ : is1 e2 = true) (e3 : Value) (_ : is1 e3 = true) (e4 : Value) (_ : is1 e4 = true) (e5 : Value) (_ : is1 e5 = true), T q → Rn E 224 (114, [.ref 82, .int b1, e2, e3, e4, e5], [], wT q R) o w) : ∀ (n : Nat) (b3 : Int32) (d4 : Value) (d5 : Value) (I : St), is1 d4 = true → is1 d5 = true → Dq (l224_12 Z b1 b2 n b3 I) T → Rn E 224 (12, [.ref 82, .int b1, .int b2, .int b3, d4, d5], [], wT I R) o w := by
  rcases hZ with rfl | rfl
  · intro n
    induction n with
    | zero => intro b3 d4 d5 I hd4 hd5; exact D.none
    | succ n ih =>
      intro b3 d4 d5 I hd4 hd5
      rw [l224_12]
      refine D.run 2 rfl ?_
      refine D.br rfl (by decide) rfl (fun hc => ?_) (fun hc => ?_)
      · exact fun h => D.to h (K _ _ (by first | rfl | assumption) _ (by first | rfl | assumption) _ (by first | rfl | assumption) _ (by first | rfl | assumption))
      · refine D.run 2 rfl ?_
        have Kj67 : ∀ (q3 : Int32), Dq (if inb ((4 * b1) + b3) 800 then if q3 = (-1) then if inb ((4 * b1) + b3) 800 then (x217 (up2 I (85 + 40) ((4 * b1) + b3).toNatClampNeg q3) 2 ((up2 I (85 + 40) ((4 * b1) + b3).toNatClampNeg q3) (85 + 39) ((4 * b1) + b3).toNatClampNeg)).bind fun q4 => l224_12 85 b1 b2 n (b3 + 1) q4 else none else l224_12 85 b1 b2 n (b3 + 1) (up2 I (85 + 40) ((4 * b1) + b3).toNatClampNeg q3) else none) T → Rn E 224 (67, [.ref 82, .int b1, .int b2, .int b3, d4, d5], [.int q3], wT I R) o w := by
          intro q3
          refine D.run 2 rfl ?_
          refine D.st rfl (by decide) (gf_1 h82_4) ?_
          refine D.run 7 rfl ?_
          refine D.gd fun hg => ?_
          refine D.st rfl (by decide) (as_i (by decide) (by first | rfl | decide) hg.1 hg.2) ?_
          refine D.run 2 rfl ?_
          refine D.br rfl (by decide) rfl (fun hc => ?_) (fun hc => ?_)
          · refine D.run 3 rfl ?_
            refine D.st rfl (by decide) (gf_1 h82_4) ?_
            refine D.run 6 rfl ?_
            refine D.gd fun hg => ?_
            refine D.st rfl (by decide) (al_i (by decide) (by first | rfl | decide) hg.1 hg.2) ?_
            refine D.call rfl rfl rfl rfl (fun q h => x217_ok h) (fun q4 => ?_)
            refine D.run 2 rfl ?_
            exact ih _ _ _ _ (by first | rfl | assumption) (by first | rfl | assumption)
          · refine D.run 2 rfl ?_
            exact ih _ _ _ _ (by first | rfl | assumption) (by first | rfl | assumption)
        refine D.bind ?_
        refine D.br rfl (by decide) rfl (fun hc => ?_) (fun hc => ?_)
        · refine D.run 2 rfl ?_
          refine D.st rfl (by decide) (gf_1 h82_4) ?_
          refine D.run 6 rfl ?_
          refine D.gd fun hg => ?_
          refine D.st rfl (by decide) (al_i (by decide) (by first | rfl | decide) hg.1 hg.2) ?_
          refine D.run 1 rfl ?_
          refine D.st rfl (by decide) (gf_1 h82_4) ?_
          refine D.run 1 rfl ?_
          refine D.call rfl rfl rfl rfl (fun q h => x216_ok (by decide) h82_4 h) (fun q1 => ?_)
          exact fun h => D.to h (Kj67 _  )
        · refine D.run 3 rfl ?_
          refine D.st rfl (by decide) (gf_1 h82_4) ?_
          refine D.run 6 rfl ?_
          refine D.gd fun hg => ?_
          refine D.st rfl (by decide) (al_i (by decide) (by first | rfl | decide) hg.1 hg.2) ?_
          refine D.call rfl rfl rfl rfl (fun q h => x221_ok (by decide) h82_4 h) (fun q2 => ?_)
          refine D.run 1 rfl ?_
          exact fun h => D.to h (Kj67 _  )
  · intro n
    induction n with
    | zero => intro b3 d4 d5 I hd4 hd5; exact D.none
    | succ n ih =>
      intro b3 d4 d5 I hd4 hd5
      rw [l224_12]
      refine D.run 2 rfl ?_
      refine D.br rfl (by decide) rfl (fun hc => ?_) (fun hc => ?_)
      · exact fun h => D.to h (K _ _ (by first | rfl | assumption) _ (by first | rfl | assumption) _ (by first | rfl | assumption) _ (by first | rfl | assumption))
      · refine D.run 2 rfl ?_
        have Kj67 : ∀ (q3 : Int32), Dq (if inb ((4 * b1) + b3) 800 then if q3 = (-1) then if inb ((4 * b1) + b3) 800 then (x217 (up2 I (126 + 40) ((4 * b1) + b3).toNatClampNeg q3) 2 ((up2 I (126 + 40) ((4 * b1) + b3).toNatClampNeg q3) (126 + 39) ((4 * b1) + b3).toNatClampNeg)).bind fun q4 => l224_12 126 b1 b2 n (b3 + 1) q4 else none else l224_12 126 b1 b2 n (b3 + 1) (up2 I (126 + 40) ((4 * b1) + b3).toNatClampNeg q3) else none) T → Rn E 224 (67, [.ref 82, .int b1, .int b2, .int b3, d4, d5], [.int q3], wT I R) o w := by
          intro q3
          refine D.run 2 rfl ?_
          refine D.st rfl (by decide) (gf_1 h82_4) ?_
          refine D.run 7 rfl ?_
          refine D.gd fun hg => ?_
          refine D.st rfl (by decide) (as_i (by decide) (by first | rfl | decide) hg.1 hg.2) ?_
          refine D.run 2 rfl ?_
          refine D.br rfl (by decide) rfl (fun hc => ?_) (fun hc => ?_)
          · refine D.run 3 rfl ?_
            refine D.st rfl (by decide) (gf_1 h82_4) ?_
            refine D.run 6 rfl ?_
            refine D.gd fun hg => ?_
            refine D.st rfl (by decide) (al_i (by decide) (by first | rfl | decide) hg.1 hg.2) ?_
            refine D.call rfl rfl rfl rfl (fun q h => x217_ok h) (fun q4 => ?_)
            refine D.run 2 rfl ?_
            exact ih _ _ _ _ (by first | rfl | assumption) (by first | rfl | assumption)
          · refine D.run 2 rfl ?_
            exact ih _ _ _ _ (by first | rfl | assumption) (by first | rfl | assumption)
        refine D.bind ?_
        refine D.br rfl (by decide) rfl (fun hc => ?_) (fun hc => ?_)
        · refine D.run 2 rfl ?_
          refine D.st rfl (by decide) (gf_1 h82_4) ?_
          refine D.run 6 rfl ?_
          refine D.gd fun hg => ?_
          refine D.st rfl (by decide) (al_i (by decide) (by first | rfl | decide) hg.1 hg.2) ?_
          refine D.run 1 rfl ?_
          refine D.st rfl (by decide) (gf_1 h82_4) ?_
          refine D.run 1 rfl ?_
          refine D.call rfl rfl rfl rfl (fun q h => x216_ok (by decide) h82_4 h) (fun q1 => ?_)
          exact fun h => D.to h (Kj67 _  )
        · refine D.run 3 rfl ?_
          refine D.st rfl (by decide) (gf_1 h82_4) ?_
          refine D.run 6 rfl ?_
          refine D.gd fun hg => ?_
          refine D.st rfl (by decide) (al_i (by decide) (by first | rfl | decide) hg.1 hg.2) ?_
          refine D.call rfl rfl rfl rfl (fun q h => x221_ok (by decide) h82_4 h) (fun q2 => ?_)
          refine D.run 1 rfl ?_
          exact fun h => D.to h (Kj67 _  )
def x224 (Z : Nat) (I : St) (a1 : Int32) : Option (St) := if inb a1 200 then (l224_12 Z a1 (I (Z + 37) a1.toNatClampNeg) 100000 0 I).bind fun q5 => if inb (4 * a1) 800 then if inb ((4 * a1) + 1) 800 then (if (q5 (Z + 40) (4 * a1).toNatClampNeg) = (-1) then some 0 else if (q5 (Z + 40) ((4 * a1) + 1).toNatClampNeg) = (-1) then some 0 else if inb ((4 * a1) + 2) 800 then if (q5 (Z + 40) ((4 * a1) + 2).toNatClampNeg) = (-1) then some 0 else some 1 else none).bind fun (q10 : Int32) => if q10 = 0 then some q5 else if (q5 (Z + 40) (4 * a1).toNatClampNeg) < (q5 (Z + 40) ((4 * a1) + 1).toNatClampNeg) then some q5 else if inb (4 * a1) 800 then (x217 q5 4 (q5 (Z + 39) (4 * a1).toNatClampNeg)).bind fun q11 => some q11 else none else none else none else none
set_option maxRecDepth 20000 in
theorem x224_D {E : Xe} {R : Nat → Nat → Option Nat} {Z : Nat} {o : Outcome} {w : Wd} {T : (St) → Prop} {I : St} (hZ : Z = 85 ∨ Z = 126) (h82_4 : R 82 4 = some Z) (a1 : Int32) (hT : ∀ r, T r → o = .returned none ∧ w = wT r R) : Dq (x224 Z I a1) T → Rn E 224 (0, loc0 224 [.ref 82, .int a1], [], wT I R) o w := by
  unfold x224
  rcases hZ with rfl | rfl
  · refine D.run 1 rfl ?_
    refine D.st rfl (by decide) (gf_1 h82_4) ?_
    refine D.run 2 rfl ?_
    refine D.gd fun hg => ?_
    refine D.st rfl (by decide) (al_i (by decide) (by first | rfl | decide) hg.1 hg.2) ?_
    refine D.run 3 rfl ?_
    refine D.bind (l224_12_ok (by decide) h82_4 (fun q5 e6 he6 e7 he7 e8 he8 e9 he9 => ?_) 100000 _ _ _ _ (by first | rfl | assumption) (by first | rfl | assumption))
    refine D.run 1 rfl ?_
    refine D.st rfl (by decide) (gf_1 h82_4) ?_
    refine D.run 4 rfl ?_
    refine D.gd fun hg => ?_
    refine D.st rfl (by decide) (al_i (by decide) (by first | rfl | decide) hg.1 hg.2) ?_
    refine D.st rfl (by decide) (istn_d rfl (by first | rfl | assumption) rfl) ?_
    refine D.run 1 rfl ?_
    refine D.st rfl (by decide) (gf_1 h82_4) ?_
    refine D.run 6 rfl ?_
    refine D.gd fun hg => ?_
    refine D.st rfl (by decide) (al_i (by decide) (by first | rfl | decide) hg.1 hg.2) ?_
    refine D.run 3 rfl ?_
    have Kj174 : ∀ (q10 : Int32), Dq (if q10 = 0 then some q5 else if (q5 (85 + 40) (4 * a1).toNatClampNeg) < (q5 (85 + 40) ((4 * a1) + 1).toNatClampNeg) then some q5 else if inb (4 * a1) 800 then (x217 q5 4 (q5 (85 + 39) (4 * a1).toNatClampNeg)).bind fun q11 => some q11 else none) T → Rn E 224 (174, [.ref 82, .int a1, e6, .int (q5 (85 + 40) (4 * a1).toNatClampNeg), .int (q5 (85 + 40) ((4 * a1) + 1).toNatClampNeg), e9], [.int q10], wT q5 R) o w := by
      intro q10
      refine D.run 2 rfl ?_
      refine D.br rfl (by decide) rfl (fun hc => ?_) (fun hc => ?_)
      · exact fun h => by obtain ⟨rfl, rfl⟩ := hT _ (D.some h); exact Rn.ret rfl rfl rfl
      · refine D.run 2 rfl ?_
        refine D.br rfl (by decide) rfl (fun hc => ?_) (fun hc => ?_)
        · exact fun h => by obtain ⟨rfl, rfl⟩ := hT _ (D.some h); exact Rn.ret rfl rfl rfl
        · refine D.run 3 rfl ?_
          refine D.st rfl (by decide) (gf_1 h82_4) ?_
          refine D.run 4 rfl ?_
          refine D.gd fun hg => ?_
          refine D.st rfl (by decide) (al_i (by decide) (by first | rfl | decide) hg.1 hg.2) ?_
          refine D.call rfl rfl rfl rfl (fun q h => x217_ok h) (fun q11 => ?_)
          exact fun h => by obtain ⟨rfl, rfl⟩ := hT _ (D.some h); exact Rn.ret rfl rfl rfl
    refine D.bind ?_
    refine D.br rfl (by decide) rfl (fun hc => ?_) (fun hc => ?_)
    · refine D.run 1 rfl ?_
      exact fun h => D.to h (Kj174 _  )
    · refine D.run 2 rfl ?_
      refine D.br rfl (by decide) rfl (fun hc => ?_) (fun hc => ?_)
      · refine D.run 1 rfl ?_
        exact fun h => D.to h (Kj174 _  )
      · refine D.run 1 rfl ?_
        refine D.st rfl (by decide) (gf_1 h82_4) ?_
        refine D.run 6 rfl ?_
        refine D.gd fun hg => ?_
        refine D.st rfl (by decide) (al_i (by decide) (by first | rfl | decide) hg.1 hg.2) ?_
        refine D.run 1 rfl ?_
        refine D.br rfl (by decide) rfl (fun hc => ?_) (fun hc => ?_)
        · refine D.run 1 rfl ?_
          exact fun h => D.to h (Kj174 _  )
        · refine D.run 2 rfl ?_
          exact fun h => D.to h (Kj174 _  )
  · refine D.run 1 rfl ?_
    refine D.st rfl (by decide) (gf_1 h82_4) ?_
    refine D.run 2 rfl ?_
    refine D.gd fun hg => ?_
    refine D.st rfl (by decide) (al_i (by decide) (by first | rfl | decide) hg.1 hg.2) ?_
    refine D.run 3 rfl ?_
    refine D.bind (l224_12_ok (by decide) h82_4 (fun q5 e6 he6 e7 he7 e8 he8 e9 he9 => ?_) 100000 _ _ _ _ (by first | rfl | assumption) (by first | rfl | assumption))
    refine D.run 1 rfl ?_
    refine D.st rfl (by decide) (gf_1 h82_4) ?_
    refine D.run 4 rfl ?_
    refine D.gd fun hg => ?_
    refine D.st rfl (by decide) (al_i (by decide) (by first | rfl | decide) hg.1 hg.2) ?_
    refine D.st rfl (by decide) (istn_d rfl (by first | rfl | assumption) rfl) ?_
    refine D.run 1 rfl ?_
    refine D.st rfl (by decide) (gf_1 h82_4) ?_
    refine D.run 6 rfl ?_
    refine D.gd fun hg => ?_
    refine D.st rfl (by decide) (al_i (by decide) (by first | rfl | decide) hg.1 hg.2) ?_
    refine D.run 3 rfl ?_
    have Kj174 : ∀ (q10 : Int32), Dq (if q10 = 0 then some q5 else if (q5 (126 + 40) (4 * a1).toNatClampNeg) < (q5 (126 + 40) ((4 * a1) + 1).toNatClampNeg) then some q5 else if inb (4 * a1) 800 then (x217 q5 4 (q5 (126 + 39) (4 * a1).toNatClampNeg)).bind fun q11 => some q11 else none) T → Rn E 224 (174, [.ref 82, .int a1, e6, .int (q5 (126 + 40) (4 * a1).toNatClampNeg), .int (q5 (126 + 40) ((4 * a1) + 1).toNatClampNeg), e9], [.int q10], wT q5 R) o w := by
      intro q10
      refine D.run 2 rfl ?_
      refine D.br rfl (by decide) rfl (fun hc => ?_) (fun hc => ?_)
      · exact fun h => by obtain ⟨rfl, rfl⟩ := hT _ (D.some h); exact Rn.ret rfl rfl rfl
      · refine D.run 2 rfl ?_
        refine D.br rfl (by decide) rfl (fun hc => ?_) (fun hc => ?_)
        · exact fun h => by obtain ⟨rfl, rfl⟩ := hT _ (D.some h); exact Rn.ret rfl rfl rfl
        · refine D.run 3 rfl ?_
          refine D.st rfl (by decide) (gf_1 h82_4) ?_
          refine D.run 4 rfl ?_
          refine D.gd fun hg => ?_
          refine D.st rfl (by decide) (al_i (by decide) (by first | rfl | decide) hg.1 hg.2) ?_
          refine D.call rfl rfl rfl rfl (fun q h => x217_ok h) (fun q11 => ?_)
          exact fun h => by obtain ⟨rfl, rfl⟩ := hT _ (D.some h); exact Rn.ret rfl rfl rfl
    refine D.bind ?_
    refine D.br rfl (by decide) rfl (fun hc => ?_) (fun hc => ?_)
    · refine D.run 1 rfl ?_
      exact fun h => D.to h (Kj174 _  )
    · refine D.run 2 rfl ?_
      refine D.br rfl (by decide) rfl (fun hc => ?_) (fun hc => ?_)
      · refine D.run 1 rfl ?_
        exact fun h => D.to h (Kj174 _  )
      · refine D.run 1 rfl ?_
        refine D.st rfl (by decide) (gf_1 h82_4) ?_
        refine D.run 6 rfl ?_
        refine D.gd fun hg => ?_
        refine D.st rfl (by decide) (al_i (by decide) (by first | rfl | decide) hg.1 hg.2) ?_
        refine D.run 1 rfl ?_
        refine D.br rfl (by decide) rfl (fun hc => ?_) (fun hc => ?_)
        · refine D.run 1 rfl ?_
          exact fun h => D.to h (Kj174 _  )
        · refine D.run 2 rfl ?_
          exact fun h => D.to h (Kj174 _  )
set_option maxRecDepth 20000 in
theorem x224_ok {E : Xe} {R : Nat → Nat → Option Nat} {Z : Nat} {I : St} (hZ : Z = 85 ∨ Z = 126) (h82_4 : R 82 4 = some Z) {a1 : Int32} {q : St} (h : x224 Z I a1 = some q) : Rn E 224 (0, loc0 224 [.ref 82, .int a1], [], wT I R) (.returned none) (wT q R) := x224_D hZ h82_4 _ (T := fun r => r = q) (by rintro r rfl; exact ⟨rfl, rfl⟩) ⟨_, h, rfl⟩
/-- TaintHouseModel.five(I)V -/
def x228 (I : St) (a1 : Int32) : Option (St) := if (I 82 22) = 0 then some (up2 (up2 I 82 22 5) 82 5 a1) else some I
set_option maxRecDepth 20000 in
theorem x228_D {E : Xe} {R : Nat → Nat → Option Nat} {o : Outcome} {w : Wd} {T : (St) → Prop} {I : St} (a1 : Int32) (hT : ∀ r, T r → o = .returned none ∧ w = wT r R) : Dq (x228 I a1) T → Rn E 228 (0, loc0 228 [.ref 82, .int a1], [], wT I R) o w := by
  unfold x228
  refine D.run 2 rfl ?_
  refine D.br rfl (by decide) rfl (fun hc => ?_) (fun hc => ?_)
  · refine D.run 6 rfl ?_
    exact fun h => by obtain ⟨rfl, rfl⟩ := hT _ (D.some h); exact Rn.ret rfl rfl rfl
  · exact fun h => by obtain ⟨rfl, rfl⟩ := hT _ (D.some h); exact Rn.ret rfl rfl rfl
set_option maxRecDepth 20000 in
theorem x228_ok {E : Xe} {R : Nat → Nat → Option Nat} {I : St} {a1 : Int32} {q : St} (h : x228 I a1 = some q) : Rn E 228 (0, loc0 228 [.ref 82, .int a1], [], wT I R) (.returned none) (wT q R) := x228_D  _ (T := fun r => r = q) (by rintro r rfl; exact ⟨rfl, rfl⟩) ⟨_, h, rfl⟩
/-- TaintHouseModel.lowest(I)I -/
def l229_2 (b1 : Int32) : Nat → Int32 → St → Option ((Unit) ⊕ (Int32))
  | 0, _, _ => none
  | n + 1, b2, I => if b1 ≤ b2 then some (.inl ()) else if inb b2 100 then if (I 176 b2.toNatClampNeg) = 0 then l229_2 b1 n (b2 + 1) I else some (.inr b2) else none
set_option maxRecDepth 20000 in
theorem l229_2_ok {E : Xe} {R : Nat → Nat → Option Nat} {I0 : St} {o : Outcome} {w : Wd} {T : ((Unit) ⊕ (Int32)) → Prop} {b1 : Int32} (hT : ∀ r, T (.inr r) → o = .returned (some (.int r)) ∧ w = wT I0 R) (K : ∀ (q : Unit) (e1 : Value) (_ : is1 e1 = true) (e2 : Value) (_ : is1 e2 = true), T (.inl q) → Rn E 229 (24, [.ref 82, e1, e2], [], wT I0 R) o w) : ∀ (n : Nat) (b2 : Int32), Dq (l229_2 b1 n b2 I0) T → Rn E 229 (2, [.ref 82, .int b1, .int b2], [], wT I0 R) o w := by
  intro n
  induction n with
  | zero => intro b2; exact D.none
  | succ n ih =>
    intro b2
    rw [l229_2]
    refine D.run 2 rfl ?_
    refine D.br rfl (by decide) rfl (fun hc => ?_) (fun hc => ?_)
    · exact fun h => D.to h (K _ _ (by first | rfl | assumption) _ (by first | rfl | assumption))
    · refine D.run 3 rfl ?_
      refine D.gd fun hg => ?_
      refine D.st rfl (by decide) (al_b (by decide) (by first | rfl | decide) hg.1 hg.2) ?_
      refine D.br rfl (by decide) rfl (fun hc => ?_) (fun hc => ?_)
      · refine D.run 2 rfl ?_
        exact ih _  
      · refine D.run 1 rfl ?_
        exact fun h => by obtain ⟨rfl, rfl⟩ := hT _ (D.some h); exact Rn.ret rfl rfl rfl
def x229 (I : St) (a1 : Int32) : Option (Int32) := (l229_2 a1 100000 0 I).bind (Sum.elim (fun q1 => some (-1)) (fun r => some r))
set_option maxRecDepth 20000 in
theorem x229_D {E : Xe} {R : Nat → Nat → Option Nat} {o : Outcome} {w : Wd} {T : (Int32) → Prop} {I : St} (a1 : Int32) (hT : ∀ r, T r → o = .returned (some (.int r)) ∧ w = wT I R) : Dq (x229 I a1) T → Rn E 229 (0, loc0 229 [.ref 82, .int a1], [], wT I R) o w := by
  unfold x229
  refine D.run 2 rfl ?_
  refine D.bind (l229_2_ok  (fun r h => hT _ (D.some h)) (fun q1 e2 he2 e3 he3 => ?_) 100000 _   )
  refine D.inl ?_
  refine D.run 1 rfl ?_
  exact fun h => by obtain ⟨rfl, rfl⟩ := hT _ (D.some h); exact Rn.ret rfl rfl rfl
set_option maxRecDepth 20000 in
theorem x229_ok {E : Xe} {R : Nat → Nat → Option Nat} {I : St} {a1 : Int32} {q : Int32} (h : x229 I a1 = some q) : Rn E 229 (0, loc0 229 [.ref 82, .int a1], [], wT I R) (.returned (some (.int q))) (wT I R) := x229_D  _ (T := fun r => r = q) (by rintro r rfl; exact ⟨rfl, rfl⟩) ⟨_, h, rfl⟩
/-- TaintHouseModel.takes(I)I -/
def x231 (I : St) (a1 : Int32) : Option (Int32 × St) := if (I 82 29) = 0 then some (1, (up2 I 82 31 0)) else Lt (up2 (up2 I 82 29 ((I 82 29) - 1)) 82 30 ((I 82 30) &&& ((1 <<< (((I 82 29) - 1) &&& 31)) - 1))) fun J1 => if (J1 82 31) = 0 then some (((((I 82 30) >>> (((I 82 29) - 1) &&& 31)) &&& 1) + 1), (up2 J1 82 31 0)) else if a1 = 0 then some (((((I 82 30) >>> (((I 82 29) - 1) &&& 31)) &&& 1) + 1), (up2 J1 82 31 1)) else if ((((I 82 30) >>> (((I 82 29) - 1) &&& 31)) &&& 1) + 1) = a1 then some (((((I 82 30) >>> (((I 82 29) - 1) &&& 31)) &&& 1) + 1), (up2 J1 82 31 1)) else some (((((I 82 30) >>> (((I 82 29) - 1) &&& 31)) &&& 1) + 1), (up2 J1 82 31 0))
set_option maxRecDepth 20000 in
theorem x231_D {E : Xe} {R : Nat → Nat → Option Nat} {o : Outcome} {w : Wd} {T : (Int32 × St) → Prop} {I : St} (a1 : Int32) (hT : ∀ r, T r → o = .returned (some (.int r.1)) ∧ w = wT r.2 R) : Dq (x231 I a1) T → Rn E 231 (0, loc0 231 [.ref 82, .int a1], [], wT I R) o w := by
  unfold x231
  refine D.run 2 rfl ?_
  refine D.br rfl (by decide) rfl (fun hc => ?_) (fun hc => ?_)
  · refine D.run 4 rfl ?_
    exact fun h => by obtain ⟨rfl, rfl⟩ := hT _ (D.some h); exact Rn.ret rfl rfl rfl
  · refine D.run 27 rfl ?_
    refine D.letS (fun J1 => ?_)
    refine D.run 3 rfl ?_
    refine D.br rfl (by decide) rfl (fun hc => ?_) (fun hc => ?_)
    · refine D.run 3 rfl ?_
      exact fun h => by obtain ⟨rfl, rfl⟩ := hT _ (D.some h); exact Rn.ret rfl rfl rfl
    · refine D.run 1 rfl ?_
      refine D.br rfl (by decide) rfl (fun hc => ?_) (fun hc => ?_)
      · refine D.run 4 rfl ?_
        exact fun h => by obtain ⟨rfl, rfl⟩ := hT _ (D.some h); exact Rn.ret rfl rfl rfl
      · refine D.run 2 rfl ?_
        refine D.br rfl (by decide) rfl (fun hc => ?_) (fun hc => ?_)
        · refine D.run 4 rfl ?_
          exact fun h => by obtain ⟨rfl, rfl⟩ := hT _ (D.some h); exact Rn.ret rfl rfl rfl
        · refine D.run 3 rfl ?_
          exact fun h => by obtain ⟨rfl, rfl⟩ := hT _ (D.some h); exact Rn.ret rfl rfl rfl
set_option maxRecDepth 20000 in
theorem x231_ok {E : Xe} {R : Nat → Nat → Option Nat} {I : St} {a1 : Int32} {q : Int32 × St} (h : x231 I a1 = some q) : Rn E 231 (0, loc0 231 [.ref 82, .int a1], [], wT I R) (.returned (some (.int q.1))) (wT q.2 R) := x231_D  _ (T := fun r => r = q) (by rintro r rfl; exact ⟨rfl, rfl⟩) ⟨_, h, rfl⟩
/-- TaintHouseModel.gives(I)V -/
def x232 (I : St) (a1 : Int32) : Option (St) := (if a1 = 2 then some (up2 I 82 30 ((I 82 30) ||| (1 <<< ((I 82 29) &&& 31)))) else some I).bind fun (q1 : St) => if (q1 82 31) = 0 then some (up2 (up2 q1 82 29 ((q1 82 29) + 1)) 82 31 0) else if 16 < ((q1 82 29) + 1) then some (up2 (up2 q1 82 29 ((q1 82 29) + 1)) 82 31 0) else some (up2 (up2 q1 82 29 ((q1 82 29) + 1)) 82 31 1)
set_option maxRecDepth 20000 in
theorem x232_D {E : Xe} {R : Nat → Nat → Option Nat} {o : Outcome} {w : Wd} {T : (St) → Prop} {I : St} (a1 : Int32) (hT : ∀ r, T r → o = .returned none ∧ w = wT r R) : Dq (x232 I a1) T → Rn E 232 (0, loc0 232 [.ref 82, .int a1], [], wT I R) o w := by
  unfold x232
  refine D.run 2 rfl ?_
  have Kj20 : ∀ (q1 : St), Dq (if (q1 82 31) = 0 then some (up2 (up2 q1 82 29 ((q1 82 29) + 1)) 82 31 0) else if 16 < ((q1 82 29) + 1) then some (up2 (up2 q1 82 29 ((q1 82 29) + 1)) 82 31 0) else some (up2 (up2 q1 82 29 ((q1 82 29) + 1)) 82 31 1)) T → Rn E 232 (20, [.ref 82, .int a1], [], wT q1 R) o w := by
    intro q1
    refine D.run 9 rfl ?_
    refine D.br rfl (by decide) rfl (fun hc => ?_) (fun hc => ?_)
    · refine D.run 2 rfl ?_
      exact fun h => by obtain ⟨rfl, rfl⟩ := hT _ (D.some h); exact Rn.ret rfl rfl rfl
    · refine D.run 3 rfl ?_
      refine D.br rfl (by decide) rfl (fun hc => ?_) (fun hc => ?_)
      · refine D.run 2 rfl ?_
        exact fun h => by obtain ⟨rfl, rfl⟩ := hT _ (D.some h); exact Rn.ret rfl rfl rfl
      · refine D.run 3 rfl ?_
        exact fun h => by obtain ⟨rfl, rfl⟩ := hT _ (D.some h); exact Rn.ret rfl rfl rfl
  refine D.bind ?_
  refine D.br rfl (by decide) rfl (fun hc => ?_) (fun hc => ?_)
  · refine D.run 9 rfl ?_
    exact fun h => D.to h (Kj20 _  )
  · exact fun h => D.to h (Kj20 _  )
set_option maxRecDepth 20000 in
theorem x232_ok {E : Xe} {R : Nat → Nat → Option Nat} {I : St} {a1 : Int32} {q : St} (h : x232 I a1 = some q) : Rn E 232 (0, loc0 232 [.ref 82, .int a1], [], wT I R) (.returned none) (wT q R) := x232_D  _ (T := fun r => r = q) (by rintro r rfl; exact ⟨rfl, rfl⟩) ⟨_, h, rfl⟩
/-- TaintHouseModel.take1(II)V -/
def x235 (I : St) (a1 a2 : Int32) : Option (St) := (x231 I a1).bind fun q1 => (x232 q1.2 a2).bind fun q2 => some q2
set_option maxRecDepth 20000 in
theorem x235_D {E : Xe} {R : Nat → Nat → Option Nat} {o : Outcome} {w : Wd} {T : (St) → Prop} {I : St} (a1 a2 : Int32) (hT : ∀ r, T r → o = .returned none ∧ w = wT r R) : Dq (x235 I a1 a2) T → Rn E 235 (0, loc0 235 [.ref 82, .int a1, .int a2], [], wT I R) o w := by
  unfold x235
  refine D.run 2 rfl ?_
  refine D.call rfl rfl rfl rfl (fun q h => x231_ok h) (fun q1 => ?_)
  refine D.run 3 rfl ?_
  refine D.call rfl rfl rfl rfl (fun q h => x232_ok h) (fun q2 => ?_)
  exact fun h => by obtain ⟨rfl, rfl⟩ := hT _ (D.some h); exact Rn.ret rfl rfl rfl
set_option maxRecDepth 20000 in
theorem x235_ok {E : Xe} {R : Nat → Nat → Option Nat} {I : St} {a1 a2 : Int32} {q : St} (h : x235 I a1 a2 = some q) : Rn E 235 (0, loc0 235 [.ref 82, .int a1, .int a2], [], wT I R) (.returned none) (wT q R) := x235_D  _ _ (T := fun r => r = q) (by rintro r rfl; exact ⟨rfl, rfl⟩) ⟨_, h, rfl⟩
/-- TaintHouseModel.take2(III)V -/
def x236 (I : St) (a1 a2 a3 : Int32) : Option (St) := (x231 I a2).bind fun q1 => (x231 q1.2 a1).bind fun q2 => if a3 = 0 then some q2.2 else (x232 q2.2 a3).bind fun q3 => some q3
set_option maxRecDepth 20000 in
theorem x236_D {E : Xe} {R : Nat → Nat → Option Nat} {o : Outcome} {w : Wd} {T : (St) → Prop} {I : St} (a1 a2 a3 : Int32) (hT : ∀ r, T r → o = .returned none ∧ w = wT r R) : Dq (x236 I a1 a2 a3) T → Rn E 236 (0, loc0 236 [.ref 82, .int a1, .int a2, .int a3], [], wT I R) o w := by
  unfold x236
  refine D.run 2 rfl ?_
  refine D.call rfl rfl rfl rfl (fun q h => x231_ok h) (fun q1 => ?_)
  refine D.run 3 rfl ?_
  refine D.call rfl rfl rfl rfl (fun q h => x231_ok h) (fun q2 => ?_)
  refine D.run 2 rfl ?_
  refine D.br rfl (by decide) rfl (fun hc => ?_) (fun hc => ?_)
  · exact fun h => by obtain ⟨rfl, rfl⟩ := hT _ (D.some h); exact Rn.ret rfl rfl rfl
  · refine D.run 2 rfl ?_
    refine D.call rfl rfl rfl rfl (fun q h => x232_ok h) (fun q3 => ?_)
    exact fun h => by obtain ⟨rfl, rfl⟩ := hT _ (D.some h); exact Rn.ret rfl rfl rfl
set_option maxRecDepth 20000 in
theorem x236_ok {E : Xe} {R : Nat → Nat → Option Nat} {I : St} {a1 a2 a3 : Int32} {q : St} (h : x236 I a1 a2 a3 = some q) : Rn E 236 (0, loc0 236 [.ref 82, .int a1, .int a2, .int a3], [], wT I R) (.returned none) (wT q R) := x236_D  _ _ _ (T := fun r => r = q) (by rintro r rfl; exact ⟨rfl, rfl⟩) ⟨_, h, rfl⟩
/-- TaintHouseModel.push(II)V -/
def x239 (I : St) (a1 a2 : Int32) : Option (St) := if inb ((16 * (I 82 55)) + (I 82 65)) 384 then if inb ((16 * (I 82 55)) + (I 82 65)) 384 then Lt (up2 (up2 I 198 ((16 * (I 82 55)) + (I 82 65)).toNatClampNeg a1) 199 ((16 * (I 82 55)) + (I 82 65)).toNatClampNeg a2) fun J1 => some (up2 J1 82 65 ((J1 82 65) + 1)) else none else none
set_option maxRecDepth 20000 in
theorem x239_D {E : Xe} {R : Nat → Nat → Option Nat} {o : Outcome} {w : Wd} {T : (St) → Prop} {I : St} (a1 a2 : Int32) (hT : ∀ r, T r → o = .returned none ∧ w = wT r R) : Dq (x239 I a1 a2) T → Rn E 239 (0, loc0 239 [.ref 82, .int a1, .int a2], [], wT I R) o w := by
  unfold x239
  refine D.run 10 rfl ?_
  refine D.gd fun hg => ?_
  refine D.st rfl (by decide) (as_i (by decide) (by first | rfl | decide) hg.1 hg.2) ?_
  refine D.run 10 rfl ?_
  refine D.gd fun hg => ?_
  refine D.st rfl (by decide) (as_i (by decide) (by first | rfl | decide) hg.1 hg.2) ?_
  refine D.letS (fun J1 => ?_)
  refine D.run 6 rfl ?_
  exact fun h => by obtain ⟨rfl, rfl⟩ := hT _ (D.some h); exact Rn.ret rfl rfl rfl
set_option maxRecDepth 20000 in
theorem x239_ok {E : Xe} {R : Nat → Nat → Option Nat} {I : St} {a1 a2 : Int32} {q : St} (h : x239 I a1 a2 = some q) : Rn E 239 (0, loc0 239 [.ref 82, .int a1, .int a2], [], wT I R) (.returned none) (wT q R) := x239_D  _ _ (T := fun r => r = q) (by rintro r rfl; exact ⟨rfl, rfl⟩) ⟨_, h, rfl⟩
/-- TaintHouseModel.pop()I -/
def x240 (I : St) : Option (Int32 × St) := if inb ((16 * (I 82 55)) + ((I 82 65) - 1)) 384 then Lt (up2 (up2 I 82 65 ((I 82 65) - 1)) 82 66 ((up2 I 82 65 ((I 82 65) - 1)) 199 ((16 * (I 82 55)) + ((I 82 65) - 1)).toNatClampNeg)) fun J1 => if inb ((16 * (J1 82 55)) + (J1 82 65)) 384 then some ((J1 198 ((16 * (J1 82 55)) + (J1 82 65)).toNatClampNeg), J1) else none else none
set_option maxRecDepth 20000 in
theorem x240_D {E : Xe} {R : Nat → Nat → Option Nat} {o : Outcome} {w : Wd} {T : (Int32 × St) → Prop} {I : St} (hT : ∀ r, T r → o = .returned (some (.int r.1)) ∧ w = wT r.2 R) : Dq (x240 I) T → Rn E 240 (0, loc0 240 [.ref 82], [], wT I R) o w := by
  unfold x240
  refine D.run 16 rfl ?_
  refine D.gd fun hg => ?_
  refine D.st rfl (by decide) (al_i (by decide) (by first | rfl | decide) hg.1 hg.2) ?_
  refine D.run 1 rfl ?_
  refine D.letS (fun J1 => ?_)
  refine D.run 9 rfl ?_
  refine D.gd fun hg => ?_
  refine D.st rfl (by decide) (al_i (by decide) (by first | rfl | decide) hg.1 hg.2) ?_
  exact fun h => by obtain ⟨rfl, rfl⟩ := hT _ (D.some h); exact Rn.ret rfl rfl rfl
set_option maxRecDepth 20000 in
theorem x240_ok {E : Xe} {R : Nat → Nat → Option Nat} {I : St} {q : Int32 × St} (h : x240 I = some q) : Rn E 240 (0, loc0 240 [.ref 82], [], wT I R) (.returned (some (.int q.1))) (wT q.2 R) := x240_D  (T := fun r => r = q) (by rintro r rfl; exact ⟨rfl, rfl⟩) ⟨_, h, rfl⟩
/-- TaintHouseModel.sink(I)V -/
def x241 (I : St) (a1 : Int32) : Option (St) := if (I 82 38) = 500 then some (up2 I 82 34 7) else (x240 I).bind fun q1 => if inb (q1.2 82 38) 500 then if inb (q1.2 82 38) 500 then if inb (q1.2 82 38) 500 then Lt (up2 (up2 (up2 q1.2 189 (q1.2 82 38).toNatClampNeg a1) 190 (q1.2 82 38).toNatClampNeg q1.1) 191 (q1.2 82 38).toNatClampNeg (q1.2 82 66)) fun J2 => if inb a1 16 then (if ((J2 167 a1.toNatClampNeg) &&& (J2 82 66)) = 0 then some 0 else some 1).bind fun (q3 : Int32) => if inb (J2 82 38) 500 then if inb (J2 82 38) 500 then if ((up2 J2 192 (J2 82 38).toNatClampNeg (vp_nar .boolean q3)) 192 (J2 82 38).toNatClampNeg) = 0 then Lt (up2 (up2 (up2 J2 192 (J2 82 38).toNatClampNeg (vp_nar .boolean q3)) 82 39 ((J2 82 39) + 0)) 82 38 ((J2 82 38) + 1)) fun J4 => some J4 else Lt (up2 (up2 (up2 J2 192 (J2 82 38).toNatClampNeg (vp_nar .boolean q3)) 82 39 ((J2 82 39) + 1)) 82 38 ((J2 82 38) + 1)) fun J5 => some J5 else none else none else none else none else none else none
set_option maxRecDepth 20000 in
theorem x241_D {E : Xe} {R : Nat → Nat → Option Nat} {o : Outcome} {w : Wd} {T : (St) → Prop} {I : St} (a1 : Int32) (hT : ∀ r, T r → o = .returned none ∧ w = wT r R) : Dq (x241 I a1) T → Rn E 241 (0, loc0 241 [.ref 82, .int a1], [], wT I R) o w := by
  unfold x241
  refine D.run 3 rfl ?_
  refine D.br rfl (by decide) rfl (fun hc => ?_) (fun hc => ?_)
  · refine D.run 3 rfl ?_
    exact fun h => by obtain ⟨rfl, rfl⟩ := hT _ (D.some h); exact Rn.ret rfl rfl rfl
  · refine D.run 1 rfl ?_
    refine D.call rfl rfl rfl rfl (fun q h => x240_ok h) (fun q1 => ?_)
    refine D.run 6 rfl ?_
    refine D.gd fun hg => ?_
    refine D.st rfl (by decide) (as_i (by decide) (by first | rfl | decide) hg.1 hg.2) ?_
    refine D.run 5 rfl ?_
    refine D.gd fun hg => ?_
    refine D.st rfl (by decide) (as_i (by decide) (by first | rfl | decide) hg.1 hg.2) ?_
    refine D.run 6 rfl ?_
    refine D.gd fun hg => ?_
    refine D.st rfl (by decide) (as_i (by decide) (by first | rfl | decide) hg.1 hg.2) ?_
    refine D.letS (fun J2 => ?_)
    refine D.run 7 rfl ?_
    refine D.gd fun hg => ?_
    refine D.st rfl (by decide) (al_i (by decide) (by first | rfl | decide) hg.1 hg.2) ?_
    refine D.run 3 rfl ?_
    have Kj82 : ∀ (q3 : Int32), Dq (if inb (J2 82 38) 500 then if inb (J2 82 38) 500 then if ((up2 J2 192 (J2 82 38).toNatClampNeg (vp_nar .boolean q3)) 192 (J2 82 38).toNatClampNeg) = 0 then Lt (up2 (up2 (up2 J2 192 (J2 82 38).toNatClampNeg (vp_nar .boolean q3)) 82 39 ((J2 82 39) + 0)) 82 38 ((J2 82 38) + 1)) fun J4 => some J4 else Lt (up2 (up2 (up2 J2 192 (J2 82 38).toNatClampNeg (vp_nar .boolean q3)) 82 39 ((J2 82 39) + 1)) 82 38 ((J2 82 38) + 1)) fun J5 => some J5 else none else none) T → Rn E 241 (82, [.ref 82, .int a1, .int q1.1], [.int q3, .int (J2 82 38), .ref 192], wT J2 R) o w := by
      intro q3
      refine D.gd fun hg => ?_
      refine D.st rfl (by decide) (as_z (by decide) (by first | rfl | decide) hg.1 hg.2) ?_
      refine D.run 7 rfl ?_
      refine D.gd fun hg => ?_
      refine D.st rfl (by decide) (al_b (by decide) (by first | rfl | decide) hg.1 hg.2) ?_
      refine D.br rfl (by decide) rfl (fun hc => ?_) (fun hc => ?_)
      · refine D.run 9 rfl ?_
        refine D.letS (fun J4 => ?_)
        exact fun h => by obtain ⟨rfl, rfl⟩ := hT _ (D.some h); exact Rn.ret rfl rfl rfl
      · refine D.run 10 rfl ?_
        refine D.letS (fun J5 => ?_)
        exact fun h => by obtain ⟨rfl, rfl⟩ := hT _ (D.some h); exact Rn.ret rfl rfl rfl
    refine D.bind ?_
    refine D.br rfl (by decide) rfl (fun hc => ?_) (fun hc => ?_)
    · refine D.run 1 rfl ?_
      exact fun h => D.to h (Kj82 _  )
    · refine D.run 2 rfl ?_
      exact fun h => D.to h (Kj82 _  )
set_option maxRecDepth 20000 in
theorem x241_ok {E : Xe} {R : Nat → Nat → Option Nat} {I : St} {a1 : Int32} {q : St} (h : x241 I a1 = some q) : Rn E 241 (0, loc0 241 [.ref 82, .int a1], [], wT I R) (.returned none) (wT q R) := x241_D  _ (T := fun r => r = q) (by rintro r rfl; exact ⟨rfl, rfl⟩) ⟨_, h, rfl⟩
/-- TaintHouseModel.make(II)I -/
def l244_83 (b2 : Int32) (b3 : Int32) : Nat → Int32 → St → Option (St)
  | 0, _, _ => none
  | n + 1, b4, I => if b2 ≤ b4 then some I else if inb ((I 82 48) + b4) 3001 then if inb ((I 82 48) + b4) 3001 then l244_83 b2 b3 n (b4 + 1) (up2 (up2 I 185 ((I 82 48) + b4).toNatClampNeg 0) 186 ((I 82 48) + b4).toNatClampNeg 0) else none else none
set_option maxRecDepth 20000 in
theorem l244_83_ok {E : Xe} {R : Nat → Nat → Option Nat} {o : Outcome} {w : Wd} {T : (St) → Prop} {b2 : Int32} {b3 : Int32} (K : ∀ (q : St) (e1 : Value) (_ : is1 e1 = true) (e4 : Value) (_ : is1 e4 = true), T q → Rn E 244 (121, [.ref 82, e1, .int b2, .int b3, e4], [], wT q R) o w) : ∀ (n : Nat) (b4 : Int32) (d1 : Value) (I : St), is1 d1 = true → Dq (l244_83 b2 b3 n b4 I) T → Rn E 244 (83, [.ref 82, d1, .int b2, .int b3, .int b4], [], wT I R) o w := by
  intro n
  induction n with
  | zero => intro b4 d1 I hd1; exact D.none
  | succ n ih =>
    intro b4 d1 I hd1
    rw [l244_83]
    refine D.run 2 rfl ?_
    refine D.br rfl (by decide) rfl (fun hc => ?_) (fun hc => ?_)
    · exact fun h => D.to h (K _ _ (by first | rfl | assumption) _ (by first | rfl | assumption))
    · refine D.run 7 rfl ?_
      refine D.gd fun hg => ?_
      refine D.st rfl (by decide) (as_i (by decide) (by first | rfl | decide) hg.1 hg.2) ?_
      refine D.run 7 rfl ?_
      refine D.gd fun hg => ?_
      refine D.st rfl (by decide) (as_i (by decide) (by first | rfl | decide) hg.1 hg.2) ?_
      refine D.run 2 rfl ?_
      exact ih _ _ _ (by first | rfl | assumption)
def x244 (I : St) (a1 a2 : Int32) : Option (Int32 × St) := if (((I 82 41) + 1) + a2) ≤ 3000 then if inb (I 82 40) 3001 then Lt (up2 (up2 (up2 I 82 41 ((I 82 41) + (1 + a2))) 82 40 ((I 82 40) + 1)) 181 (I 82 40).toNatClampNeg a1) fun J1 => if inb (I 82 40) 3001 then if inb (I 82 40) 3001 then if inb (I 82 40) 3001 then Lt (up2 (up2 (up2 J1 182 (I 82 40).toNatClampNeg (J1 82 48)) 183 (I 82 40).toNatClampNeg a2) 184 (I 82 40).toNatClampNeg 0) fun J2 => (l244_83 a2 (I 82 40) 100000 0 J2).bind fun q3 => some (((I 82 40) + 1), (up2 q3 82 48 ((q3 82 48) + a2))) else none else none else none else none else some (0, (up2 I 82 34 6))
set_option maxRecDepth 20000 in
theorem x244_D {E : Xe} {R : Nat → Nat → Option Nat} {o : Outcome} {w : Wd} {T : (Int32 × St) → Prop} {I : St} (a1 a2 : Int32) (hT : ∀ r, T r → o = .returned (some (.int r.1)) ∧ w = wT r.2 R) : Dq (x244 I a1 a2) T → Rn E 244 (0, loc0 244 [.ref 82, .int a1, .int a2], [], wT I R) o w := by
  unfold x244
  refine D.run 7 rfl ?_
  refine D.br rfl (by decide) rfl (fun hc => ?_) (fun hc => ?_)
  · refine D.run 21 rfl ?_
    refine D.gd fun hg => ?_
    refine D.st rfl (by decide) (as_i (by decide) (by first | rfl | decide) hg.1 hg.2) ?_
    refine D.letS (fun J1 => ?_)
    refine D.run 5 rfl ?_
    refine D.gd fun hg => ?_
    refine D.st rfl (by decide) (as_i (by decide) (by first | rfl | decide) hg.1 hg.2) ?_
    refine D.run 4 rfl ?_
    refine D.gd fun hg => ?_
    refine D.st rfl (by decide) (as_i (by decide) (by first | rfl | decide) hg.1 hg.2) ?_
    refine D.run 4 rfl ?_
    refine D.gd fun hg => ?_
    refine D.st rfl (by decide) (as_i (by decide) (by first | rfl | decide) hg.1 hg.2) ?_
    refine D.letS (fun J2 => ?_)
    refine D.run 2 rfl ?_
    refine D.bind (l244_83_ok  (fun q3 e4 he4 e5 he5 => ?_) 100000 _ _ _ (by first | rfl | assumption))
    refine D.run 9 rfl ?_
    exact fun h => by obtain ⟨rfl, rfl⟩ := hT _ (D.some h); exact Rn.ret rfl rfl rfl
  · refine D.run 4 rfl ?_
    exact fun h => by obtain ⟨rfl, rfl⟩ := hT _ (D.some h); exact Rn.ret rfl rfl rfl
set_option maxRecDepth 20000 in
theorem x244_ok {E : Xe} {R : Nat → Nat → Option Nat} {I : St} {a1 a2 : Int32} {q : Int32 × St} (h : x244 I a1 a2 = some q) : Rn E 244 (0, loc0 244 [.ref 82, .int a1, .int a2], [], wT I R) (.returned (some (.int q.1))) (wT q.2 R) := x244_D  _ _ (T := fun r => r = q) (by rintro r rfl; exact ⟨rfl, rfl⟩) ⟨_, h, rfl⟩
/-- TaintHouseModel.isOf(II)Z -/
def l246_23 (Q : Nat) (b2 : Int32) : Nat → Int32 → St → Option (Int32)
  | 0, _, _ => none
  | n + 1, b3, I => if b3 = (-1) then some b3 else if b3 = b2 then some b3 else if inb b3 19 then l246_23 Q b2 n (I (Q + 8) b3.toNatClampNeg) I else none
set_option maxRecDepth 20000 in
theorem l246_23_ok {E : Xe} {R : Nat → Nat → Option Nat} {Q : Nat} {I0 : St} {o : Outcome} {w : Wd} {T : (Int32) → Prop} {b2 : Int32} (hQ : Q = 85 ∨ Q = 126) (h82_3 : R 82 3 = some Q) (K : ∀ (q : Int32) (e1 : Value) (_ : is1 e1 = true), T q → Rn E 246 (46, [.ref 82, e1, .int b2, .int q], [], wT I0 R) o w) : ∀ (n : Nat) (b3 : Int32) (d1 : Value), is1 d1 = true → Dq (l246_23 Q b2 n b3 I0) T → Rn E 246 (23, [.ref 82, d1, .int b2, .int b3], [], wT I0 R) o w := by
  rcases hQ with rfl | rfl
  all_goals
    intro n
    induction n with
    | zero => intro b3 d1 hd1; exact D.none
    | succ n ih =>
      intro b3 d1 hd1
      rw [l246_23]
      refine D.run 2 rfl ?_
      refine D.br rfl (by decide) rfl (fun hc => ?_) (fun hc => ?_)
      · exact fun h => D.to h (K _ _ (by first | rfl | assumption))
      · refine D.run 2 rfl ?_
        refine D.br rfl (by decide) rfl (fun hc => ?_) (fun hc => ?_)
        · exact fun h => D.to h (K _ _ (by first | rfl | assumption))
        · refine D.run 1 rfl ?_
          refine D.st rfl (by decide) (gf_1 h82_3) ?_
          refine D.run 2 rfl ?_
          refine D.gd fun hg => ?_
          refine D.st rfl (by decide) (al_i (by decide) (by first | rfl | decide) hg.1 hg.2) ?_
          refine D.run 2 rfl ?_
          exact ih _ _  (by first | rfl | assumption)
def x246 (Q : Nat) (I : St) (a1 a2 : Int32) : Option (Int32) := if inb (a1 - 1) 3001 then if 0 ≤ (I 181 (a1 - 1).toNatClampNeg) then (l246_23 Q a2 100000 (I 181 (a1 - 1).toNatClampNeg) I).bind fun q1 => if q1 = a2 then some 1 else some 0 else if a2 = 0 then some 1 else some 0 else none
set_option maxRecDepth 20000 in
theorem x246_D {E : Xe} {R : Nat → Nat → Option Nat} {Q : Nat} {o : Outcome} {w : Wd} {T : (Int32) → Prop} {I : St} (hQ : Q = 85 ∨ Q = 126) (h82_3 : R 82 3 = some Q) (a1 a2 : Int32) (hT : ∀ r, T r → o = .returned (some (.int r)) ∧ w = wT I R) : Dq (x246 Q I a1 a2) T → Rn E 246 (0, loc0 246 [.ref 82, .int a1, .int a2], [], wT I R) o w := by
  unfold x246
  rcases hQ with rfl | rfl
  all_goals
    refine D.run 5 rfl ?_
    refine D.gd fun hg => ?_
    refine D.st rfl (by decide) (al_i (by decide) (by first | rfl | decide) hg.1 hg.2) ?_
    refine D.run 2 rfl ?_
    refine D.br rfl (by decide) rfl (fun hc => ?_) (fun hc => ?_)
    · refine D.bind (l246_23_ok (by decide) h82_3 (fun q1 e2 he2 => ?_) 100000 _ _  (by first | rfl | assumption))
      refine D.run 2 rfl ?_
      refine D.br rfl (by decide) rfl (fun hc => ?_) (fun hc => ?_)
      · refine D.run 2 rfl ?_
        exact fun h => by obtain ⟨rfl, rfl⟩ := hT _ (D.some h); exact Rn.ret rfl rfl (by first | rfl | (simp [rt1, rt]; done) | decide)
      · refine D.run 1 rfl ?_
        exact fun h => by obtain ⟨rfl, rfl⟩ := hT _ (D.some h); exact Rn.ret rfl rfl (by first | rfl | (simp [rt1, rt]; done) | decide)
    · refine D.run 1 rfl ?_
      refine D.br rfl (by decide) rfl (fun hc => ?_) (fun hc => ?_)
      · refine D.run 2 rfl ?_
        exact fun h => by obtain ⟨rfl, rfl⟩ := hT _ (D.some h); exact Rn.ret rfl rfl (by first | rfl | (simp [rt1, rt]; done) | decide)
      · refine D.run 1 rfl ?_
        exact fun h => by obtain ⟨rfl, rfl⟩ := hT _ (D.some h); exact Rn.ret rfl rfl (by first | rfl | (simp [rt1, rt]; done) | decide)
set_option maxRecDepth 20000 in
theorem x246_ok {E : Xe} {R : Nat → Nat → Option Nat} {Q : Nat} {I : St} (hQ : Q = 85 ∨ Q = 126) (h82_3 : R 82 3 = some Q) {a1 a2 : Int32} {q : Int32} (h : x246 Q I a1 a2 = some q) : Rn E 246 (0, loc0 246 [.ref 82, .int a1, .int a2], [], wT I R) (.returned (some (.int q))) (wT I R) := x246_D hQ h82_3 _ _ (T := fun r => r = q) (by rintro r rfl; exact ⟨rfl, rfl⟩) ⟨_, h, rfl⟩
/-- TaintHouseModel.leave()V -/
def x247 (I : St) : Option (St) := if inb ((I 82 55) - 1) 24 then Lt (up2 (up2 I 82 55 ((I 82 55) - 1)) 82 63 ((up2 I 82 55 ((I 82 55) - 1)) 193 ((I 82 55) - 1).toNatClampNeg)) fun J1 => if inb (J1 82 55) 24 then if inb (J1 82 55) 24 then Lt (up2 (up2 J1 82 64 (J1 194 (J1 82 55).toNatClampNeg)) 82 65 ((up2 J1 82 64 (J1 194 (J1 82 55).toNatClampNeg)) 195 (J1 82 55).toNatClampNeg)) fun J2 => some J2 else none else none else none
set_option maxRecDepth 20000 in
theorem x247_D {E : Xe} {R : Nat → Nat → Option Nat} {o : Outcome} {w : Wd} {T : (St) → Prop} {I : St} (hT : ∀ r, T r → o = .returned none ∧ w = wT r R) : Dq (x247 I) T → Rn E 247 (0, loc0 247 [.ref 82], [], wT I R) o w := by
  unfold x247
  refine D.run 11 rfl ?_
  refine D.gd fun hg => ?_
  refine D.st rfl (by decide) (al_i (by decide) (by first | rfl | decide) hg.1 hg.2) ?_
  refine D.run 1 rfl ?_
  refine D.letS (fun J1 => ?_)
  refine D.run 5 rfl ?_
  refine D.gd fun hg => ?_
  refine D.st rfl (by decide) (al_i (by decide) (by first | rfl | decide) hg.1 hg.2) ?_
  refine D.run 6 rfl ?_
  refine D.gd fun hg => ?_
  refine D.st rfl (by decide) (al_i (by decide) (by first | rfl | decide) hg.1 hg.2) ?_
  refine D.run 1 rfl ?_
  refine D.letS (fun J2 => ?_)
  exact fun h => by obtain ⟨rfl, rfl⟩ := hT _ (D.some h); exact Rn.ret rfl rfl rfl
set_option maxRecDepth 20000 in
theorem x247_ok {E : Xe} {R : Nat → Nat → Option Nat} {I : St} {q : St} (h : x247 I = some q) : Rn E 247 (0, loc0 247 [.ref 82], [], wT I R) (.returned none) (wT q R) := x247_D  (T := fun r => r = q) (by rintro r rfl; exact ⟨rfl, rfl⟩) ⟨_, h, rfl⟩
/-- TaintHouseModel.compute(III)I -/
def x248 (I : St) (a0 a1 a2 : Int32) : Option (Int32) := if a0 = 0 then some (a1 + a2) else if a0 = 1 then some (a1 - a2) else if a0 = 2 then some (a1 * a2) else if a0 = 3 then if a2 = (-1) then some (-a1) else if a2 = 0 then none else some (a1 / a2) else if a0 = 4 then if a2 = (-1) then some 0 else if a2 = 0 then none else some (a1 - a1 / a2 * a2) else if a0 = 5 then some (a1 &&& a2) else if a0 = 6 then some (a1 ||| a2) else if a0 = 7 then some (a1 ^^^ a2) else if a0 = 8 then some (a1 <<< ((a2 &&& 31) &&& 31)) else if a0 = 9 then some (a1 >>> ((a2 &&& 31) &&& 31)) else some (ushr a1 (a2 &&& 31))
set_option maxRecDepth 20000 in
theorem x248_D {E : Xe} {R : Nat → Nat → Option Nat} {o : Outcome} {w : Wd} {T : (Int32) → Prop} {I : St} (a0 a1 a2 : Int32) (hT : ∀ r, T r → o = .returned (some (.int r)) ∧ w = wT I R) : Dq (x248 I a0 a1 a2) T → Rn E 248 (0, loc0 248 [.int a0, .int a1, .int a2], [], wT I R) o w := by
  unfold x248
  refine D.run 1 rfl ?_
  refine D.sw rfl (by decide) rfl ?_
  show _ → Rn E 248 (swT [(0, 56), (1, 60), (2, 64), (3, 68), (4, 82), (5, 95), (6, 99), (7, 103), (8, 107), (9, 114)] 121 _, _, _, _) _ _
  refine D.swc (fun hc => ?_) (fun hc => ?_)
  · refine D.run 3 rfl ?_
    exact fun h => by obtain ⟨rfl, rfl⟩ := hT _ (D.some h); exact Rn.ret rfl rfl rfl
  · refine D.swc (fun hc => ?_) (fun hc => ?_)
    · refine D.run 3 rfl ?_
      exact fun h => by obtain ⟨rfl, rfl⟩ := hT _ (D.some h); exact Rn.ret rfl rfl rfl
    · refine D.swc (fun hc => ?_) (fun hc => ?_)
      · refine D.run 3 rfl ?_
        exact fun h => by obtain ⟨rfl, rfl⟩ := hT _ (D.some h); exact Rn.ret rfl rfl rfl
      · refine D.swc (fun hc => ?_) (fun hc => ?_)
        · refine D.run 2 rfl ?_
          refine D.br rfl (by decide) rfl (fun hc => ?_) (fun hc => ?_)
          · refine D.run 3 rfl ?_
            exact fun h => by obtain ⟨rfl, rfl⟩ := hT _ (D.some h); exact Rn.ret rfl rfl rfl
          · refine D.run 2 rfl ?_
            refine D.gn fun hg => ?_
            refine D.st rfl (by decide) (div_s hg) ?_
            exact fun h => by obtain ⟨rfl, rfl⟩ := hT _ (D.some h); exact Rn.ret rfl rfl rfl
        · refine D.swc (fun hc => ?_) (fun hc => ?_)
          · refine D.run 2 rfl ?_
            refine D.br rfl (by decide) rfl (fun hc => ?_) (fun hc => ?_)
            · refine D.run 2 rfl ?_
              exact fun h => by obtain ⟨rfl, rfl⟩ := hT _ (D.some h); exact Rn.ret rfl rfl rfl
            · refine D.run 2 rfl ?_
              refine D.gn fun hg => ?_
              refine D.st rfl (by decide) (rem_s hg) ?_
              exact fun h => by obtain ⟨rfl, rfl⟩ := hT _ (D.some h); exact Rn.ret rfl rfl rfl
          · refine D.swc (fun hc => ?_) (fun hc => ?_)
            · refine D.run 3 rfl ?_
              exact fun h => by obtain ⟨rfl, rfl⟩ := hT _ (D.some h); exact Rn.ret rfl rfl rfl
            · refine D.swc (fun hc => ?_) (fun hc => ?_)
              · refine D.run 3 rfl ?_
                exact fun h => by obtain ⟨rfl, rfl⟩ := hT _ (D.some h); exact Rn.ret rfl rfl rfl
              · refine D.swc (fun hc => ?_) (fun hc => ?_)
                · refine D.run 3 rfl ?_
                  exact fun h => by obtain ⟨rfl, rfl⟩ := hT _ (D.some h); exact Rn.ret rfl rfl rfl
                · refine D.swc (fun hc => ?_) (fun hc => ?_)
                  · refine D.run 5 rfl ?_
                    exact fun h => by obtain ⟨rfl, rfl⟩ := hT _ (D.some h); exact Rn.ret rfl rfl rfl
                  · refine D.swc (fun hc => ?_) (fun hc => ?_)
                    · refine D.run 5 rfl ?_
                      exact fun h => by obtain ⟨rfl, rfl⟩ := hT _ (D.some h); exact Rn.ret rfl rfl rfl
                    · refine D.run 5 rfl ?_
                      exact fun h => by obtain ⟨rfl, rfl⟩ := hT _ (D.some h); exact Rn.ret rfl rfl rfl
set_option maxRecDepth 20000 in
theorem x248_ok {E : Xe} {R : Nat → Nat → Option Nat} {I : St} {a0 a1 a2 : Int32} {q : Int32} (h : x248 I a0 a1 a2 = some q) : Rn E 248 (0, loc0 248 [.int a0, .int a1, .int a2], [], wT I R) (.returned (some (.int q))) (wT I R) := x248_D  _ _ _ (T := fun r => r = q) (by rintro r rfl; exact ⟨rfl, rfl⟩) ⟨_, h, rfl⟩
/-- TaintHouseModel.holds(III)Z -/
def x250 (I : St) (a0 a1 a2 : Int32) : Int32 := if a0 = 0 then if a1 = a2 then 1 else 0 else if a0 = 1 then if a1 = a2 then 0 else 1 else if a0 = 2 then if a2 ≤ a1 then 0 else 1 else if a0 = 3 then if a1 < a2 then 0 else 1 else if a0 = 4 then if a1 ≤ a2 then 0 else 1 else if a2 < a1 then 0 else 1
set_option maxRecDepth 20000 in
theorem x250_ok {E : Xe} {R : Nat → Nat → Option Nat} {I : St} (a0 a1 a2 : Int32) : Rn E 250 (0, loc0 250 [.int a0, .int a1, .int a2], [], wT I R) (.returned (some (.int (x250 I a0 a1 a2)))) (wT I R) := by
  have H : ∀ (o : Outcome) (w : Wd) (T : Int32 → Prop), (∀ r, T r → o = .returned (some (.int r)) ∧ w = wT I R) → Dq (some (x250 I a0 a1 a2)) T → Rn E 250 (0, loc0 250 [.int a0, .int a1, .int a2], [], wT I R) o w := by
    intro o w T hT
    unfold x250
    refine D.run 1 rfl ?_
    refine D.sw rfl (by decide) rfl ?_
    show _ → Rn E 250 (swT [(0, 36), (1, 47), (2, 58), (3, 69), (4, 80)] 91 _, _, _, _) _ _
    refine D.swcp (fun hc => ?_) (fun hc => ?_)
    · refine D.run 2 rfl ?_
      refine D.brp rfl (by decide) rfl (fun hc => ?_) (fun hc => ?_)
      · refine D.run 2 rfl ?_
        exact fun h => by obtain ⟨rfl, rfl⟩ := hT _ (D.some h); exact Rn.ret rfl rfl (by first | rfl | (simp [rt1, rt]; done) | decide)
      · refine D.run 1 rfl ?_
        exact fun h => by obtain ⟨rfl, rfl⟩ := hT _ (D.some h); exact Rn.ret rfl rfl (by first | rfl | (simp [rt1, rt]; done) | decide)
    · refine D.swcp (fun hc => ?_) (fun hc => ?_)
      · refine D.run 2 rfl ?_
        refine D.brp rfl (by decide) rfl (fun hc => ?_) (fun hc => ?_)
        · refine D.run 1 rfl ?_
          exact fun h => by obtain ⟨rfl, rfl⟩ := hT _ (D.some h); exact Rn.ret rfl rfl (by first | rfl | (simp [rt1, rt]; done) | decide)
        · refine D.run 2 rfl ?_
          exact fun h => by obtain ⟨rfl, rfl⟩ := hT _ (D.some h); exact Rn.ret rfl rfl (by first | rfl | (simp [rt1, rt]; done) | decide)
      · refine D.swcp (fun hc => ?_) (fun hc => ?_)
        · refine D.run 2 rfl ?_
          refine D.brp rfl (by decide) rfl (fun hc => ?_) (fun hc => ?_)
          · refine D.run 1 rfl ?_
            exact fun h => by obtain ⟨rfl, rfl⟩ := hT _ (D.some h); exact Rn.ret rfl rfl (by first | rfl | (simp [rt1, rt]; done) | decide)
          · refine D.run 2 rfl ?_
            exact fun h => by obtain ⟨rfl, rfl⟩ := hT _ (D.some h); exact Rn.ret rfl rfl (by first | rfl | (simp [rt1, rt]; done) | decide)
        · refine D.swcp (fun hc => ?_) (fun hc => ?_)
          · refine D.run 2 rfl ?_
            refine D.brp rfl (by decide) rfl (fun hc => ?_) (fun hc => ?_)
            · refine D.run 1 rfl ?_
              exact fun h => by obtain ⟨rfl, rfl⟩ := hT _ (D.some h); exact Rn.ret rfl rfl (by first | rfl | (simp [rt1, rt]; done) | decide)
            · refine D.run 2 rfl ?_
              exact fun h => by obtain ⟨rfl, rfl⟩ := hT _ (D.some h); exact Rn.ret rfl rfl (by first | rfl | (simp [rt1, rt]; done) | decide)
          · refine D.swcp (fun hc => ?_) (fun hc => ?_)
            · refine D.run 2 rfl ?_
              refine D.brp rfl (by decide) rfl (fun hc => ?_) (fun hc => ?_)
              · refine D.run 1 rfl ?_
                exact fun h => by obtain ⟨rfl, rfl⟩ := hT _ (D.some h); exact Rn.ret rfl rfl (by first | rfl | (simp [rt1, rt]; done) | decide)
              · refine D.run 2 rfl ?_
                exact fun h => by obtain ⟨rfl, rfl⟩ := hT _ (D.some h); exact Rn.ret rfl rfl (by first | rfl | (simp [rt1, rt]; done) | decide)
            · refine D.run 2 rfl ?_
              refine D.brp rfl (by decide) rfl (fun hc => ?_) (fun hc => ?_)
              · refine D.run 1 rfl ?_
                exact fun h => by obtain ⟨rfl, rfl⟩ := hT _ (D.some h); exact Rn.ret rfl rfl (by first | rfl | (simp [rt1, rt]; done) | decide)
              · refine D.run 2 rfl ?_
                exact fun h => by obtain ⟨rfl, rfl⟩ := hT _ (D.some h); exact Rn.ret rfl rfl (by first | rfl | (simp [rt1, rt]; done) | decide)
  exact H _ _ (fun r => r = x250 I a0 a1 a2) (by rintro r rfl; exact ⟨rfl, rfl⟩) ⟨_, rfl, rfl⟩
/-- TaintHouseModel.fieldsOf(I)I -/
def l252_12 (Q : Nat) (b3 : Int32) : Nat → Int32 → Int32 → St → Option (Int32)
  | 0, _, _, _ => none
  | n + 1, b2, b4, I => if (I Q 7) ≤ b4 then some b2 else if inb b4 100 then if (I (Q + 9) b4.toNatClampNeg) = b3 then l252_12 Q b3 n (b2 + 1) (b4 + 1) I else l252_12 Q b3 n (b2 + 0) (b4 + 1) I else none
set_option maxRecDepth 20000 in
theorem l252_12_ok {E : Xe} {R : Nat → Nat → Option Nat} {Q : Nat} {I0 : St} {o : Outcome} {w : Wd} {T : (Int32) → Prop} {b3 : Int32} (hQ : Q = 85 ∨ Q = 126) (h82_3 : R 82 3 = some Q) (K : ∀ (q : Int32) (e1 : Value) (_ : is1 e1 = true) (e4 : Value) (_ : is1 e4 = true), T q → Rn E 252 (52, [.ref 82, e1, .int q, .int b3, e4], [], wT I0 R) o w) : ∀ (n : Nat) (b2 : Int32) (b4 : Int32) (d1 : Value), is1 d1 = true → Dq (l252_12 Q b3 n b2 b4 I0) T → Rn E 252 (12, [.ref 82, d1, .int b2, .int b3, .int b4], [], wT I0 R) o w := by
  rcases hQ with rfl | rfl
  all_goals
    intro n
    induction n with
    | zero => intro b2 b4 d1 hd1; exact D.none
    | succ n ih =>
      intro b2 b4 d1 hd1
      rw [l252_12]
      refine D.run 2 rfl ?_
      refine D.st rfl (by decide) (gf_1 h82_3) ?_
      refine D.run 1 rfl ?_
      refine D.br rfl (by decide) rfl (fun hc => ?_) (fun hc => ?_)
      · exact fun h => D.to h (K _ _ (by first | rfl | assumption) _ (by first | rfl | assumption))
      · refine D.run 2 rfl ?_
        refine D.st rfl (by decide) (gf_1 h82_3) ?_
        refine D.run 2 rfl ?_
        refine D.gd fun hg => ?_
        refine D.st rfl (by decide) (al_i (by decide) (by first | rfl | decide) hg.1 hg.2) ?_
        refine D.run 1 rfl ?_
        refine D.br rfl (by decide) rfl (fun hc => ?_) (fun hc => ?_)
        · refine D.run 3 rfl ?_
          refine D.st rfl (by decide) (istn_d rfl (by first | rfl | assumption) rfl) ?_
          refine D.run 2 rfl ?_
          exact ih _ _ _  (by first | rfl | assumption)
        · refine D.run 2 rfl ?_
          refine D.st rfl (by decide) (istn_d rfl (by first | rfl | assumption) rfl) ?_
          refine D.run 2 rfl ?_
          exact ih _ _ _  (by first | rfl | assumption)
def l252_4 (Q : Nat) : Nat → Int32 → Int32 → St → Option (Int32)
  | 0, _, _, _ => none
  | n + 1, b2, b3, I => if b3 = (-1) then some b2 else (l252_12 Q b3 100000 b2 0 I).bind fun q1 => if inb b3 19 then l252_4 Q n q1 (I (Q + 8) b3.toNatClampNeg) I else none
set_option maxRecDepth 20000 in
theorem l252_4_ok {E : Xe} {R : Nat → Nat → Option Nat} {Q : Nat} {I0 : St} {o : Outcome} {w : Wd} {T : (Int32) → Prop} (hQ : Q = 85 ∨ Q = 126) (h82_3 : R 82 3 = some Q) (K : ∀ (q : Int32) (e1 : Value) (_ : is1 e1 = true) (e3 : Value) (_ : is1 e3 = true) (e4 : Value) (_ : is1 e4 = true), T q → Rn E 252 (65, [.ref 82, e1, .int q, e3, e4], [], wT I0 R) o w) : ∀ (n : Nat) (b2 : Int32) (b3 : Int32) (d1 : Value) (d4 : Value), is1 d1 = true → is1 d4 = true → Dq (l252_4 Q n b2 b3 I0) T → Rn E 252 (4, [.ref 82, d1, .int b2, .int b3, d4], [], wT I0 R) o w := by
  rcases hQ with rfl | rfl
  all_goals
    intro n
    induction n with
    | zero => intro b2 b3 d1 d4 hd1 hd4; exact D.none
    | succ n ih =>
      intro b2 b3 d1 d4 hd1 hd4
      rw [l252_4]
      refine D.run 2 rfl ?_
      refine D.br rfl (by decide) rfl (fun hc => ?_) (fun hc => ?_)
      · exact fun h => D.to h (K _ _ (by first | rfl | assumption) _ (by first | rfl | assumption) _ (by first | rfl | assumption))
      · refine D.run 2 rfl ?_
        refine D.bind (l252_12_ok (by decide) h82_3 (fun q1 e2 he2 e3 he3 => ?_) 100000 _ _ _  (by first | rfl | assumption))
        refine D.run 1 rfl ?_
        refine D.st rfl (by decide) (gf_1 h82_3) ?_
        refine D.run 2 rfl ?_
        refine D.gd fun hg => ?_
        refine D.st rfl (by decide) (al_i (by decide) (by first | rfl | decide) hg.1 hg.2) ?_
        refine D.run 2 rfl ?_
        exact ih _ _ _ _  (by first | rfl | assumption) (by first | rfl | assumption)
def x252 (Q : Nat) (I : St) (a1 : Int32) : Option (Int32) := (l252_4 Q 100000 0 a1 I).bind fun q4 => some q4
set_option maxRecDepth 20000 in
theorem x252_D {E : Xe} {R : Nat → Nat → Option Nat} {Q : Nat} {o : Outcome} {w : Wd} {T : (Int32) → Prop} {I : St} (hQ : Q = 85 ∨ Q = 126) (h82_3 : R 82 3 = some Q) (a1 : Int32) (hT : ∀ r, T r → o = .returned (some (.int r)) ∧ w = wT I R) : Dq (x252 Q I a1) T → Rn E 252 (0, loc0 252 [.ref 82, .int a1], [], wT I R) o w := by
  unfold x252
  rcases hQ with rfl | rfl
  all_goals
    refine D.run 4 rfl ?_
    refine D.bind (l252_4_ok (by decide) h82_3 (fun q4 e5 he5 e6 he6 e7 he7 => ?_) 100000 _ _ _ _  (by first | rfl | assumption) (by first | rfl | assumption))
    refine D.run 1 rfl ?_
    exact fun h => by obtain ⟨rfl, rfl⟩ := hT _ (D.some h); exact Rn.ret rfl rfl rfl
set_option maxRecDepth 20000 in
theorem x252_ok {E : Xe} {R : Nat → Nat → Option Nat} {Q : Nat} {I : St} (hQ : Q = 85 ∨ Q = 126) (h82_3 : R 82 3 = some Q) {a1 : Int32} {q : Int32} (h : x252 Q I a1 = some q) : Rn E 252 (0, loc0 252 [.ref 82, .int a1], [], wT I R) (.returned (some (.int q))) (wT I R) := x252_D hQ h82_3 _ (T := fun r => r = q) (by rintro r rfl; exact ⟨rfl, rfl⟩) ⟨_, h, rfl⟩
