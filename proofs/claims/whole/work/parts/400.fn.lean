/-! FUNCTIONS OF METHODS, by program (wip/gen/all.py): 6 22 23 29 37 38 39 40 41 42 44 45 46 54 56 57 58 60 61 62 65 67 70 72 74 76 78 83 84 85 87 89 90 92 93 -/
/-- TaintHouse$Program.addClass(I)I -/
def x6 (P : Nat) (I : St) (a1 : Int32) : Option (Int32 × St) := Lt (tset (tset (tset (tadd I (P + 1)) (P + 1) (tadr I (P + 1)) 0 0) (P + 1) (tadr I (P + 1)) 1 a1) (P + 1) (tadr I (P + 1)) 2 ((tset (tset (tadd I (P + 1)) (P + 1) (tadr I (P + 1)) 0 0) (P + 1) (tadr I (P + 1)) 1 a1) (P + 3) 3)) fun J1 => Lt (tset (tset (tset J1 (P + 1) (tadr I (P + 1)) 3 0) (P + 1) (tadr I (P + 1)) 4 0) (P + 1) (tadr I (P + 1)) 5 0) fun J2 => some ((tadr I (P + 1)), J2)
set_option maxRecDepth 20000 in
theorem x6_D {E : Xe} {R : Nat → Nat → Option Nat} {P : Nat} {o : Outcome} {w : Wd} {T : (Int32 × St) → Prop} {I : St} (hP : P = 3 ∨ P = 18) (a1 : Int32) (hT : ∀ r, T r → o = .returned (some (.int r.1)) ∧ w = wT r.2 R) : Dq (x6 P I a1) T → Rn E 6 (0, loc0 6 [.ref P, .int a1], [], wT I R) o w := by
  unfold x6
  rcases hP with rfl | rfl
  · refine D.run 2 rfl ?_
    refine D.ce rfl rfl rfl rfl (tadd_ok (by decide) (by first | rfl | decide)) ?_
    refine D.run 6 rfl ?_
    refine D.ce rfl rfl rfl rfl (tset_ok (by decide) (by first | rfl | decide) _ _ _) ?_
    refine D.run 5 rfl ?_
    refine D.ce rfl rfl rfl rfl (tset_ok (by decide) (by first | rfl | decide) _ _ _) ?_
    show _ → Rn E 6 (28, [.ref 3, .int a1, .int (tadr I (3 + 1))], [], wT (tset (tset (tadd I (3 + 1)) (3 + 1) (tadr I (3 + 1)) 0 0) (3 + 1) (tadr I (3 + 1)) 1 a1) R) o w
    refine D.run 6 rfl ?_
    refine D.ce rfl rfl rfl rfl (tsize_ok (by decide) (by first | rfl | decide)) ?_
    refine D.ce rfl rfl rfl rfl (tset_ok (by decide) (by first | rfl | decide) _ _ _) ?_
    refine D.letS (fun J1 => ?_)
    refine D.run 5 rfl ?_
    refine D.ce rfl rfl rfl rfl (tset_ok (by decide) (by first | rfl | decide) _ _ _) ?_
    show _ → Rn E 6 (54, [.ref 3, .int a1, .int (tadr I (3 + 1))], [], wT (tset J1 (3 + 1) (tadr I (3 + 1)) 3 0) R) o w
    refine D.run 5 rfl ?_
    refine D.ce rfl rfl rfl rfl (tset_ok (by decide) (by first | rfl | decide) _ _ _) ?_
    refine D.run 5 rfl ?_
    refine D.ce rfl rfl rfl rfl (tset_ok (by decide) (by first | rfl | decide) _ _ _) ?_
    refine D.letS (fun J2 => ?_)
    show _ → Rn E 6 (74, [.ref 3, .int a1, .int (tadr I (3 + 1))], [], wT J2 R) o w
    refine D.run 1 rfl ?_
    exact fun h => by obtain ⟨rfl, rfl⟩ := hT _ (D.some h); exact Rn.ret rfl rfl rfl
  · refine D.run 2 rfl ?_
    refine D.ce rfl rfl rfl rfl (tadd_ok (by decide) (by first | rfl | decide)) ?_
    refine D.run 6 rfl ?_
    refine D.ce rfl rfl rfl rfl (tset_ok (by decide) (by first | rfl | decide) _ _ _) ?_
    refine D.run 5 rfl ?_
    refine D.ce rfl rfl rfl rfl (tset_ok (by decide) (by first | rfl | decide) _ _ _) ?_
    show _ → Rn E 6 (28, [.ref 18, .int a1, .int (tadr I (18 + 1))], [], wT (tset (tset (tadd I (18 + 1)) (18 + 1) (tadr I (18 + 1)) 0 0) (18 + 1) (tadr I (18 + 1)) 1 a1) R) o w
    refine D.run 6 rfl ?_
    refine D.ce rfl rfl rfl rfl (tsize_ok (by decide) (by first | rfl | decide)) ?_
    refine D.ce rfl rfl rfl rfl (tset_ok (by decide) (by first | rfl | decide) _ _ _) ?_
    refine D.letS (fun J1 => ?_)
    refine D.run 5 rfl ?_
    refine D.ce rfl rfl rfl rfl (tset_ok (by decide) (by first | rfl | decide) _ _ _) ?_
    show _ → Rn E 6 (54, [.ref 18, .int a1, .int (tadr I (18 + 1))], [], wT (tset J1 (18 + 1) (tadr I (18 + 1)) 3 0) R) o w
    refine D.run 5 rfl ?_
    refine D.ce rfl rfl rfl rfl (tset_ok (by decide) (by first | rfl | decide) _ _ _) ?_
    refine D.run 5 rfl ?_
    refine D.ce rfl rfl rfl rfl (tset_ok (by decide) (by first | rfl | decide) _ _ _) ?_
    refine D.letS (fun J2 => ?_)
    show _ → Rn E 6 (74, [.ref 18, .int a1, .int (tadr I (18 + 1))], [], wT J2 R) o w
    refine D.run 1 rfl ?_
    exact fun h => by obtain ⟨rfl, rfl⟩ := hT _ (D.some h); exact Rn.ret rfl rfl rfl
set_option maxRecDepth 20000 in
theorem x6_ok {E : Xe} {R : Nat → Nat → Option Nat} {P : Nat} {I : St} (hP : P = 3 ∨ P = 18) {a1 : Int32} {q : Int32 × St} (h : x6 P I a1 = some q) : Rn E 6 (0, loc0 6 [.ref P, .int a1], [], wT I R) (.returned (some (.int q.1))) (wT q.2 R) := x6_D hP _ (T := fun r => r = q) (by rintro r rfl; exact ⟨rfl, rfl⟩) ⟨_, h, rfl⟩
/-- TaintHouse.appendBytes(I)V -/
def l22_3 (b1 : Int32) : Nat → Int32 → St → Option (St)
  | 0, _, _ => none
  | n + 1, b2, I => if b2 < 0 then some I else l22_3 b1 n (b2 + (-8)) (tset (tadd I 1) 1 (tadr I 1) 0 ((ushr b1 b2) &&& 255))
set_option maxRecDepth 20000 in
theorem l22_3_ok {E : Xe} {R : Nat → Nat → Option Nat} {o : Outcome} {w : Wd} {T : (St) → Prop} {b1 : Int32} (K : ∀ (q : St) (e1 : Value) (_ : is1 e1 = true) (e2 : Value) (_ : is1 e2 = true), T q → Rn E 22 (35, [.ref 0, e1, e2], [], wT q R) o w) : ∀ (n : Nat) (b2 : Int32) (I : St), Dq (l22_3 b1 n b2 I) T → Rn E 22 (3, [.ref 0, .int b1, .int b2], [], wT I R) o w := by
  intro n
  induction n with
  | zero => intro b2 I; exact D.none
  | succ n ih =>
    intro b2 I
    rw [l22_3]
    refine D.run 1 rfl ?_
    refine D.br rfl (by decide) rfl (fun hc => ?_) (fun hc => ?_)
    · exact fun h => D.to h (K _ _ (by first | rfl | assumption) _ (by first | rfl | assumption))
    · refine D.run 4 rfl ?_
      refine D.ce rfl rfl rfl rfl (tadd_ok (by decide) (by first | rfl | decide)) ?_
      refine D.run 6 rfl ?_
      refine D.ce rfl rfl rfl rfl (tset_ok (by decide) (by first | rfl | decide) _ _ _) ?_
      refine D.run 2 rfl ?_
      exact ih _ _ 
def x22 (I : St) (a1 : Int32) : Option (St) := (l22_3 a1 100000 24 I).bind fun q1 => some q1
set_option maxRecDepth 20000 in
theorem x22_D {E : Xe} {R : Nat → Nat → Option Nat} {o : Outcome} {w : Wd} {T : (St) → Prop} {I : St} (a1 : Int32) (hT : ∀ r, T r → o = .returned none ∧ w = wT r R) : Dq (x22 I a1) T → Rn E 22 (0, loc0 22 [.ref 0, .int a1], [], wT I R) o w := by
  unfold x22
  refine D.run 2 rfl ?_
  refine D.bind (l22_3_ok  (fun q1 e2 he2 e3 he3 => ?_) 100000 _  _ )
  exact fun h => by obtain ⟨rfl, rfl⟩ := hT _ (D.some h); exact Rn.ret rfl rfl rfl
set_option maxRecDepth 20000 in
theorem x22_ok {E : Xe} {R : Nat → Nat → Option Nat} {I : St} {a1 : Int32} {q : St} (h : x22 I a1 = some q) : Rn E 22 (0, loc0 22 [.ref 0, .int a1], [], wT I R) (.returned none) (wT q R) := x22_D  _ (T := fun r => r = q) (by rintro r rfl; exact ⟨rfl, rfl⟩) ⟨_, h, rfl⟩
/-- TaintHouse.end(I)Z -/
def x23 (I : St) (a1 : Int32) : Option (Int32 × St) := if a1 < 0 then some (0, I) else if a1 ≤ (I 1 3) then some (1, (tresize I 1 a1)) else some (0, I)
set_option maxRecDepth 20000 in
theorem x23_D {E : Xe} {R : Nat → Nat → Option Nat} {o : Outcome} {w : Wd} {T : (Int32 × St) → Prop} {I : St} (a1 : Int32) (hT : ∀ r, T r → o = .returned (some (.int r.1)) ∧ w = wT r.2 R) : Dq (x23 I a1) T → Rn E 23 (0, loc0 23 [.ref 0, .int a1], [], wT I R) o w := by
  unfold x23
  refine D.run 1 rfl ?_
  refine D.br rfl (by decide) rfl (fun hc => ?_) (fun hc => ?_)
  · refine D.run 1 rfl ?_
    exact fun h => by obtain ⟨rfl, rfl⟩ := hT _ (D.some h); exact Rn.ret rfl rfl (by first | rfl | (simp [rt1, rt]; done) | decide)
  · refine D.run 3 rfl ?_
    refine D.ce rfl rfl rfl rfl (tsize_ok (by decide) (by first | rfl | decide)) ?_
    refine D.br rfl (by decide) rfl (fun hc => ?_) (fun hc => ?_)
    · refine D.run 3 rfl ?_
      refine D.ce rfl rfl rfl rfl (tresize_ok (by decide) (by first | rfl | decide) _) ?_
      refine D.run 1 rfl ?_
      exact fun h => by obtain ⟨rfl, rfl⟩ := hT _ (D.some h); exact Rn.ret rfl rfl (by first | rfl | (simp [rt1, rt]; done) | decide)
    · refine D.run 1 rfl ?_
      exact fun h => by obtain ⟨rfl, rfl⟩ := hT _ (D.some h); exact Rn.ret rfl rfl (by first | rfl | (simp [rt1, rt]; done) | decide)
set_option maxRecDepth 20000 in
theorem x23_ok {E : Xe} {R : Nat → Nat → Option Nat} {I : St} {a1 : Int32} {q : Int32 × St} (h : x23 I a1 = some q) : Rn E 23 (0, loc0 23 [.ref 0, .int a1], [], wT I R) (.returned (some (.int q.1))) (wT q.2 R) := x23_D  _ (T := fun r => r = q) (by rintro r rfl; exact ⟨rfl, rfl⟩) ⟨_, h, rfl⟩
/-- TaintHouse$Names.begin()V -/
def x29 (I : St) : Option (St) := some (up2 (up2 I 36 3 (I 39 3)) 36 4 0)
set_option maxRecDepth 20000 in
theorem x29_D {E : Xe} {R : Nat → Nat → Option Nat} {o : Outcome} {w : Wd} {T : (St) → Prop} {I : St} (hT : ∀ r, T r → o = .returned none ∧ w = wT r R) : Dq (x29 I) T → Rn E 29 (0, loc0 29 [.ref 36], [], wT I R) o w := by
  unfold x29
  refine D.run 3 rfl ?_
  refine D.ce rfl rfl rfl rfl (tsize_ok (by decide) (by first | rfl | decide)) ?_
  refine D.run 4 rfl ?_
  exact fun h => by obtain ⟨rfl, rfl⟩ := hT _ (D.some h); exact Rn.ret rfl rfl rfl
set_option maxRecDepth 20000 in
theorem x29_ok {E : Xe} {R : Nat → Nat → Option Nat} {I : St} {q : St} (h : x29 I = some q) : Rn E 29 (0, loc0 29 [.ref 36], [], wT I R) (.returned none) (wT q R) := x29_D  (T := fun r => r = q) (by rintro r rfl; exact ⟨rfl, rfl⟩) ⟨_, h, rfl⟩
/-- TaintHouse$Names.matches(II)Z -/
def l37_28 (b2 : Int32) (b3 : Int32) : Nat → Int32 → St → Option ((Unit) ⊕ (Int32))
  | 0, _, _ => none
  | n + 1, b4, I => if b2 ≤ b4 then some (.inl ()) else if (tget I 39 (b3 + b4) 0) = (tget I 39 ((I 36 3) + b4) 0) then l37_28 b2 b3 n (b4 + 1) I else some (.inr 0)
set_option maxRecDepth 20000 in
theorem l37_28_ok {E : Xe} {R : Nat → Nat → Option Nat} {I0 : St} {o : Outcome} {w : Wd} {T : ((Unit) ⊕ (Int32)) → Prop} {b2 : Int32} {b3 : Int32} (hT : ∀ r, T (.inr r) → o = .returned (some (.int r)) ∧ w = wT I0 R) (K : ∀ (q : Unit) (e1 : Value) (_ : is1 e1 = true) (e2 : Value) (_ : is1 e2 = true) (e3 : Value) (_ : is1 e3 = true) (e4 : Value) (_ : is1 e4 = true), T (.inl q) → Rn E 37 (72, [.ref 36, e1, e2, e3, e4], [], wT I0 R) o w) : ∀ (n : Nat) (b4 : Int32) (d1 : Value), is1 d1 = true → Dq (l37_28 b2 b3 n b4 I0) T → Rn E 37 (28, [.ref 36, d1, .int b2, .int b3, .int b4], [], wT I0 R) o w := by
  intro n
  induction n with
  | zero => intro b4 d1 hd1; exact D.none
  | succ n ih =>
    intro b4 d1 hd1
    rw [l37_28]
    refine D.run 2 rfl ?_
    refine D.br rfl (by decide) rfl (fun hc => ?_) (fun hc => ?_)
    · exact fun h => D.to h (K _ _ (by first | rfl | assumption) _ (by first | rfl | assumption) _ (by first | rfl | assumption) _ (by first | rfl | assumption))
    · refine D.run 6 rfl ?_
      refine D.ce rfl rfl rfl rfl (tget_ok (by decide) (by first | rfl | decide) _ _) ?_
      refine D.run 7 rfl ?_
      refine D.ce rfl rfl rfl rfl (tget_ok (by decide) (by first | rfl | decide) _ _) ?_
      refine D.br rfl (by decide) rfl (fun hc => ?_) (fun hc => ?_)
      · refine D.run 2 rfl ?_
        exact ih _ _  (by first | rfl | assumption)
      · refine D.run 1 rfl ?_
        exact fun h => by obtain ⟨rfl, rfl⟩ := hT _ (D.some h); exact Rn.ret rfl rfl (by first | rfl | (simp [rt1, rt]; done) | decide)
def x37 (I : St) (a1 a2 : Int32) : Option (Int32) := if (tget I 37 a1 4) = a2 then (l37_28 a2 (tget I 37 a1 3) 100000 0 I).bind (Sum.elim (fun q1 => some 1) (fun r => some r)) else some 0
set_option maxRecDepth 20000 in
theorem x37_D {E : Xe} {R : Nat → Nat → Option Nat} {o : Outcome} {w : Wd} {T : (Int32) → Prop} {I : St} (a1 a2 : Int32) (hT : ∀ r, T r → o = .returned (some (.int r)) ∧ w = wT I R) : Dq (x37 I a1 a2) T → Rn E 37 (0, loc0 37 [.ref 36, .int a1, .int a2], [], wT I R) o w := by
  unfold x37
  refine D.run 4 rfl ?_
  refine D.ce rfl rfl rfl rfl (tget_ok (by decide) (by first | rfl | decide) _ _) ?_
  refine D.run 1 rfl ?_
  refine D.br rfl (by decide) rfl (fun hc => ?_) (fun hc => ?_)
  · refine D.run 4 rfl ?_
    refine D.ce rfl rfl rfl rfl (tget_ok (by decide) (by first | rfl | decide) _ _) ?_
    refine D.run 3 rfl ?_
    refine D.bind (l37_28_ok  (fun r h => hT _ (D.some h)) (fun q1 e2 he2 e3 he3 e4 he4 e5 he5 => ?_) 100000 _ _  (by first | rfl | assumption))
    refine D.inl ?_
    refine D.run 1 rfl ?_
    exact fun h => by obtain ⟨rfl, rfl⟩ := hT _ (D.some h); exact Rn.ret rfl rfl (by first | rfl | (simp [rt1, rt]; done) | decide)
  · refine D.run 1 rfl ?_
    exact fun h => by obtain ⟨rfl, rfl⟩ := hT _ (D.some h); exact Rn.ret rfl rfl (by first | rfl | (simp [rt1, rt]; done) | decide)
set_option maxRecDepth 20000 in
theorem x37_ok {E : Xe} {R : Nat → Nat → Option Nat} {I : St} {a1 a2 : Int32} {q : Int32} (h : x37 I a1 a2 = some q) : Rn E 37 (0, loc0 37 [.ref 36, .int a1, .int a2], [], wT I R) (.returned (some (.int q))) (wT I R) := x37_D  _ _ (T := fun r => r = q) (by rintro r rfl; exact ⟨rfl, rfl⟩) ⟨_, h, rfl⟩
/-- TaintHouse$Names.put(I)V -/
def x38 (I : St) (a1 : Int32) : Option (St) := Lt (up2 (tset (tadd I 39) 39 (tadr I 39) 0 a1) 36 4 ((((tset (tadd I 39) 39 (tadr I 39) 0 a1) 36 4) * 31) + a1)) fun J1 => some J1
set_option maxRecDepth 20000 in
theorem x38_D {E : Xe} {R : Nat → Nat → Option Nat} {o : Outcome} {w : Wd} {T : (St) → Prop} {I : St} (a1 : Int32) (hT : ∀ r, T r → o = .returned none ∧ w = wT r R) : Dq (x38 I a1) T → Rn E 38 (0, loc0 38 [.ref 36, .int a1], [], wT I R) o w := by
  unfold x38
  refine D.run 4 rfl ?_
  refine D.ce rfl rfl rfl rfl (tadd_ok (by decide) (by first | rfl | decide)) ?_
  refine D.run 2 rfl ?_
  refine D.ce rfl rfl rfl rfl (tset_ok (by decide) (by first | rfl | decide) _ _ _) ?_
  refine D.run 8 rfl ?_
  refine D.letS (fun J1 => ?_)
  show _ → Rn E 38 (29, [.ref 36, .int a1], [], wT J1 R) o w
  exact fun h => by obtain ⟨rfl, rfl⟩ := hT _ (D.some h); exact Rn.ret rfl rfl rfl
set_option maxRecDepth 20000 in
theorem x38_ok {E : Xe} {R : Nat → Nat → Option Nat} {I : St} {a1 : Int32} {q : St} (h : x38 I a1 = some q) : Rn E 38 (0, loc0 38 [.ref 36, .int a1], [], wT I R) (.returned none) (wT q R) := x38_D  _ (T := fun r => r = q) (by rintro r rfl; exact ⟨rfl, rfl⟩) ⟨_, h, rfl⟩
/-- TaintHouse$Lexer.byteAt(I)I -/
def x39 (I : St) (a1 : Int32) : Int32 := (tget I 1 a1 0)
set_option maxRecDepth 20000 in
theorem x39_ok {E : Xe} {R : Nat → Nat → Option Nat} {I : St} (a1 : Int32) : Rn E 39 (0, loc0 39 [.ref 33, .int a1], [], wT I R) (.returned (some (.int (x39 I a1)))) (wT I R) := by
  have H : ∀ (o : Outcome) (w : Wd) (T : Int32 → Prop), (∀ r, T r → o = .returned (some (.int r)) ∧ w = wT I R) → Dq (some (x39 I a1)) T → Rn E 39 (0, loc0 39 [.ref 33, .int a1], [], wT I R) o w := by
    intro o w T hT
    unfold x39
    refine D.run 4 rfl ?_
    refine D.ce rfl rfl rfl rfl (tget_ok (by decide) (by first | rfl | decide) _ _) ?_
    exact fun h => by obtain ⟨rfl, rfl⟩ := hT _ (D.some h); exact Rn.ret rfl rfl rfl
  exact H _ _ (fun r => r = x39 I a1) (by rintro r rfl; exact ⟨rfl, rfl⟩) ⟨_, rfl, rfl⟩
/-- TaintHouse$Lexer.isBlank(I)Z -/
def x40 (I : St) (a0 : Int32) : Int32 := if a0 = 9 then 1 else if a0 = 10 then 1 else if a0 = 13 then 1 else if a0 = 32 then 1 else 0
set_option maxRecDepth 20000 in
theorem x40_ok {E : Xe} {R : Nat → Nat → Option Nat} {I : St} (a0 : Int32) : Rn E 40 (0, loc0 40 [.int a0], [], wT I R) (.returned (some (.int (x40 I a0)))) (wT I R) := by
  have H : ∀ (o : Outcome) (w : Wd) (T : Int32 → Prop), (∀ r, T r → o = .returned (some (.int r)) ∧ w = wT I R) → Dq (some (x40 I a0)) T → Rn E 40 (0, loc0 40 [.int a0], [], wT I R) o w := by
    intro o w T hT
    unfold x40
    refine D.run 2 rfl ?_
    refine D.brp rfl (by decide) rfl (fun hc => ?_) (fun hc => ?_)
    · refine D.run 2 rfl ?_
      exact fun h => by obtain ⟨rfl, rfl⟩ := hT _ (D.some h); exact Rn.ret rfl rfl (by first | rfl | (simp [rt1, rt]; done) | decide)
    · refine D.run 2 rfl ?_
      refine D.brp rfl (by decide) rfl (fun hc => ?_) (fun hc => ?_)
      · refine D.run 2 rfl ?_
        exact fun h => by obtain ⟨rfl, rfl⟩ := hT _ (D.some h); exact Rn.ret rfl rfl (by first | rfl | (simp [rt1, rt]; done) | decide)
      · refine D.run 2 rfl ?_
        refine D.brp rfl (by decide) rfl (fun hc => ?_) (fun hc => ?_)
        · refine D.run 2 rfl ?_
          exact fun h => by obtain ⟨rfl, rfl⟩ := hT _ (D.some h); exact Rn.ret rfl rfl (by first | rfl | (simp [rt1, rt]; done) | decide)
        · refine D.run 2 rfl ?_
          refine D.brp rfl (by decide) rfl (fun hc => ?_) (fun hc => ?_)
          · refine D.run 2 rfl ?_
            exact fun h => by obtain ⟨rfl, rfl⟩ := hT _ (D.some h); exact Rn.ret rfl rfl (by first | rfl | (simp [rt1, rt]; done) | decide)
          · refine D.run 1 rfl ?_
            exact fun h => by obtain ⟨rfl, rfl⟩ := hT _ (D.some h); exact Rn.ret rfl rfl (by first | rfl | (simp [rt1, rt]; done) | decide)
  exact H _ _ (fun r => r = x40 I a0) (by rintro r rfl; exact ⟨rfl, rfl⟩) ⟨_, rfl, rfl⟩
/-- TaintHouse$Lexer.endOfLine(II)I -/
def l41_2 (b2 : Int32) : Nat → Int32 → St → Option (Int32)
  | 0, _, _ => none
  | n + 1, b3, I => if b2 ≤ b3 then some b3 else if (x39 I b3) = 10 then some b3 else l41_2 b2 n (b3 + 1) I
set_option maxRecDepth 20000 in
theorem l41_2_ok {E : Xe} {R : Nat → Nat → Option Nat} {I0 : St} {o : Outcome} {w : Wd} {T : (Int32) → Prop} {b2 : Int32} (K : ∀ (q : Int32) (e1 : Value) (_ : is1 e1 = true) (e2 : Value) (_ : is1 e2 = true), T q → Rn E 41 (23, [.ref 33, e1, e2, .int q], [], wT I0 R) o w) : ∀ (n : Nat) (b3 : Int32) (d1 : Value), is1 d1 = true → Dq (l41_2 b2 n b3 I0) T → Rn E 41 (2, [.ref 33, d1, .int b2, .int b3], [], wT I0 R) o w := by
  intro n
  induction n with
  | zero => intro b3 d1 hd1; exact D.none
  | succ n ih =>
    intro b3 d1 hd1
    rw [l41_2]
    refine D.run 2 rfl ?_
    refine D.br rfl (by decide) rfl (fun hc => ?_) (fun hc => ?_)
    · exact fun h => D.to h (K _ _ (by first | rfl | assumption) _ (by first | rfl | assumption))
    · refine D.run 2 rfl ?_
      refine D.ce rfl rfl rfl rfl (x39_ok _) ?_
      refine D.run 1 rfl ?_
      refine D.br rfl (by decide) rfl (fun hc => ?_) (fun hc => ?_)
      · exact fun h => D.to h (K _ _ (by first | rfl | assumption) _ (by first | rfl | assumption))
      · refine D.run 2 rfl ?_
        exact ih _ _  (by first | rfl | assumption)
def x41 (I : St) (a1 a2 : Int32) : Option (Int32) := (l41_2 a2 100000 a1 I).bind fun q1 => some q1
set_option maxRecDepth 20000 in
theorem x41_D {E : Xe} {R : Nat → Nat → Option Nat} {o : Outcome} {w : Wd} {T : (Int32) → Prop} {I : St} (a1 a2 : Int32) (hT : ∀ r, T r → o = .returned (some (.int r)) ∧ w = wT I R) : Dq (x41 I a1 a2) T → Rn E 41 (0, loc0 41 [.ref 33, .int a1, .int a2], [], wT I R) o w := by
  unfold x41
  refine D.run 2 rfl ?_
  refine D.bind (l41_2_ok  (fun q1 e2 he2 e3 he3 => ?_) 100000 _ _  (by first | rfl | assumption))
  refine D.run 1 rfl ?_
  exact fun h => by obtain ⟨rfl, rfl⟩ := hT _ (D.some h); exact Rn.ret rfl rfl rfl
set_option maxRecDepth 20000 in
theorem x41_ok {E : Xe} {R : Nat → Nat → Option Nat} {I : St} {a1 a2 : Int32} {q : Int32} (h : x41 I a1 a2 = some q) : Rn E 41 (0, loc0 41 [.ref 33, .int a1, .int a2], [], wT I R) (.returned (some (.int q))) (wT I R) := x41_D  _ _ (T := fun r => r = q) (by rintro r rfl; exact ⟨rfl, rfl⟩) ⟨_, h, rfl⟩
/-- TaintHouse$Lexer.isLetter(I)Z -/
def x42 (I : St) (a0 : Int32) : Int32 := if a0 < 97 then if a0 < 65 then 0 else if 90 < a0 then 0 else 1 else if a0 ≤ 122 then 1 else if a0 < 65 then 0 else if 90 < a0 then 0 else 1
set_option maxRecDepth 20000 in
theorem x42_ok {E : Xe} {R : Nat → Nat → Option Nat} {I : St} (a0 : Int32) : Rn E 42 (0, loc0 42 [.int a0], [], wT I R) (.returned (some (.int (x42 I a0)))) (wT I R) := by
  have H : ∀ (o : Outcome) (w : Wd) (T : Int32 → Prop), (∀ r, T r → o = .returned (some (.int r)) ∧ w = wT I R) → Dq (some (x42 I a0)) T → Rn E 42 (0, loc0 42 [.int a0], [], wT I R) o w := by
    intro o w T hT
    unfold x42
    refine D.run 2 rfl ?_
    refine D.brp rfl (by decide) rfl (fun hc => ?_) (fun hc => ?_)
    · refine D.run 2 rfl ?_
      refine D.brp rfl (by decide) rfl (fun hc => ?_) (fun hc => ?_)
      · refine D.run 1 rfl ?_
        exact fun h => by obtain ⟨rfl, rfl⟩ := hT _ (D.some h); exact Rn.ret rfl rfl (by first | rfl | (simp [rt1, rt]; done) | decide)
      · refine D.run 2 rfl ?_
        refine D.brp rfl (by decide) rfl (fun hc => ?_) (fun hc => ?_)
        · refine D.run 1 rfl ?_
          exact fun h => by obtain ⟨rfl, rfl⟩ := hT _ (D.some h); exact Rn.ret rfl rfl (by first | rfl | (simp [rt1, rt]; done) | decide)
        · refine D.run 2 rfl ?_
          exact fun h => by obtain ⟨rfl, rfl⟩ := hT _ (D.some h); exact Rn.ret rfl rfl (by first | rfl | (simp [rt1, rt]; done) | decide)
    · refine D.run 2 rfl ?_
      refine D.brp rfl (by decide) rfl (fun hc => ?_) (fun hc => ?_)
      · refine D.run 2 rfl ?_
        exact fun h => by obtain ⟨rfl, rfl⟩ := hT _ (D.some h); exact Rn.ret rfl rfl (by first | rfl | (simp [rt1, rt]; done) | decide)
      · refine D.run 2 rfl ?_
        refine D.brp rfl (by decide) rfl (fun hc => ?_) (fun hc => ?_)
        · refine D.run 1 rfl ?_
          exact fun h => by obtain ⟨rfl, rfl⟩ := hT _ (D.some h); exact Rn.ret rfl rfl (by first | rfl | (simp [rt1, rt]; done) | decide)
        · refine D.run 2 rfl ?_
          refine D.brp rfl (by decide) rfl (fun hc => ?_) (fun hc => ?_)
          · refine D.run 1 rfl ?_
            exact fun h => by obtain ⟨rfl, rfl⟩ := hT _ (D.some h); exact Rn.ret rfl rfl (by first | rfl | (simp [rt1, rt]; done) | decide)
          · refine D.run 2 rfl ?_
            exact fun h => by obtain ⟨rfl, rfl⟩ := hT _ (D.some h); exact Rn.ret rfl rfl (by first | rfl | (simp [rt1, rt]; done) | decide)
  exact H _ _ (fun r => r = x42 I a0) (by rintro r rfl; exact ⟨rfl, rfl⟩) ⟨_, rfl, rfl⟩
/-- TaintHouse$Lexer.isDigit(I)Z -/
def x44 (I : St) (a0 : Int32) : Int32 := if a0 < 48 then 0 else if 57 < a0 then 0 else 1
set_option maxRecDepth 20000 in
theorem x44_ok {E : Xe} {R : Nat → Nat → Option Nat} {I : St} (a0 : Int32) : Rn E 44 (0, loc0 44 [.int a0], [], wT I R) (.returned (some (.int (x44 I a0)))) (wT I R) := by
  have H : ∀ (o : Outcome) (w : Wd) (T : Int32 → Prop), (∀ r, T r → o = .returned (some (.int r)) ∧ w = wT I R) → Dq (some (x44 I a0)) T → Rn E 44 (0, loc0 44 [.int a0], [], wT I R) o w := by
    intro o w T hT
    unfold x44
    refine D.run 2 rfl ?_
    refine D.brp rfl (by decide) rfl (fun hc => ?_) (fun hc => ?_)
    · refine D.run 1 rfl ?_
      exact fun h => by obtain ⟨rfl, rfl⟩ := hT _ (D.some h); exact Rn.ret rfl rfl (by first | rfl | (simp [rt1, rt]; done) | decide)
    · refine D.run 2 rfl ?_
      refine D.brp rfl (by decide) rfl (fun hc => ?_) (fun hc => ?_)
      · refine D.run 1 rfl ?_
        exact fun h => by obtain ⟨rfl, rfl⟩ := hT _ (D.some h); exact Rn.ret rfl rfl (by first | rfl | (simp [rt1, rt]; done) | decide)
      · refine D.run 2 rfl ?_
        exact fun h => by obtain ⟨rfl, rfl⟩ := hT _ (D.some h); exact Rn.ret rfl rfl (by first | rfl | (simp [rt1, rt]; done) | decide)
  exact H _ _ (fun r => r = x44 I a0) (by rintro r rfl; exact ⟨rfl, rfl⟩) ⟨_, rfl, rfl⟩
/-- TaintHouse$Lexer.addToken(III)V -/
def x45 (I : St) (a1 a2 a3 : Int32) : Option (St) := Lt (tset (tset (tset (tadd I 34) 34 (tadr I 34) 0 a1) 34 (tadr I 34) 1 a2) 34 (tadr I 34) 2 a3) fun J1 => some J1
set_option maxRecDepth 20000 in
theorem x45_D {E : Xe} {R : Nat → Nat → Option Nat} {o : Outcome} {w : Wd} {T : (St) → Prop} {I : St} (a1 a2 a3 : Int32) (hT : ∀ r, T r → o = .returned none ∧ w = wT r R) : Dq (x45 I a1 a2 a3) T → Rn E 45 (0, loc0 45 [.ref 33, .int a1, .int a2, .int a3], [], wT I R) o w := by
  unfold x45
  refine D.run 2 rfl ?_
  refine D.ce rfl rfl rfl rfl (tadd_ok (by decide) (by first | rfl | decide)) ?_
  refine D.run 6 rfl ?_
  refine D.ce rfl rfl rfl rfl (tset_ok (by decide) (by first | rfl | decide) _ _ _) ?_
  refine D.run 5 rfl ?_
  refine D.ce rfl rfl rfl rfl (tset_ok (by decide) (by first | rfl | decide) _ _ _) ?_
  show _ → Rn E 45 (31, [.ref 33, .int a1, .int a2, .int a3, .int (tadr I 34)], [], wT (tset (tset (tadd I 34) 34 (tadr I 34) 0 a1) 34 (tadr I 34) 1 a2) R) o w
  refine D.run 5 rfl ?_
  refine D.ce rfl rfl rfl rfl (tset_ok (by decide) (by first | rfl | decide) _ _ _) ?_
  refine D.letS (fun J1 => ?_)
  exact fun h => by obtain ⟨rfl, rfl⟩ := hT _ (D.some h); exact Rn.ret rfl rfl rfl
set_option maxRecDepth 20000 in
theorem x45_ok {E : Xe} {R : Nat → Nat → Option Nat} {I : St} {a1 a2 a3 : Int32} {q : St} (h : x45 I a1 a2 a3 = some q) : Rn E 45 (0, loc0 45 [.ref 33, .int a1, .int a2, .int a3], [], wT I R) (.returned none) (wT q R) := x45_D  _ _ _ (T := fun r => r = q) (by rintro r rfl; exact ⟨rfl, rfl⟩) ⟨_, h, rfl⟩
/-- TaintHouse$Lexer.scanNumber(II)I -/
def l46_5 (b1 : Int32) (b2 : Int32) : Nat → Int32 → Int64 → St → Option (Int32 × Int64)
  | 0, _, _, _ => none
  | n + 1, b3, b4, I => if b2 ≤ b3 then some (b3, b4) else if (x44 I (x39 I b3)) = 0 then some (b3, b4) else if (lg_cmp b4 (0 : Int64)) = 0 then if b3 = b1 then l46_5 b1 b2 n (b3 + 1) (if (2147483649 : Int64) < (((b4 * (10 : Int64)) + (Int32.toInt64 (x39 I b3))) - (48 : Int64)) then (2147483649 : Int64) else (((b4 * (10 : Int64)) + (Int32.toInt64 (x39 I b3))) - (48 : Int64))) I else some (b3, b4) else l46_5 b1 b2 n (b3 + 1) (if (2147483649 : Int64) < (((b4 * (10 : Int64)) + (Int32.toInt64 (x39 I b3))) - (48 : Int64)) then (2147483649 : Int64) else (((b4 * (10 : Int64)) + (Int32.toInt64 (x39 I b3))) - (48 : Int64))) I
set_option maxRecDepth 20000 in
theorem l46_5_ok {E : Xe} {R : Nat → Nat → Option Nat} {I0 : St} {o : Outcome} {w : Wd} {T : (Int32 × Int64) → Prop} {b1 : Int32} {b2 : Int32} (K : ∀ (q : Int32 × Int64) (e2 : Value) (_ : is1 e2 = true), T q → Rn E 46 (64, [.ref 33, .int b1, e2, .int q.1, .long q.2, us], [], wT I0 R) o w) : ∀ (n : Nat) (b3 : Int32) (b4 : Int64), Dq (l46_5 b1 b2 n b3 b4 I0) T → Rn E 46 (5, [.ref 33, .int b1, .int b2, .int b3, .long b4, us], [], wT I0 R) o w := by
  intro n
  induction n with
  | zero => intro b3 b4; exact D.none
  | succ n ih =>
    intro b3 b4
    rw [l46_5]
    refine D.run 2 rfl ?_
    refine D.br rfl (by decide) rfl (fun hc => ?_) (fun hc => ?_)
    · exact fun h => D.to h (K _ _ (by first | rfl | assumption))
    · refine D.run 2 rfl ?_
      refine D.ce rfl rfl rfl rfl (x39_ok _) ?_
      refine D.ce rfl rfl rfl rfl (x44_ok _) ?_
      refine D.br rfl (by decide) rfl (fun hc => ?_) (fun hc => ?_)
      · exact fun h => D.to h (K _ _ (by first | rfl | assumption))
      · refine D.run 3 rfl ?_
        refine D.br rfl (by decide) rfl (fun hc => ?_) (fun hc => ?_)
        · refine D.run 2 rfl ?_
          refine D.br rfl (by decide) rfl (fun hc => ?_) (fun hc => ?_)
          · refine D.run 5 rfl ?_
            refine D.ce rfl rfl rfl rfl (x39_ok _) ?_
            refine D.run 5 rfl ?_
            refine D.pr rfl rfl rfl rfl ?_
            refine D.run 3 rfl ?_
            exact ih _ _  
          · exact fun h => D.to h (K _ _ (by first | rfl | assumption))
        · refine D.run 5 rfl ?_
          refine D.ce rfl rfl rfl rfl (x39_ok _) ?_
          refine D.run 5 rfl ?_
          refine D.pr rfl rfl rfl rfl ?_
          refine D.run 3 rfl ?_
          exact ih _ _  
def x46 (I : St) (a1 a2 : Int32) : Option (Int32 × St) := (l46_5 a1 a2 100000 a1 (0 : Int64) I).bind fun q1 => if (lg_cmp q1.2 (2147483648 : Int64)) ≤ 0 then (if (lg_cmp q1.2 (2147483648 : Int64)) = 0 then some 5 else some 4).bind fun (q3 : Int32) => (x45 I q3 a1 (Int64.toInt32 q1.2)).bind fun q4 => some (q1.1, q4) else (x45 I 7 a1 0).bind fun q5 => some (q1.1, q5)
set_option maxRecDepth 20000 in
theorem x46_D {E : Xe} {R : Nat → Nat → Option Nat} {o : Outcome} {w : Wd} {T : (Int32 × St) → Prop} {I : St} (a1 a2 : Int32) (hT : ∀ r, T r → o = .returned (some (.int r.1)) ∧ w = wT r.2 R) : Dq (x46 I a1 a2) T → Rn E 46 (0, loc0 46 [.ref 33, .int a1, .int a2], [], wT I R) o w := by
  unfold x46
  refine D.run 4 rfl ?_
  refine D.bind (l46_5_ok  (fun q1 e2 he2 => ?_) 100000 _ _   )
  refine D.run 3 rfl ?_
  refine D.br rfl (by decide) rfl (fun hc => ?_) (fun hc => ?_)
  · refine D.run 4 rfl ?_
    have Kj99 : ∀ (q3 : Int32), Dq ((x45 I q3 a1 (Int64.toInt32 q1.2)).bind fun q4 => some (q1.1, q4)) T → Rn E 46 (99, [.ref 33, .int a1, e2, .int q1.1, .long q1.2, us], [.int q3, .ref 33], wT I R) o w := by
      intro q3
      refine D.run 3 rfl ?_
      refine D.call rfl rfl rfl rfl (fun q h => x45_ok h) (fun q4 => ?_)
      refine D.run 1 rfl ?_
      exact fun h => by obtain ⟨rfl, rfl⟩ := hT _ (D.some h); exact Rn.ret rfl rfl rfl
    refine D.jn (fun T99 c99 => ?_)
    refine D.br rfl (by decide) rfl (fun hc => ?_) (fun hc => ?_)
    · refine D.run 2 rfl ?_
      exact fun h => Kj99 _   (c99 _ (D.some h))
    · refine D.run 1 rfl ?_
      exact fun h => Kj99 _   (c99 _ (D.some h))
  · refine D.run 4 rfl ?_
    refine D.call rfl rfl rfl rfl (fun q h => x45_ok h) (fun q5 => ?_)
    refine D.run 2 rfl ?_
    exact fun h => by obtain ⟨rfl, rfl⟩ := hT _ (D.some h); exact Rn.ret rfl rfl rfl
set_option maxRecDepth 20000 in
theorem x46_ok {E : Xe} {R : Nat → Nat → Option Nat} {I : St} {a1 a2 : Int32} {q : Int32 × St} (h : x46 I a1 a2 = some q) : Rn E 46 (0, loc0 46 [.ref 33, .int a1, .int a2], [], wT I R) (.returned (some (.int q.1))) (wT q.2 R) := x46_D  _ _ (T := fun r => r = q) (by rintro r rfl; exact ⟨rfl, rfl⟩) ⟨_, h, rfl⟩
/-- TaintHouse$Draft.reset()V -/
def x54 (I : St) : Option (St) := Lt (tresize (tresize (tresize (tresize (tresize (tresize I 44 7) 46 0) 48 0) 50 0) 52 0) 54 0) fun J1 => some J1
set_option maxRecDepth 20000 in
theorem x54_D {E : Xe} {R : Nat → Nat → Option Nat} {o : Outcome} {w : Wd} {T : (St) → Prop} {I : St} (hT : ∀ r, T r → o = .returned none ∧ w = wT r R) : Dq (x54 I) T → Rn E 54 (0, loc0 54 [.ref 43], [], wT I R) o w := by
  unfold x54
  refine D.run 3 rfl ?_
  refine D.ce rfl rfl rfl rfl (tresize_ok (by decide) (by first | rfl | decide) _) ?_
  refine D.run 3 rfl ?_
  refine D.ce rfl rfl rfl rfl (tresize_ok (by decide) (by first | rfl | decide) _) ?_
  refine D.run 3 rfl ?_
  refine D.ce rfl rfl rfl rfl (tresize_ok (by decide) (by first | rfl | decide) _) ?_
  show _ → Rn E 54 (25, [.ref 43], [], wT (tresize (tresize (tresize I 44 7) 46 0) 48 0) R) o w
  refine D.run 3 rfl ?_
  refine D.ce rfl rfl rfl rfl (tresize_ok (by decide) (by first | rfl | decide) _) ?_
  refine D.run 3 rfl ?_
  refine D.ce rfl rfl rfl rfl (tresize_ok (by decide) (by first | rfl | decide) _) ?_
  refine D.run 3 rfl ?_
  refine D.ce rfl rfl rfl rfl (tresize_ok (by decide) (by first | rfl | decide) _) ?_
  refine D.letS (fun J1 => ?_)
  show _ → Rn E 54 (49, [.ref 43], [], wT J1 R) o w
  exact fun h => by obtain ⟨rfl, rfl⟩ := hT _ (D.some h); exact Rn.ret rfl rfl rfl
set_option maxRecDepth 20000 in
theorem x54_ok {E : Xe} {R : Nat → Nat → Option Nat} {I : St} {q : St} (h : x54 I = some q) : Rn E 54 (0, loc0 54 [.ref 43], [], wT I R) (.returned none) (wT q R) := x54_D  (T := fun r => r = q) (by rintro r rfl; exact ⟨rfl, rfl⟩) ⟨_, h, rfl⟩
/-- TaintHouse$Parser.token()I -/
def x56 (I : St) : Int32 := if (I 56 5) = (-1) then (tget I 34 (I 56 3) 0) else 7
set_option maxRecDepth 20000 in
theorem x56_ok {E : Xe} {R : Nat → Nat → Option Nat} {I : St} : Rn E 56 (0, loc0 56 [.ref 56], [], wT I R) (.returned (some (.int (x56 I)))) (wT I R) := by
  have H : ∀ (o : Outcome) (w : Wd) (T : Int32 → Prop), (∀ r, T r → o = .returned (some (.int r)) ∧ w = wT I R) → Dq (some (x56 I)) T → Rn E 56 (0, loc0 56 [.ref 56], [], wT I R) o w := by
    intro o w T hT
    unfold x56
    refine D.run 3 rfl ?_
    refine D.brp rfl (by decide) rfl (fun hc => ?_) (fun hc => ?_)
    · refine D.run 5 rfl ?_
      refine D.ce rfl rfl rfl rfl (tget_ok (by decide) (by first | rfl | decide) _ _) ?_
      refine D.run 1 rfl ?_
      exact fun h => by obtain ⟨rfl, rfl⟩ := hT _ (D.some h); exact Rn.ret rfl rfl rfl
    · refine D.run 1 rfl ?_
      exact fun h => by obtain ⟨rfl, rfl⟩ := hT _ (D.some h); exact Rn.ret rfl rfl rfl
  exact H _ _ (fun r => r = x56 I) (by rintro r rfl; exact ⟨rfl, rfl⟩) ⟨_, rfl, rfl⟩
/-- TaintHouse$Parser.isWord(I)Z -/
def x57 (I : St) (a1 : Int32) : Int32 := if (I 56 5) = (-1) then if (tget I 34 (I 56 3) 0) = 3 then if (tget I 34 (I 56 3) 2) = a1 then 1 else 0 else 0 else 0
set_option maxRecDepth 20000 in
theorem x57_ok {E : Xe} {R : Nat → Nat → Option Nat} {I : St} (a1 : Int32) : Rn E 57 (0, loc0 57 [.ref 56, .int a1], [], wT I R) (.returned (some (.int (x57 I a1)))) (wT I R) := by
  have H : ∀ (o : Outcome) (w : Wd) (T : Int32 → Prop), (∀ r, T r → o = .returned (some (.int r)) ∧ w = wT I R) → Dq (some (x57 I a1)) T → Rn E 57 (0, loc0 57 [.ref 56, .int a1], [], wT I R) o w := by
    intro o w T hT
    unfold x57
    refine D.run 3 rfl ?_
    refine D.brp rfl (by decide) rfl (fun hc => ?_) (fun hc => ?_)
    · refine D.run 5 rfl ?_
      refine D.ce rfl rfl rfl rfl (tget_ok (by decide) (by first | rfl | decide) _ _) ?_
      refine D.run 1 rfl ?_
      refine D.brp rfl (by decide) rfl (fun hc => ?_) (fun hc => ?_)
      · refine D.run 5 rfl ?_
        refine D.ce rfl rfl rfl rfl (tget_ok (by decide) (by first | rfl | decide) _ _) ?_
        refine D.run 1 rfl ?_
        refine D.brp rfl (by decide) rfl (fun hc => ?_) (fun hc => ?_)
        · refine D.run 2 rfl ?_
          exact fun h => by obtain ⟨rfl, rfl⟩ := hT _ (D.some h); exact Rn.ret rfl rfl (by first | rfl | (simp [rt1, rt]; done) | decide)
        · refine D.run 1 rfl ?_
          exact fun h => by obtain ⟨rfl, rfl⟩ := hT _ (D.some h); exact Rn.ret rfl rfl (by first | rfl | (simp [rt1, rt]; done) | decide)
      · refine D.run 1 rfl ?_
        exact fun h => by obtain ⟨rfl, rfl⟩ := hT _ (D.some h); exact Rn.ret rfl rfl (by first | rfl | (simp [rt1, rt]; done) | decide)
    · refine D.run 1 rfl ?_
      exact fun h => by obtain ⟨rfl, rfl⟩ := hT _ (D.some h); exact Rn.ret rfl rfl (by first | rfl | (simp [rt1, rt]; done) | decide)
  exact H _ _ (fun r => r = x57 I a1) (by rintro r rfl; exact ⟨rfl, rfl⟩) ⟨_, rfl, rfl⟩
/-- TaintHouse$Parser.wrongHere()V -/
def x58 (I : St) : Option (St) := if (I 56 5) = (-1) then some (up2 I 56 5 (tget I 34 (I 56 3) 1)) else some I
set_option maxRecDepth 20000 in
theorem x58_D {E : Xe} {R : Nat → Nat → Option Nat} {o : Outcome} {w : Wd} {T : (St) → Prop} {I : St} (hT : ∀ r, T r → o = .returned none ∧ w = wT r R) : Dq (x58 I) T → Rn E 58 (0, loc0 58 [.ref 56], [], wT I R) o w := by
  unfold x58
  refine D.run 3 rfl ?_
  refine D.br rfl (by decide) rfl (fun hc => ?_) (fun hc => ?_)
  · refine D.run 6 rfl ?_
    refine D.ce rfl rfl rfl rfl (tget_ok (by decide) (by first | rfl | decide) _ _) ?_
    refine D.run 1 rfl ?_
    exact fun h => by obtain ⟨rfl, rfl⟩ := hT _ (D.some h); exact Rn.ret rfl rfl rfl
  · exact fun h => by obtain ⟨rfl, rfl⟩ := hT _ (D.some h); exact Rn.ret rfl rfl rfl
set_option maxRecDepth 20000 in
theorem x58_ok {E : Xe} {R : Nat → Nat → Option Nat} {I : St} {q : St} (h : x58 I = some q) : Rn E 58 (0, loc0 58 [.ref 56], [], wT I R) (.returned none) (wT q R) := x58_D  (T := fun r => r = q) (by rintro r rfl; exact ⟨rfl, rfl⟩) ⟨_, h, rfl⟩
/-- TaintHouse$Parser.placeHere()I -/
def x60 (I : St) : Int32 := (tget I 34 (I 56 3) 1)
set_option maxRecDepth 20000 in
theorem x60_ok {E : Xe} {R : Nat → Nat → Option Nat} {I : St} : Rn E 60 (0, loc0 60 [.ref 56], [], wT I R) (.returned (some (.int (x60 I)))) (wT I R) := by
  have H : ∀ (o : Outcome) (w : Wd) (T : Int32 → Prop), (∀ r, T r → o = .returned (some (.int r)) ∧ w = wT I R) → Dq (some (x60 I)) T → Rn E 60 (0, loc0 60 [.ref 56], [], wT I R) o w := by
    intro o w T hT
    unfold x60
    refine D.run 5 rfl ?_
    refine D.ce rfl rfl rfl rfl (tget_ok (by decide) (by first | rfl | decide) _ _) ?_
    exact fun h => by obtain ⟨rfl, rfl⟩ := hT _ (D.some h); exact Rn.ret rfl rfl rfl
  exact H _ _ (fun r => r = x60 I) (by rintro r rfl; exact ⟨rfl, rfl⟩) ⟨_, rfl, rfl⟩
/-- TaintHouse$Parser.isSign(I)Z -/
def x61 (I : St) (a1 : Int32) : Int32 := if (I 56 5) = (-1) then if (tget I 34 (I 56 3) 0) = 6 then if (tget I 34 (I 56 3) 2) = a1 then 1 else 0 else 0 else 0
set_option maxRecDepth 20000 in
theorem x61_ok {E : Xe} {R : Nat → Nat → Option Nat} {I : St} (a1 : Int32) : Rn E 61 (0, loc0 61 [.ref 56, .int a1], [], wT I R) (.returned (some (.int (x61 I a1)))) (wT I R) := by
  have H : ∀ (o : Outcome) (w : Wd) (T : Int32 → Prop), (∀ r, T r → o = .returned (some (.int r)) ∧ w = wT I R) → Dq (some (x61 I a1)) T → Rn E 61 (0, loc0 61 [.ref 56, .int a1], [], wT I R) o w := by
    intro o w T hT
    unfold x61
    refine D.run 3 rfl ?_
    refine D.brp rfl (by decide) rfl (fun hc => ?_) (fun hc => ?_)
    · refine D.run 5 rfl ?_
      refine D.ce rfl rfl rfl rfl (tget_ok (by decide) (by first | rfl | decide) _ _) ?_
      refine D.run 1 rfl ?_
      refine D.brp rfl (by decide) rfl (fun hc => ?_) (fun hc => ?_)
      · refine D.run 5 rfl ?_
        refine D.ce rfl rfl rfl rfl (tget_ok (by decide) (by first | rfl | decide) _ _) ?_
        refine D.run 1 rfl ?_
        refine D.brp rfl (by decide) rfl (fun hc => ?_) (fun hc => ?_)
        · refine D.run 2 rfl ?_
          exact fun h => by obtain ⟨rfl, rfl⟩ := hT _ (D.some h); exact Rn.ret rfl rfl (by first | rfl | (simp [rt1, rt]; done) | decide)
        · refine D.run 1 rfl ?_
          exact fun h => by obtain ⟨rfl, rfl⟩ := hT _ (D.some h); exact Rn.ret rfl rfl (by first | rfl | (simp [rt1, rt]; done) | decide)
      · refine D.run 1 rfl ?_
        exact fun h => by obtain ⟨rfl, rfl⟩ := hT _ (D.some h); exact Rn.ret rfl rfl (by first | rfl | (simp [rt1, rt]; done) | decide)
    · refine D.run 1 rfl ?_
      exact fun h => by obtain ⟨rfl, rfl⟩ := hT _ (D.some h); exact Rn.ret rfl rfl (by first | rfl | (simp [rt1, rt]; done) | decide)
  exact H _ _ (fun r => r = x61 I a1) (by rintro r rfl; exact ⟨rfl, rfl⟩) ⟨_, rfl, rfl⟩
/-- TaintHouse$Parser.takeSign(I)V -/
def x62 (I : St) (a1 : Int32) : Option (St) := if (x61 I a1) = 0 then (x58 I).bind fun q1 => some q1 else some (up2 I 56 3 ((I 56 3) + 1))
set_option maxRecDepth 20000 in
theorem x62_D {E : Xe} {R : Nat → Nat → Option Nat} {o : Outcome} {w : Wd} {T : (St) → Prop} {I : St} (a1 : Int32) (hT : ∀ r, T r → o = .returned none ∧ w = wT r R) : Dq (x62 I a1) T → Rn E 62 (0, loc0 62 [.ref 56, .int a1], [], wT I R) o w := by
  unfold x62
  refine D.run 2 rfl ?_
  refine D.ce rfl rfl rfl rfl (x61_ok _) ?_
  refine D.br rfl (by decide) rfl (fun hc => ?_) (fun hc => ?_)
  · refine D.run 1 rfl ?_
    refine D.call rfl rfl rfl rfl (fun q h => x58_ok h) (fun q1 => ?_)
    exact fun h => by obtain ⟨rfl, rfl⟩ := hT _ (D.some h); exact Rn.ret rfl rfl rfl
  · refine D.run 7 rfl ?_
    exact fun h => by obtain ⟨rfl, rfl⟩ := hT _ (D.some h); exact Rn.ret rfl rfl rfl
set_option maxRecDepth 20000 in
theorem x62_ok {E : Xe} {R : Nat → Nat → Option Nat} {I : St} {a1 : Int32} {q : St} (h : x62 I a1 = some q) : Rn E 62 (0, loc0 62 [.ref 56, .int a1], [], wT I R) (.returned none) (wT q R) := x62_D  _ (T := fun r => r = q) (by rintro r rfl; exact ⟨rfl, rfl⟩) ⟨_, h, rfl⟩
/-- TaintHouse$Parser.thisClass()I -/
def x65 (P : Nat) (I : St) : Int32 := ((I (P + 1) 3) - 1)
set_option maxRecDepth 20000 in
theorem x65_ok {E : Xe} {R : Nat → Nat → Option Nat} {P : Nat} {I : St} (hP : P = 3 ∨ P = 18) (h56_2 : R 56 2 = some P) : Rn E 65 (0, loc0 65 [.ref 56], [], wT I R) (.returned (some (.int (x65 P I)))) (wT I R) := by
  have H : ∀ (o : Outcome) (w : Wd) (T : Int32 → Prop), (∀ r, T r → o = .returned (some (.int r)) ∧ w = wT I R) → Dq (some (x65 P I)) T → Rn E 65 (0, loc0 65 [.ref 56], [], wT I R) o w := by
    intro o w T hT
    unfold x65
    rcases hP with rfl | rfl
    all_goals
      refine D.run 1 rfl ?_
      refine D.st rfl (by decide) (gf_1 h56_2) ?_
      refine D.run 1 rfl ?_
      refine D.ce rfl rfl rfl rfl (tsize_ok (by decide) (by first | rfl | decide)) ?_
      refine D.run 2 rfl ?_
      exact fun h => by obtain ⟨rfl, rfl⟩ := hT _ (D.some h); exact Rn.ret rfl rfl rfl
  exact H _ _ (fun r => r = x65 P I) (by rintro r rfl; exact ⟨rfl, rfl⟩) ⟨_, rfl, rfl⟩
/-- TaintHouse$Parser.takeKind(Z)I -/
def x67 (I : St) (a1 : Int32) : Option (Int32 × St) := (if (x57 I 64) = 0 then if (x57 I 65) = 0 then some 0 else some 2 else some 1).bind fun (q1 : Int32) => if q1 = 0 then if a1 = 0 then (x58 I).bind fun q2 => some (0, q2) else if (x57 I 66) = 0 then (x58 I).bind fun q3 => some (0, q3) else some (q1, (up2 I 56 3 ((I 56 3) + 1))) else some (q1, (up2 I 56 3 ((I 56 3) + 1)))
set_option maxRecDepth 20000 in
theorem x67_D {E : Xe} {R : Nat → Nat → Option Nat} {o : Outcome} {w : Wd} {T : (Int32 × St) → Prop} {I : St} (a1 : Int32) (hT : ∀ r, T r → o = .returned (some (.int r.1)) ∧ w = wT r.2 R) : Dq (x67 I a1) T → Rn E 67 (0, loc0 67 [.ref 56, .int a1], [], wT I R) o w := by
  unfold x67
  refine D.run 2 rfl ?_
  refine D.ce rfl rfl rfl rfl (x57_ok _) ?_
  have Kj27 : ∀ (q1 : Int32), Dq (if q1 = 0 then if a1 = 0 then (x58 I).bind fun q2 => some (0, q2) else if (x57 I 66) = 0 then (x58 I).bind fun q3 => some (0, q3) else some (q1, (up2 I 56 3 ((I 56 3) + 1))) else some (q1, (up2 I 56 3 ((I 56 3) + 1)))) T → Rn E 67 (27, [.ref 56, .int a1, us], [.int q1], wT I R) o w := by
    intro q1
    refine D.run 2 rfl ?_
    refine D.br rfl (by decide) rfl (fun hc => ?_) (fun hc => ?_)
    · refine D.run 1 rfl ?_
      refine D.br rfl (by decide) rfl (fun hc => ?_) (fun hc => ?_)
      · refine D.run 1 rfl ?_
        refine D.call rfl rfl rfl rfl (fun q h => x58_ok h) (fun q2 => ?_)
        refine D.run 1 rfl ?_
        exact fun h => by obtain ⟨rfl, rfl⟩ := hT _ (D.some h); exact Rn.ret rfl rfl rfl
      · refine D.run 2 rfl ?_
        refine D.ce rfl rfl rfl rfl (x57_ok _) ?_
        refine D.br rfl (by decide) rfl (fun hc => ?_) (fun hc => ?_)
        · refine D.run 1 rfl ?_
          refine D.call rfl rfl rfl rfl (fun q h => x58_ok h) (fun q3 => ?_)
          refine D.run 1 rfl ?_
          exact fun h => by obtain ⟨rfl, rfl⟩ := hT _ (D.some h); exact Rn.ret rfl rfl rfl
        · refine D.run 7 rfl ?_
          exact fun h => by obtain ⟨rfl, rfl⟩ := hT _ (D.some h); exact Rn.ret rfl rfl rfl
    · refine D.run 7 rfl ?_
      exact fun h => by obtain ⟨rfl, rfl⟩ := hT _ (D.some h); exact Rn.ret rfl rfl rfl
  refine D.jn (fun T27 c27 => ?_)
  refine D.br rfl (by decide) rfl (fun hc => ?_) (fun hc => ?_)
  · refine D.run 2 rfl ?_
    refine D.ce rfl rfl rfl rfl (x57_ok _) ?_
    refine D.br rfl (by decide) rfl (fun hc => ?_) (fun hc => ?_)
    · refine D.run 1 rfl ?_
      exact fun h => Kj27 _   (c27 _ (D.some h))
    · refine D.run 2 rfl ?_
      exact fun h => Kj27 _   (c27 _ (D.some h))
  · refine D.run 2 rfl ?_
    exact fun h => Kj27 _   (c27 _ (D.some h))
set_option maxRecDepth 20000 in
theorem x67_ok {E : Xe} {R : Nat → Nat → Option Nat} {I : St} {a1 : Int32} {q : Int32 × St} (h : x67 I a1 = some q) : Rn E 67 (0, loc0 67 [.ref 56, .int a1], [], wT I R) (.returned (some (.int q.1))) (wT q.2 R) := x67_D  _ (T := fun r => r = q) (by rintro r rfl; exact ⟨rfl, rfl⟩) ⟨_, h, rfl⟩
/-- TaintHouse$Parser.readKinds(I)V -/
def l70_37 (P : Nat) (b1 : Int32) : Nat → Int32 → St → Option (Int32 × St)
  | 0, _, _ => none
  | n + 1, b2, I => if b2 ≤ 0 then some (b2, I) else if 6 ≤ b2 then some (b2, I) else if (x61 I 44) = 0 then some (b2, I) else (x67 (up2 I 56 3 ((I 56 3) + 1)) 0).bind fun q4 => l70_37 P b1 n (b2 + 1) (tset q4.2 (P + 7) b1 (10 + b2) q4.1)
set_option maxRecDepth 20000 in
theorem l70_37_ok {E : Xe} {R : Nat → Nat → Option Nat} {P : Nat} {o : Outcome} {w : Wd} {T : (Int32 × St) → Prop} {b1 : Int32} (hP : P = 3 ∨ P = 18) (h56_2 : R 56 2 = some P) (K : ∀ (q : Int32 × St), T q → Rn E 70 (92, [.ref 56, .int b1, .int q.1], [], wT q.2 R) o w) : ∀ (n : Nat) (b2 : Int32) (I : St), Dq (l70_37 P b1 n b2 I) T → Rn E 70 (37, [.ref 56, .int b1, .int b2], [], wT I R) o w := by
  rcases hP with rfl | rfl
  · intro n
    induction n with
    | zero => intro b2 I; exact D.none
    | succ n ih =>
      intro b2 I
      rw [l70_37]
      refine D.run 1 rfl ?_
      refine D.br rfl (by decide) rfl (fun hc => ?_) (fun hc => ?_)
      · exact fun h => D.to h (K _ )
      · refine D.run 2 rfl ?_
        refine D.br rfl (by decide) rfl (fun hc => ?_) (fun hc => ?_)
        · exact fun h => D.to h (K _ )
        · refine D.run 2 rfl ?_
          refine D.ce rfl rfl rfl rfl (x61_ok _) ?_
          refine D.br rfl (by decide) rfl (fun hc => ?_) (fun hc => ?_)
          · exact fun h => D.to h (K _ )
          · refine D.run 7 rfl ?_
            refine D.st rfl (by decide) (gf_1 h56_2) ?_
            refine D.run 7 rfl ?_
            refine D.call rfl rfl rfl rfl (fun q h => x67_ok h) (fun q4 => ?_)
            refine D.ce rfl rfl rfl rfl (tset_ok (by decide) (by first | rfl | decide) _ _ _) ?_
            show _ → Rn E 70 (86, [.ref 56, .int b1, .int b2], [], wT (tset q4.2 (3 + 7) b1 (10 + b2) q4.1) R) o w
            refine D.run 2 rfl ?_
            exact ih _ _ 
  · intro n
    induction n with
    | zero => intro b2 I; exact D.none
    | succ n ih =>
      intro b2 I
      rw [l70_37]
      refine D.run 1 rfl ?_
      refine D.br rfl (by decide) rfl (fun hc => ?_) (fun hc => ?_)
      · exact fun h => D.to h (K _ )
      · refine D.run 2 rfl ?_
        refine D.br rfl (by decide) rfl (fun hc => ?_) (fun hc => ?_)
        · exact fun h => D.to h (K _ )
        · refine D.run 2 rfl ?_
          refine D.ce rfl rfl rfl rfl (x61_ok _) ?_
          refine D.br rfl (by decide) rfl (fun hc => ?_) (fun hc => ?_)
          · exact fun h => D.to h (K _ )
          · refine D.run 7 rfl ?_
            refine D.st rfl (by decide) (gf_1 h56_2) ?_
            refine D.run 7 rfl ?_
            refine D.call rfl rfl rfl rfl (fun q h => x67_ok h) (fun q4 => ?_)
            refine D.ce rfl rfl rfl rfl (tset_ok (by decide) (by first | rfl | decide) _ _ _) ?_
            show _ → Rn E 70 (86, [.ref 56, .int b1, .int b2], [], wT (tset q4.2 (18 + 7) b1 (10 + b2) q4.1) R) o w
            refine D.run 2 rfl ?_
            exact ih _ _ 
def x70 (P : Nat) (I : St) (a1 : Int32) : Option (St) := (x62 I 40).bind fun q1 => (if (x61 q1 41) = 0 then (x67 q1 0).bind fun q2 => some (1, (tset q2.2 (P + 7) a1 10 q2.1)) else some (0, q1)).bind fun (q3 : Int32 × St) => (l70_37 P a1 100000 q3.1 q3.2).bind fun q5 => (x62 (tset q5.2 (P + 7) a1 4 q5.1) 41).bind fun q6 => some q6
set_option maxRecDepth 20000 in
theorem x70_D {E : Xe} {R : Nat → Nat → Option Nat} {P : Nat} {o : Outcome} {w : Wd} {T : (St) → Prop} {I : St} (hP : P = 3 ∨ P = 18) (h56_2 : R 56 2 = some P) (a1 : Int32) (hT : ∀ r, T r → o = .returned none ∧ w = wT r R) : Dq (x70 P I a1) T → Rn E 70 (0, loc0 70 [.ref 56, .int a1], [], wT I R) o w := by
  unfold x70
  rcases hP with rfl | rfl
  · refine D.run 4 rfl ?_
    refine D.call rfl rfl rfl rfl (fun q h => x62_ok h) (fun q1 => ?_)
    refine D.run 2 rfl ?_
    refine D.ce rfl rfl rfl rfl (x61_ok _) ?_
    have Kj37 : ∀ (q3 : Int32 × St), Dq ((l70_37 3 a1 100000 q3.1 q3.2).bind fun q5 => (x62 (tset q5.2 (3 + 7) a1 4 q5.1) 41).bind fun q6 => some q6) T → Rn E 70 (37, [.ref 56, .int a1, .int q3.1], [], wT q3.2 R) o w := by
      intro q3
      refine D.bind (l70_37_ok (by decide) h56_2 (fun q5  => ?_) 100000 _  _ )
      refine D.run 1 rfl ?_
      refine D.st rfl (by decide) (gf_1 h56_2) ?_
      refine D.run 4 rfl ?_
      refine D.ce rfl rfl rfl rfl (tset_ok (by decide) (by first | rfl | decide) _ _ _) ?_
      refine D.run 2 rfl ?_
      refine D.call rfl rfl rfl rfl (fun q h => x62_ok h) (fun q6 => ?_)
      show _ → Rn E 70 (111, [.ref 56, .int a1, .int q5.1], [], wT q6 R) o w
      exact fun h => by obtain ⟨rfl, rfl⟩ := hT _ (D.some h); exact Rn.ret rfl rfl rfl
    refine D.jn (fun T37 c37 => ?_)
    refine D.br rfl (by decide) rfl (fun hc => ?_) (fun hc => ?_)
    · refine D.run 1 rfl ?_
      refine D.st rfl (by decide) (gf_1 h56_2) ?_
      refine D.run 5 rfl ?_
      refine D.call rfl rfl rfl rfl (fun q h => x67_ok h) (fun q2 => ?_)
      refine D.ce rfl rfl rfl rfl (tset_ok (by decide) (by first | rfl | decide) _ _ _) ?_
      show _ → Rn E 70 (35, [.ref 56, .int a1, .int 0], [], wT (tset q2.2 (3 + 7) a1 10 q2.1) R) o w
      refine D.run 2 rfl ?_
      exact fun h => Kj37 _   (c37 _ (D.some h))
    · exact fun h => Kj37 _   (c37 _ (D.some h))
  · refine D.run 4 rfl ?_
    refine D.call rfl rfl rfl rfl (fun q h => x62_ok h) (fun q1 => ?_)
    refine D.run 2 rfl ?_
    refine D.ce rfl rfl rfl rfl (x61_ok _) ?_
    have Kj37 : ∀ (q3 : Int32 × St), Dq ((l70_37 18 a1 100000 q3.1 q3.2).bind fun q5 => (x62 (tset q5.2 (18 + 7) a1 4 q5.1) 41).bind fun q6 => some q6) T → Rn E 70 (37, [.ref 56, .int a1, .int q3.1], [], wT q3.2 R) o w := by
      intro q3
      refine D.bind (l70_37_ok (by decide) h56_2 (fun q5  => ?_) 100000 _  _ )
      refine D.run 1 rfl ?_
      refine D.st rfl (by decide) (gf_1 h56_2) ?_
      refine D.run 4 rfl ?_
      refine D.ce rfl rfl rfl rfl (tset_ok (by decide) (by first | rfl | decide) _ _ _) ?_
      refine D.run 2 rfl ?_
      refine D.call rfl rfl rfl rfl (fun q h => x62_ok h) (fun q6 => ?_)
      show _ → Rn E 70 (111, [.ref 56, .int a1, .int q5.1], [], wT q6 R) o w
      exact fun h => by obtain ⟨rfl, rfl⟩ := hT _ (D.some h); exact Rn.ret rfl rfl rfl
    refine D.jn (fun T37 c37 => ?_)
    refine D.br rfl (by decide) rfl (fun hc => ?_) (fun hc => ?_)
    · refine D.run 1 rfl ?_
      refine D.st rfl (by decide) (gf_1 h56_2) ?_
      refine D.run 5 rfl ?_
      refine D.call rfl rfl rfl rfl (fun q h => x67_ok h) (fun q2 => ?_)
      refine D.ce rfl rfl rfl rfl (tset_ok (by decide) (by first | rfl | decide) _ _ _) ?_
      show _ → Rn E 70 (35, [.ref 56, .int a1, .int 0], [], wT (tset q2.2 (18 + 7) a1 10 q2.1) R) o w
      refine D.run 2 rfl ?_
      exact fun h => Kj37 _   (c37 _ (D.some h))
    · exact fun h => Kj37 _   (c37 _ (D.some h))
set_option maxRecDepth 20000 in
theorem x70_ok {E : Xe} {R : Nat → Nat → Option Nat} {P : Nat} {I : St} (hP : P = 3 ∨ P = 18) (h56_2 : R 56 2 = some P) {a1 : Int32} {q : St} (h : x70 P I a1 = some q) : Rn E 70 (0, loc0 70 [.ref 56, .int a1], [], wT I R) (.returned none) (wT q R) := x70_D hP h56_2 _ (T := fun r => r = q) (by rintro r rfl; exact ⟨rfl, rfl⟩) ⟨_, h, rfl⟩
/-- TaintHouse$Parser.thisMethod()I -/
def x72 (P : Nat) (I : St) : Int32 := ((I (P + 7) 3) - 1)
set_option maxRecDepth 20000 in
theorem x72_ok {E : Xe} {R : Nat → Nat → Option Nat} {P : Nat} {I : St} (hP : P = 3 ∨ P = 18) (h56_2 : R 56 2 = some P) : Rn E 72 (0, loc0 72 [.ref 56], [], wT I R) (.returned (some (.int (x72 P I)))) (wT I R) := by
  have H : ∀ (o : Outcome) (w : Wd) (T : Int32 → Prop), (∀ r, T r → o = .returned (some (.int r)) ∧ w = wT I R) → Dq (some (x72 P I)) T → Rn E 72 (0, loc0 72 [.ref 56], [], wT I R) o w := by
    intro o w T hT
    unfold x72
    rcases hP with rfl | rfl
    all_goals
      refine D.run 1 rfl ?_
      refine D.st rfl (by decide) (gf_1 h56_2) ?_
      refine D.run 1 rfl ?_
      refine D.ce rfl rfl rfl rfl (tsize_ok (by decide) (by first | rfl | decide)) ?_
      refine D.run 2 rfl ?_
      exact fun h => by obtain ⟨rfl, rfl⟩ := hT _ (D.some h); exact Rn.ret rfl rfl rfl
  exact H _ _ (fun r => r = x72 P I) (by rintro r rfl; exact ⟨rfl, rfl⟩) ⟨_, rfl, rfl⟩
/-- TaintHouse$Parser.content()I -/
def x74 (I : St) : Int32 := (tget I 34 (I 56 3) 2)
set_option maxRecDepth 20000 in
theorem x74_ok {E : Xe} {R : Nat → Nat → Option Nat} {I : St} : Rn E 74 (0, loc0 74 [.ref 56], [], wT I R) (.returned (some (.int (x74 I)))) (wT I R) := by
  have H : ∀ (o : Outcome) (w : Wd) (T : Int32 → Prop), (∀ r, T r → o = .returned (some (.int r)) ∧ w = wT I R) → Dq (some (x74 I)) T → Rn E 74 (0, loc0 74 [.ref 56], [], wT I R) o w := by
    intro o w T hT
    unfold x74
    refine D.run 5 rfl ?_
    refine D.ce rfl rfl rfl rfl (tget_ok (by decide) (by first | rfl | decide) _ _) ?_
    exact fun h => by obtain ⟨rfl, rfl⟩ := hT _ (D.some h); exact Rn.ret rfl rfl rfl
  exact H _ _ (fun r => r = x74 I) (by rintro r rfl; exact ⟨rfl, rfl⟩) ⟨_, rfl, rfl⟩
/-- TaintHouse.shapeOf(I)I -/
def x76 (I : St) (a0 : Int32) : Option (Int32) := if a0 < 0 then some 0 else if 59 ≤ a0 then some 0 else if inb a0 59 then some (xSHAPESL.getD (a0).toNatClampNeg 0) else none
set_option maxRecDepth 20000 in
theorem x76_D {E : Xe} {R : Nat → Nat → Option Nat} {o : Outcome} {w : Wd} {T : (Int32) → Prop} {I : St} (a0 : Int32) (hT : ∀ r, T r → o = .returned (some (.int r)) ∧ w = wT I R) : Dq (x76 I a0) T → Rn E 76 (0, loc0 76 [.int a0], [], wT I R) o w := by
  unfold x76
  refine D.run 1 rfl ?_
  refine D.br rfl (by decide) rfl (fun hc => ?_) (fun hc => ?_)
  · refine D.run 1 rfl ?_
    exact fun h => by obtain ⟨rfl, rfl⟩ := hT _ (D.some h); exact Rn.ret rfl rfl rfl
  · refine D.run 3 rfl ?_
    refine D.br rfl (by decide) rfl (fun hc => ?_) (fun hc => ?_)
    · refine D.run 1 rfl ?_
      exact fun h => by obtain ⟨rfl, rfl⟩ := hT _ (D.some h); exact Rn.ret rfl rfl rfl
    · refine D.run 2 rfl ?_
      refine D.gd fun hg => ?_
      refine D.st rfl (by decide) (xs_1 hg) ?_
      refine D.run 1 rfl ?_
      exact fun h => by obtain ⟨rfl, rfl⟩ := hT _ (D.some h); exact Rn.ret rfl rfl rfl
set_option maxRecDepth 20000 in
theorem x76_ok {E : Xe} {R : Nat → Nat → Option Nat} {I : St} {a0 : Int32} {q : Int32} (h : x76 I a0 = some q) : Rn E 76 (0, loc0 76 [.int a0], [], wT I R) (.returned (some (.int q))) (wT I R) := x76_D  _ (T := fun r => r = q) (by rintro r rfl; exact ⟨rfl, rfl⟩) ⟨_, h, rfl⟩
/-- TaintHouse$Parser.takeNumber(I)I -/
def x78 (I : St) (a1 : Int32) : Option (Int32 × St) := if (x56 I) = 4 then if (x74 I) ≤ a1 then some ((tget (up2 I 56 3 ((I 56 3) + 1)) 34 (((I 56 3) + 1) - 1) 2), (up2 I 56 3 ((I 56 3) + 1))) else (x58 I).bind fun q1 => some (0, q1) else (x58 I).bind fun q2 => some (0, q2)
set_option maxRecDepth 20000 in
theorem x78_D {E : Xe} {R : Nat → Nat → Option Nat} {o : Outcome} {w : Wd} {T : (Int32 × St) → Prop} {I : St} (a1 : Int32) (hT : ∀ r, T r → o = .returned (some (.int r.1)) ∧ w = wT r.2 R) : Dq (x78 I a1) T → Rn E 78 (0, loc0 78 [.ref 56, .int a1], [], wT I R) o w := by
  unfold x78
  refine D.run 1 rfl ?_
  refine D.ce rfl rfl rfl rfl (x56_ok) ?_
  refine D.run 1 rfl ?_
  refine D.br rfl (by decide) rfl (fun hc => ?_) (fun hc => ?_)
  · refine D.run 1 rfl ?_
    refine D.ce rfl rfl rfl rfl (x74_ok) ?_
    refine D.run 1 rfl ?_
    refine D.br rfl (by decide) rfl (fun hc => ?_) (fun hc => ?_)
    · refine D.run 13 rfl ?_
      refine D.ce rfl rfl rfl rfl (tget_ok (by decide) (by first | rfl | decide) _ _) ?_
      exact fun h => by obtain ⟨rfl, rfl⟩ := hT _ (D.some h); exact Rn.ret rfl rfl rfl
    · refine D.run 1 rfl ?_
      refine D.call rfl rfl rfl rfl (fun q h => x58_ok h) (fun q1 => ?_)
      refine D.run 1 rfl ?_
      exact fun h => by obtain ⟨rfl, rfl⟩ := hT _ (D.some h); exact Rn.ret rfl rfl rfl
  · refine D.run 1 rfl ?_
    refine D.call rfl rfl rfl rfl (fun q h => x58_ok h) (fun q2 => ?_)
    refine D.run 1 rfl ?_
    exact fun h => by obtain ⟨rfl, rfl⟩ := hT _ (D.some h); exact Rn.ret rfl rfl rfl
set_option maxRecDepth 20000 in
theorem x78_ok {E : Xe} {R : Nat → Nat → Option Nat} {I : St} {a1 : Int32} {q : Int32 × St} (h : x78 I a1 = some q) : Rn E 78 (0, loc0 78 [.ref 56, .int a1], [], wT I R) (.returned (some (.int q.1))) (wT q.2 R) := x78_D  _ (T := fun r => r = q) (by rintro r rfl; exact ⟨rfl, rfl⟩) ⟨_, h, rfl⟩
/-- TaintHouse$Linker.noteFault(II)V -/
def x83 (I : St) (a1 a2 : Int32) : Option (St) := if (I 57 3) = 0 then some (up2 (up2 I 57 3 a2) 57 4 a1) else if a1 < (I 57 4) then some (up2 (up2 I 57 3 a2) 57 4 a1) else if a1 = (I 57 4) then if (I 57 3) ≤ a2 then some I else some (up2 (up2 I 57 3 a2) 57 4 a1) else some I
set_option maxRecDepth 20000 in
theorem x83_D {E : Xe} {R : Nat → Nat → Option Nat} {o : Outcome} {w : Wd} {T : (St) → Prop} {I : St} (a1 a2 : Int32) (hT : ∀ r, T r → o = .returned none ∧ w = wT r R) : Dq (x83 I a1 a2) T → Rn E 83 (0, loc0 83 [.ref 57, .int a1, .int a2], [], wT I R) o w := by
  unfold x83
  refine D.run 2 rfl ?_
  refine D.br rfl (by decide) rfl (fun hc => ?_) (fun hc => ?_)
  · refine D.run 6 rfl ?_
    exact fun h => by obtain ⟨rfl, rfl⟩ := hT _ (D.some h); exact Rn.ret rfl rfl rfl
  · refine D.run 3 rfl ?_
    refine D.br rfl (by decide) rfl (fun hc => ?_) (fun hc => ?_)
    · refine D.run 6 rfl ?_
      exact fun h => by obtain ⟨rfl, rfl⟩ := hT _ (D.some h); exact Rn.ret rfl rfl rfl
    · refine D.run 3 rfl ?_
      refine D.br rfl (by decide) rfl (fun hc => ?_) (fun hc => ?_)
      · refine D.run 3 rfl ?_
        refine D.br rfl (by decide) rfl (fun hc => ?_) (fun hc => ?_)
        · exact fun h => by obtain ⟨rfl, rfl⟩ := hT _ (D.some h); exact Rn.ret rfl rfl rfl
        · refine D.run 6 rfl ?_
          exact fun h => by obtain ⟨rfl, rfl⟩ := hT _ (D.some h); exact Rn.ret rfl rfl rfl
      · exact fun h => by obtain ⟨rfl, rfl⟩ := hT _ (D.some h); exact Rn.ret rfl rfl rfl
set_option maxRecDepth 20000 in
theorem x83_ok {E : Xe} {R : Nat → Nat → Option Nat} {I : St} {a1 a2 : Int32} {q : St} (h : x83 I a1 a2 = some q) : Rn E 83 (0, loc0 83 [.ref 57, .int a1, .int a2], [], wT I R) (.returned none) (wT q R) := x83_D  _ _ (T := fun r => r = q) (by rintro r rfl; exact ⟨rfl, rfl⟩) ⟨_, h, rfl⟩
/-- TaintHouse$Linker.linkFields()V -/
def l84_71 (P : Nat) (b1 : Int32) (b2 : Int32) (b3 : Int32) (b4 : Int32) : Nat → Int32 → St → Option (St)
  | 0, _, _ => none
  | n + 1, b5, I => if b4 ≤ b5 then some I else l84_71 P b1 b2 b3 b4 n (b5 + 1) (tset I (P + 3) (b3 + b5) 4 (b2 + b5))
set_option maxRecDepth 20000 in
theorem l84_71_ok {E : Xe} {R : Nat → Nat → Option Nat} {P : Nat} {o : Outcome} {w : Wd} {T : (St) → Prop} {b1 : Int32} {b2 : Int32} {b3 : Int32} {b4 : Int32} (hP : P = 3 ∨ P = 18) (h57_2 : R 57 2 = some P) (K : ∀ (q : St) (e3 : Value) (_ : is1 e3 = true) (e5 : Value) (_ : is1 e5 = true), T q → Rn E 84 (103, [.ref 57, .int b1, .int b2, e3, .int b4, e5], [], wT q R) o w) : ∀ (n : Nat) (b5 : Int32) (I : St), Dq (l84_71 P b1 b2 b3 b4 n b5 I) T → Rn E 84 (71, [.ref 57, .int b1, .int b2, .int b3, .int b4, .int b5], [], wT I R) o w := by
  rcases hP with rfl | rfl
  all_goals
    intro n
    induction n with
    | zero => intro b5 I; exact D.none
    | succ n ih =>
      intro b5 I
      rw [l84_71]
      refine D.run 2 rfl ?_
      refine D.br rfl (by decide) rfl (fun hc => ?_) (fun hc => ?_)
      · exact fun h => D.to h (K _ _ (by first | rfl | assumption) _ (by first | rfl | assumption))
      · refine D.run 1 rfl ?_
        refine D.st rfl (by decide) (gf_1 h57_2) ?_
        refine D.run 8 rfl ?_
        refine D.ce rfl rfl rfl rfl (tset_ok (by decide) (by first | rfl | decide) _ _ _) ?_
        refine D.run 2 rfl ?_
        exact ih _ _ 
def l84_3 (P : Nat) : Nat → Int32 → St → Option (St)
  | 0, _, _ => none
  | n + 1, b1, I => if (I (P + 1) 3) ≤ b1 then some I else (l84_71 P b1 (tget I (P + 1) (tget I (P + 1) b1 0) 4) (tget I (P + 1) b1 2) (tget I (P + 1) b1 3) 100000 0 I).bind fun q1 => l84_3 P n (b1 + 1) (tset q1 (P + 1) b1 4 ((tget I (P + 1) (tget I (P + 1) b1 0) 4) + (tget I (P + 1) b1 3)))
set_option maxRecDepth 20000 in
theorem l84_3_ok {E : Xe} {R : Nat → Nat → Option Nat} {P : Nat} {o : Outcome} {w : Wd} {T : (St) → Prop} (hP : P = 3 ∨ P = 18) (h57_2 : R 57 2 = some P) (K : ∀ (q : St) (e1 : Value) (_ : is1 e1 = true) (e2 : Value) (_ : is1 e2 = true) (e3 : Value) (_ : is1 e3 = true) (e4 : Value) (_ : is1 e4 = true) (e5 : Value) (_ : is1 e5 = true), T q → Rn E 84 (125, [.ref 57, e1, e2, e3, e4, e5], [], wT q R) o w) : ∀ (n : Nat) (b1 : Int32) (d2 : Value) (d3 : Value) (d4 : Value) (d5 : Value) (I : St), is1 d2 = true → is1 d3 = true → is1 d4 = true → is1 d5 = true → Dq (l84_3 P n b1 I) T → Rn E 84 (3, [.ref 57, .int b1, d2, d3, d4, d5], [], wT I R) o w := by
  rcases hP with rfl | rfl
  · intro n
    induction n with
    | zero => intro b1 d2 d3 d4 d5 I hd2 hd3 hd4 hd5; exact D.none
    | succ n ih =>
      intro b1 d2 d3 d4 d5 I hd2 hd3 hd4 hd5
      rw [l84_3]
      refine D.run 2 rfl ?_
      refine D.st rfl (by decide) (gf_1 h57_2) ?_
      refine D.run 1 rfl ?_
      refine D.ce rfl rfl rfl rfl (tsize_ok (by decide) (by first | rfl | decide)) ?_
      refine D.br rfl (by decide) rfl (fun hc => ?_) (fun hc => ?_)
      · exact fun h => D.to h (K _ _ (by first | rfl | assumption) _ (by first | rfl | assumption) _ (by first | rfl | assumption) _ (by first | rfl | assumption) _ (by first | rfl | assumption))
      · refine D.run 1 rfl ?_
        refine D.st rfl (by decide) (gf_1 h57_2) ?_
        refine D.run 2 rfl ?_
        refine D.st rfl (by decide) (gf_1 h57_2) ?_
        refine D.run 3 rfl ?_
        refine D.ce rfl rfl rfl rfl (tget_ok (by decide) (by first | rfl | decide) _ _) ?_
        show _ → Rn E 84 (36, [.ref 57, .int b1, d2, d3, d4, d5], [.int (tget I (3 + 1) b1 0), .ref (3 + 1)], wT I R) o w
        refine D.run 1 rfl ?_
        refine D.ce rfl rfl rfl rfl (tget_ok (by decide) (by first | rfl | decide) _ _) ?_
        refine D.run 2 rfl ?_
        refine D.st rfl (by decide) (gf_1 h57_2) ?_
        refine D.run 3 rfl ?_
        refine D.ce rfl rfl rfl rfl (tget_ok (by decide) (by first | rfl | decide) _ _) ?_
        show _ → Rn E 84 (53, [.ref 57, .int b1, .int (tget I (3 + 1) (tget I (3 + 1) b1 0) 4), d3, d4, d5], [.int (tget I (3 + 1) b1 2)], wT I R) o w
        refine D.run 2 rfl ?_
        refine D.st rfl (by decide) (gf_1 h57_2) ?_
        refine D.run 3 rfl ?_
        refine D.ce rfl rfl rfl rfl (tget_ok (by decide) (by first | rfl | decide) _ _) ?_
        refine D.run 3 rfl ?_
        refine D.bind (l84_71_ok (by decide) h57_2 (fun q1 e2 he2 e3 he3 => ?_) 100000 _  _ )
        refine D.run 1 rfl ?_
        refine D.st rfl (by decide) (gf_1 h57_2) ?_
        refine D.run 6 rfl ?_
        refine D.ce rfl rfl rfl rfl (tset_ok (by decide) (by first | rfl | decide) _ _ _) ?_
        refine D.run 2 rfl ?_
        exact ih _ _ _ _ _ _ (by first | rfl | assumption) (by first | rfl | assumption) (by first | rfl | assumption) (by first | rfl | assumption)
  · intro n
    induction n with
    | zero => intro b1 d2 d3 d4 d5 I hd2 hd3 hd4 hd5; exact D.none
    | succ n ih =>
      intro b1 d2 d3 d4 d5 I hd2 hd3 hd4 hd5
      rw [l84_3]
      refine D.run 2 rfl ?_
      refine D.st rfl (by decide) (gf_1 h57_2) ?_
      refine D.run 1 rfl ?_
      refine D.ce rfl rfl rfl rfl (tsize_ok (by decide) (by first | rfl | decide)) ?_
      refine D.br rfl (by decide) rfl (fun hc => ?_) (fun hc => ?_)
      · exact fun h => D.to h (K _ _ (by first | rfl | assumption) _ (by first | rfl | assumption) _ (by first | rfl | assumption) _ (by first | rfl | assumption) _ (by first | rfl | assumption))
      · refine D.run 1 rfl ?_
        refine D.st rfl (by decide) (gf_1 h57_2) ?_
        refine D.run 2 rfl ?_
        refine D.st rfl (by decide) (gf_1 h57_2) ?_
        refine D.run 3 rfl ?_
        refine D.ce rfl rfl rfl rfl (tget_ok (by decide) (by first | rfl | decide) _ _) ?_
        show _ → Rn E 84 (36, [.ref 57, .int b1, d2, d3, d4, d5], [.int (tget I (18 + 1) b1 0), .ref (18 + 1)], wT I R) o w
        refine D.run 1 rfl ?_
        refine D.ce rfl rfl rfl rfl (tget_ok (by decide) (by first | rfl | decide) _ _) ?_
        refine D.run 2 rfl ?_
        refine D.st rfl (by decide) (gf_1 h57_2) ?_
        refine D.run 3 rfl ?_
        refine D.ce rfl rfl rfl rfl (tget_ok (by decide) (by first | rfl | decide) _ _) ?_
        show _ → Rn E 84 (53, [.ref 57, .int b1, .int (tget I (18 + 1) (tget I (18 + 1) b1 0) 4), d3, d4, d5], [.int (tget I (18 + 1) b1 2)], wT I R) o w
        refine D.run 2 rfl ?_
        refine D.st rfl (by decide) (gf_1 h57_2) ?_
        refine D.run 3 rfl ?_
        refine D.ce rfl rfl rfl rfl (tget_ok (by decide) (by first | rfl | decide) _ _) ?_
        refine D.run 3 rfl ?_
        refine D.bind (l84_71_ok (by decide) h57_2 (fun q1 e2 he2 e3 he3 => ?_) 100000 _  _ )
        refine D.run 1 rfl ?_
        refine D.st rfl (by decide) (gf_1 h57_2) ?_
        refine D.run 6 rfl ?_
        refine D.ce rfl rfl rfl rfl (tset_ok (by decide) (by first | rfl | decide) _ _ _) ?_
        refine D.run 2 rfl ?_
        exact ih _ _ _ _ _ _ (by first | rfl | assumption) (by first | rfl | assumption) (by first | rfl | assumption) (by first | rfl | assumption)
def x84 (P : Nat) (I : St) : Option (St) := (l84_3 P 100000 7 I).bind fun q4 => some q4
set_option maxRecDepth 20000 in
theorem x84_D {E : Xe} {R : Nat → Nat → Option Nat} {P : Nat} {o : Outcome} {w : Wd} {T : (St) → Prop} {I : St} (hP : P = 3 ∨ P = 18) (h57_2 : R 57 2 = some P) (hT : ∀ r, T r → o = .returned none ∧ w = wT r R) : Dq (x84 P I) T → Rn E 84 (0, loc0 84 [.ref 57], [], wT I R) o w := by
  unfold x84
  rcases hP with rfl | rfl
  all_goals
    refine D.run 2 rfl ?_
    refine D.bind (l84_3_ok (by decide) h57_2 (fun q4 e5 he5 e6 he6 e7 he7 e8 he8 e9 he9 => ?_) 100000 _ _ _ _ _ _ (by first | rfl | assumption) (by first | rfl | assumption) (by first | rfl | assumption) (by first | rfl | assumption))
    exact fun h => by obtain ⟨rfl, rfl⟩ := hT _ (D.some h); exact Rn.ret rfl rfl rfl
set_option maxRecDepth 20000 in
theorem x84_ok {E : Xe} {R : Nat → Nat → Option Nat} {P : Nat} {I : St} (hP : P = 3 ∨ P = 18) (h57_2 : R 57 2 = some P) {q : St} (h : x84 P I = some q) : Rn E 84 (0, loc0 84 [.ref 57], [], wT I R) (.returned none) (wT q R) := x84_D hP h57_2 (T := fun r => r = q) (by rintro r rfl; exact ⟨rfl, rfl⟩) ⟨_, h, rfl⟩
/-- TaintHouse$Linker.lookForMembersAgain()V -/
def l85_20 (b2 : Int32) : Nat → Int32 → St → Option (St)
  | 0, _, _ => none
  | n + 1, b3, I => if b2 ≤ b3 then some I else if (tget I 46 b2 0) = (tget I 46 b3 0) then if (tget I 46 b2 2) = (tget I 46 b3 2) then (x83 I (tget I 46 b2 1) 1).bind fun q1 => l85_20 b2 n (b3 + 1) q1 else l85_20 b2 n (b3 + 1) I else l85_20 b2 n (b3 + 1) I
set_option maxRecDepth 20000 in
theorem l85_20_ok {E : Xe} {R : Nat → Nat → Option Nat} {o : Outcome} {w : Wd} {T : (St) → Prop} {b2 : Int32} (K : ∀ (q : St) (e3 : Value) (_ : is1 e3 = true), T q → Rn E 85 (72, [.ref 57, .ref 46, .int b2, e3], [], wT q R) o w) : ∀ (n : Nat) (b3 : Int32) (I : St), Dq (l85_20 b2 n b3 I) T → Rn E 85 (20, [.ref 57, .ref 46, .int b2, .int b3], [], wT I R) o w := by
  intro n
  induction n with
  | zero => intro b3 I; exact D.none
  | succ n ih =>
    intro b3 I
    rw [l85_20]
    refine D.run 2 rfl ?_
    refine D.br rfl (by decide) rfl (fun hc => ?_) (fun hc => ?_)
    · exact fun h => D.to h (K _ _ (by first | rfl | assumption))
    · refine D.run 3 rfl ?_
      refine D.ce rfl rfl rfl rfl (tget_ok (by decide) (by first | rfl | decide) _ _) ?_
      refine D.run 3 rfl ?_
      refine D.ce rfl rfl rfl rfl (tget_ok (by decide) (by first | rfl | decide) _ _) ?_
      refine D.br rfl (by decide) rfl (fun hc => ?_) (fun hc => ?_)
      · refine D.run 3 rfl ?_
        refine D.ce rfl rfl rfl rfl (tget_ok (by decide) (by first | rfl | decide) _ _) ?_
        refine D.run 3 rfl ?_
        refine D.ce rfl rfl rfl rfl (tget_ok (by decide) (by first | rfl | decide) _ _) ?_
        refine D.br rfl (by decide) rfl (fun hc => ?_) (fun hc => ?_)
        · refine D.run 4 rfl ?_
          refine D.ce rfl rfl rfl rfl (tget_ok (by decide) (by first | rfl | decide) _ _) ?_
          refine D.run 1 rfl ?_
          refine D.call rfl rfl rfl rfl (fun q h => x83_ok h) (fun q1 => ?_)
          refine D.run 2 rfl ?_
          exact ih _ _ 
        · refine D.run 2 rfl ?_
          exact ih _ _ 
      · refine D.run 2 rfl ?_
        exact ih _ _ 
def l85_10 : Nat → Int32 → St → Option (St)
  | 0, _, _ => none
  | n + 1, b2, I => if (I 46 3) ≤ b2 then some I else (l85_20 b2 100000 0 I).bind fun q2 => l85_10 n (b2 + 1) q2
set_option maxRecDepth 20000 in
theorem l85_10_ok {E : Xe} {R : Nat → Nat → Option Nat} {o : Outcome} {w : Wd} {T : (St) → Prop} (K : ∀ (q : St) (e2 : Value) (_ : is1 e2 = true) (e3 : Value) (_ : is1 e3 = true), T q → Rn E 85 (78, [.ref 57, .ref 46, e2, e3], [], wT q R) o w) : ∀ (n : Nat) (b2 : Int32) (d3 : Value) (I : St), is1 d3 = true → Dq (l85_10 n b2 I) T → Rn E 85 (10, [.ref 57, .ref 46, .int b2, d3], [], wT I R) o w := by
  intro n
  induction n with
  | zero => intro b2 d3 I hd3; exact D.none
  | succ n ih =>
    intro b2 d3 I hd3
    rw [l85_10]
    refine D.run 2 rfl ?_
    refine D.ce rfl rfl rfl rfl (tsize_ok (by decide) (by first | rfl | decide)) ?_
    refine D.br rfl (by decide) rfl (fun hc => ?_) (fun hc => ?_)
    · exact fun h => D.to h (K _ _ (by first | rfl | assumption) _ (by first | rfl | assumption))
    · refine D.run 2 rfl ?_
      refine D.bind (l85_20_ok  (fun q2 e3 he3 => ?_) 100000 _  _ )
      refine D.run 2 rfl ?_
      exact ih _ _ _ (by first | rfl | assumption)
def x85 (I : St) : Option (St) := (l85_10 100000 0 I).bind fun q4 => some q4
set_option maxRecDepth 20000 in
theorem x85_D {E : Xe} {R : Nat → Nat → Option Nat} {o : Outcome} {w : Wd} {T : (St) → Prop} {I : St} (hT : ∀ r, T r → o = .returned none ∧ w = wT r R) : Dq (x85 I) T → Rn E 85 (0, loc0 85 [.ref 57], [], wT I R) o w := by
  unfold x85
  refine D.run 6 rfl ?_
  refine D.bind (l85_10_ok  (fun q4 e5 he5 e6 he6 => ?_) 100000 _ _ _ (by first | rfl | assumption))
  exact fun h => by obtain ⟨rfl, rfl⟩ := hT _ (D.some h); exact Rn.ret rfl rfl rfl
set_option maxRecDepth 20000 in
theorem x85_ok {E : Xe} {R : Nat → Nat → Option Nat} {I : St} {q : St} (h : x85 I = some q) : Rn E 85 (0, loc0 85 [.ref 57], [], wT I R) (.returned none) (wT q R) := x85_D  (T := fun r => r = q) (by rintro r rfl; exact ⟨rfl, rfl⟩) ⟨_, h, rfl⟩
/-- TaintHouse$Program.nearest(LTaintHouse$Table;III)I -/
def l87_22 (P : Nat) (k : Nat) (b3 : Int32) (b4 : Int32) (b5 : Int32) (b6 : Int32) : Nat → Int32 → St → Option ((Unit) ⊕ (Int32))
  | 0, _, _ => none
  | n + 1, b7, I => if (I k 3) ≤ b7 then some (.inl ()) else if (tget I k b7 1) = b3 then if (tget I k b7 0) = b5 then if (tget I k b7 2) = b4 then some (.inr b7) else l87_22 P k b3 b4 b5 b6 n (b7 + 1) I else l87_22 P k b3 b4 b5 b6 n (b7 + 1) I else l87_22 P k b3 b4 b5 b6 n (b7 + 1) I
set_option maxRecDepth 20000 in
theorem l87_22_ok {E : Xe} {R : Nat → Nat → Option Nat} {P : Nat} {k : Nat} {I0 : St} {o : Outcome} {w : Wd} {T : ((Unit) ⊕ (Int32)) → Prop} {b3 : Int32} {b4 : Int32} {b5 : Int32} {b6 : Int32} (hP : P = 3 ∨ P = 18) (hk : k = P + 3 ∨ k = P + 5 ∨ k = P + 7) (hT : ∀ r, T (.inr r) → o = .returned (some (.int r)) ∧ w = wT I0 R) (K : ∀ (q : Unit) (e2 : Value) (_ : is1 e2 = true) (e7 : Value) (_ : is1 e7 = true), T (.inl q) → Rn E 87 (75, [.ref P, .ref k, e2, .int b3, .int b4, .int b5, .int b6, e7], [], wT I0 R) o w) : ∀ (n : Nat) (b7 : Int32) (d2 : Value), is1 d2 = true → Dq (l87_22 P k b3 b4 b5 b6 n b7 I0) T → Rn E 87 (22, [.ref P, .ref k, d2, .int b3, .int b4, .int b5, .int b6, .int b7], [], wT I0 R) o w := by
  rcases hP with rfl | rfl <;> rcases hk with rfl | rfl | rfl
  all_goals
    intro n
    induction n with
    | zero => intro b7 d2 hd2; exact D.none
    | succ n ih =>
      intro b7 d2 hd2
      rw [l87_22]
      refine D.run 2 rfl ?_
      refine D.ce rfl rfl rfl rfl (tsize_ok (by decide) (by first | rfl | decide)) ?_
      refine D.br rfl (by decide) rfl (fun hc => ?_) (fun hc => ?_)
      · exact fun h => D.to h (K _ _ (by first | rfl | assumption) _ (by first | rfl | assumption))
      · refine D.run 3 rfl ?_
        refine D.ce rfl rfl rfl rfl (tget_ok (by decide) (by first | rfl | decide) _ _) ?_
        refine D.run 1 rfl ?_
        refine D.br rfl (by decide) rfl (fun hc => ?_) (fun hc => ?_)
        · refine D.run 3 rfl ?_
          refine D.ce rfl rfl rfl rfl (tget_ok (by decide) (by first | rfl | decide) _ _) ?_
          refine D.run 1 rfl ?_
          refine D.br rfl (by decide) rfl (fun hc => ?_) (fun hc => ?_)
          · refine D.run 3 rfl ?_
            refine D.ce rfl rfl rfl rfl (tget_ok (by decide) (by first | rfl | decide) _ _) ?_
            refine D.run 1 rfl ?_
            refine D.br rfl (by decide) rfl (fun hc => ?_) (fun hc => ?_)
            · refine D.run 1 rfl ?_
              exact fun h => by obtain ⟨rfl, rfl⟩ := hT _ (D.some h); exact Rn.ret rfl rfl rfl
            · refine D.run 2 rfl ?_
              exact ih _ _  (by first | rfl | assumption)
          · refine D.run 2 rfl ?_
            exact ih _ _  (by first | rfl | assumption)
        · refine D.run 2 rfl ?_
          exact ih _ _  (by first | rfl | assumption)
def l87_6 (P : Nat) (k : Nat) (b3 : Int32) (b4 : Int32) : Nat → Int32 → Int32 → St → Option ((Unit) ⊕ (Int32))
  | 0, _, _, _ => none
  | n + 1, b5, b6, I => if 19 ≤ b6 then some (.inl ()) else if b5 = (-1) then some (.inl ()) else (l87_22 P k b3 b4 b5 b6 100000 0 I).bind (Sum.elim (fun q1 => l87_6 P k b3 b4 n (tget I (P + 1) b5 0) (b6 + 1) I) (fun r => some (.inr r)))
set_option maxRecDepth 20000 in
theorem l87_6_ok {E : Xe} {R : Nat → Nat → Option Nat} {P : Nat} {k : Nat} {I0 : St} {o : Outcome} {w : Wd} {T : ((Unit) ⊕ (Int32)) → Prop} {b3 : Int32} {b4 : Int32} (hP : P = 3 ∨ P = 18) (hk : k = P + 3 ∨ k = P + 5 ∨ k = P + 7) (hT : ∀ r, T (.inr r) → o = .returned (some (.int r)) ∧ w = wT I0 R) (K : ∀ (q : Unit) (e2 : Value) (_ : is1 e2 = true) (e3 : Value) (_ : is1 e3 = true) (e4 : Value) (_ : is1 e4 = true) (e5 : Value) (_ : is1 e5 = true) (e6 : Value) (_ : is1 e6 = true) (e7 : Value) (_ : is1 e7 = true), T (.inl q) → Rn E 87 (93, [.ref P, .ref k, e2, e3, e4, e5, e6, e7], [], wT I0 R) o w) : ∀ (n : Nat) (b5 : Int32) (b6 : Int32) (d2 : Value) (d7 : Value), is1 d2 = true → is1 d7 = true → Dq (l87_6 P k b3 b4 n b5 b6 I0) T → Rn E 87 (6, [.ref P, .ref k, d2, .int b3, .int b4, .int b5, .int b6, d7], [], wT I0 R) o w := by
  rcases hP with rfl | rfl <;> rcases hk with rfl | rfl | rfl
  all_goals
    intro n
    induction n with
    | zero => intro b5 b6 d2 d7 hd2 hd7; exact D.none
    | succ n ih =>
      intro b5 b6 d2 d7 hd2 hd7
      rw [l87_6]
      refine D.run 2 rfl ?_
      refine D.br rfl (by decide) rfl (fun hc => ?_) (fun hc => ?_)
      · exact fun h => D.to h (K _ _ (by first | rfl | assumption) _ (by first | rfl | assumption) _ (by first | rfl | assumption) _ (by first | rfl | assumption) _ (by first | rfl | assumption) _ (by first | rfl | assumption))
      · refine D.run 2 rfl ?_
        refine D.br rfl (by decide) rfl (fun hc => ?_) (fun hc => ?_)
        · exact fun h => D.to h (K _ _ (by first | rfl | assumption) _ (by first | rfl | assumption) _ (by first | rfl | assumption) _ (by first | rfl | assumption) _ (by first | rfl | assumption) _ (by first | rfl | assumption))
        · refine D.run 2 rfl ?_
          refine D.bind (l87_22_ok (by decide) (by decide) (fun r h => hT _ (D.some h)) (fun q1 e2 he2 e3 he3 => ?_) 100000 _ _  (by first | rfl | assumption))
          refine D.inl ?_
          refine D.run 4 rfl ?_
          refine D.ce rfl rfl rfl rfl (tget_ok (by decide) (by first | rfl | decide) _ _) ?_
          refine D.run 3 rfl ?_
          exact ih _ _ _ _  (by first | rfl | assumption) (by first | rfl | assumption)
def x87 (P : Nat) (k : Nat) (I : St) (a2 a3 a4 : Int32) : Option (Int32) := (l87_6 P k a3 a4 100000 a2 0 I).bind (Sum.elim (fun q4 => some (-1)) (fun r => some r))
set_option maxRecDepth 20000 in
theorem x87_D {E : Xe} {R : Nat → Nat → Option Nat} {P : Nat} {k : Nat} {o : Outcome} {w : Wd} {T : (Int32) → Prop} {I : St} (hP : P = 3 ∨ P = 18) (hk : k = P + 3 ∨ k = P + 5 ∨ k = P + 7) (a2 a3 a4 : Int32) (hT : ∀ r, T r → o = .returned (some (.int r)) ∧ w = wT I R) : Dq (x87 P k I a2 a3 a4) T → Rn E 87 (0, loc0 87 [.ref P, .ref k, .int a2, .int a3, .int a4], [], wT I R) o w := by
  unfold x87
  rcases hP with rfl | rfl <;> rcases hk with rfl | rfl | rfl
  all_goals
    refine D.run 4 rfl ?_
    refine D.bind (l87_6_ok (by decide) (by decide) (fun r h => hT _ (D.some h)) (fun q4 e5 he5 e6 he6 e7 he7 e8 he8 e9 he9 e10 he10 => ?_) 100000 _ _ _ _  (by first | rfl | assumption) (by first | rfl | assumption))
    refine D.inl ?_
    refine D.run 1 rfl ?_
    exact fun h => by obtain ⟨rfl, rfl⟩ := hT _ (D.some h); exact Rn.ret rfl rfl rfl
set_option maxRecDepth 20000 in
theorem x87_ok {E : Xe} {R : Nat → Nat → Option Nat} {P : Nat} {k : Nat} {I : St} (hP : P = 3 ∨ P = 18) (hk : k = P + 3 ∨ k = P + 5 ∨ k = P + 7) {a2 a3 a4 : Int32} {q : Int32} (h : x87 P k I a2 a3 a4 = some q) : Rn E 87 (0, loc0 87 [.ref P, .ref k, .int a2, .int a3, .int a4], [], wT I R) (.returned (some (.int q))) (wT I R) := x87_D hP hk _ _ _ (T := fun r => r = q) (by rintro r rfl; exact ⟨rfl, rfl⟩) ⟨_, h, rfl⟩
/-- TaintHouse$Program.kindOf(II)I -/
def x89 (P : Nat) (I : St) (a1 a2 : Int32) : Int32 := if 6 ≤ a2 then 0 else (tget I (P + 7) a1 (10 + a2))
set_option maxRecDepth 20000 in
theorem x89_ok {E : Xe} {R : Nat → Nat → Option Nat} {P : Nat} {I : St} (hP : P = 3 ∨ P = 18) (a1 a2 : Int32) : Rn E 89 (0, loc0 89 [.ref P, .int a1, .int a2], [], wT I R) (.returned (some (.int (x89 P I a1 a2)))) (wT I R) := by
  have H : ∀ (o : Outcome) (w : Wd) (T : Int32 → Prop), (∀ r, T r → o = .returned (some (.int r)) ∧ w = wT I R) → Dq (some (x89 P I a1 a2)) T → Rn E 89 (0, loc0 89 [.ref P, .int a1, .int a2], [], wT I R) o w := by
    intro o w T hT
    unfold x89
    rcases hP with rfl | rfl
    all_goals
      refine D.run 2 rfl ?_
      refine D.brp rfl (by decide) rfl (fun hc => ?_) (fun hc => ?_)
      · refine D.run 1 rfl ?_
        exact fun h => by obtain ⟨rfl, rfl⟩ := hT _ (D.some h); exact Rn.ret rfl rfl rfl
      · refine D.run 6 rfl ?_
        refine D.ce rfl rfl rfl rfl (tget_ok (by decide) (by first | rfl | decide) _ _) ?_
        refine D.run 1 rfl ?_
        exact fun h => by obtain ⟨rfl, rfl⟩ := hT _ (D.some h); exact Rn.ret rfl rfl rfl
  exact H _ _ (fun r => r = x89 P I a1 a2) (by rintro r rfl; exact ⟨rfl, rfl⟩) ⟨_, rfl, rfl⟩
/-- TaintHouse$Linker.linkLabels(I)V -/
def l90_31 (b1 : Int32) (b3 : Int32) : Nat → Int32 → St → Option (St)
  | 0, _, _ => none
  | n + 1, b4, I => if b3 ≤ b4 then some I else if (tget I 37 (tget I 50 b4 0) 1) = b1 then (x83 I (tget I 50 b4 1) 1).bind fun q1 => l90_31 b1 b3 n (b4 + 1) q1 else Lt (tset (tset I 37 (tget I 50 b4 0) 1 b1) 37 (tget I 50 b4 0) 2 (tget (tset I 37 (tget I 50 b4 0) 1 b1) 50 b4 2)) fun J2 => l90_31 b1 b3 n (b4 + 1) J2
set_option maxRecDepth 20000 in
theorem l90_31_ok {E : Xe} {R : Nat → Nat → Option Nat} {o : Outcome} {w : Wd} {T : (St) → Prop} {b1 : Int32} {b3 : Int32} (K : ∀ (q : St) (e1 : Value) (_ : is1 e1 = true) (e2 : Value) (_ : is1 e2 = true) (e3 : Value) (_ : is1 e3 = true) (e4 : Value) (_ : is1 e4 = true) (e5 : Value) (_ : is1 e5 = true), T q → Rn E 90 (127, [.ref 57, e1, e2, e3, e4, e5], [], wT q R) o w) : ∀ (n : Nat) (b4 : Int32) (d2 : Value) (d5 : Value) (I : St), is1 d2 = true → is1 d5 = true → Dq (l90_31 b1 b3 n b4 I) T → Rn E 90 (31, [.ref 57, .int b1, d2, .int b3, .int b4, d5], [], wT I R) o w := by
  intro n
  induction n with
  | zero => intro b4 d2 d5 I hd2 hd5; exact D.none
  | succ n ih =>
    intro b4 d2 d5 I hd2 hd5
    rw [l90_31]
    refine D.run 2 rfl ?_
    refine D.br rfl (by decide) rfl (fun hc => ?_) (fun hc => ?_)
    · exact fun h => D.to h (K _ _ (by first | rfl | assumption) _ (by first | rfl | assumption) _ (by first | rfl | assumption) _ (by first | rfl | assumption) _ (by first | rfl | assumption))
    · refine D.run 5 rfl ?_
      refine D.ce rfl rfl rfl rfl (tget_ok (by decide) (by first | rfl | decide) _ _) ?_
      refine D.run 5 rfl ?_
      refine D.ce rfl rfl rfl rfl (tget_ok (by decide) (by first | rfl | decide) _ _) ?_
      refine D.run 1 rfl ?_
      refine D.br rfl (by decide) rfl (fun hc => ?_) (fun hc => ?_)
      · refine D.run 6 rfl ?_
        refine D.ce rfl rfl rfl rfl (tget_ok (by decide) (by first | rfl | decide) _ _) ?_
        refine D.run 1 rfl ?_
        refine D.call rfl rfl rfl rfl (fun q h => x83_ok h) (fun q1 => ?_)
        refine D.run 3 rfl ?_
        exact ih _ _ _ _ (by first | rfl | assumption) (by first | rfl | assumption)
      · refine D.run 5 rfl ?_
        refine D.ce rfl rfl rfl rfl (tset_ok (by decide) (by first | rfl | decide) _ _ _) ?_
        refine D.run 9 rfl ?_
        refine D.ce rfl rfl rfl rfl (tget_ok (by decide) (by first | rfl | decide) _ _) ?_
        refine D.ce rfl rfl rfl rfl (tset_ok (by decide) (by first | rfl | decide) _ _ _) ?_
        refine D.letS (fun J2 => ?_)
        show _ → Rn E 90 (121, [.ref 57, .int b1, d2, .int b3, .int b4, .int (tget I 50 b4 0)], [], wT J2 R) o w
        refine D.run 2 rfl ?_
        exact ih _ _ _ _ (by first | rfl | assumption) (by first | rfl | assumption)
def x90 (I : St) (a1 : Int32) : Option (St) := (l90_31 a1 ((tget I 48 a1 2) + (tget I 48 a1 3)) 100000 (tget I 48 a1 2) I).bind fun q3 => some q3
set_option maxRecDepth 20000 in
theorem x90_D {E : Xe} {R : Nat → Nat → Option Nat} {o : Outcome} {w : Wd} {T : (St) → Prop} {I : St} (a1 : Int32) (hT : ∀ r, T r → o = .returned none ∧ w = wT r R) : Dq (x90 I a1) T → Rn E 90 (0, loc0 90 [.ref 57, .int a1], [], wT I R) o w := by
  unfold x90
  refine D.run 5 rfl ?_
  refine D.ce rfl rfl rfl rfl (tget_ok (by decide) (by first | rfl | decide) _ _) ?_
  refine D.run 7 rfl ?_
  refine D.ce rfl rfl rfl rfl (tget_ok (by decide) (by first | rfl | decide) _ _) ?_
  refine D.run 4 rfl ?_
  refine D.bind (l90_31_ok  (fun q3 e4 he4 e5 he5 e6 he6 e7 he7 e8 he8 => ?_) 100000 _ _ _ _ (by first | rfl | assumption) (by first | rfl | assumption))
  exact fun h => by obtain ⟨rfl, rfl⟩ := hT _ (D.some h); exact Rn.ret rfl rfl rfl
set_option maxRecDepth 20000 in
theorem x90_ok {E : Xe} {R : Nat → Nat → Option Nat} {I : St} {a1 : Int32} {q : St} (h : x90 I a1 = some q) : Rn E 90 (0, loc0 90 [.ref 57, .int a1], [], wT I R) (.returned none) (wT q R) := x90_D  _ (T := fun r => r = q) (by rintro r rfl; exact ⟨rfl, rfl⟩) ⟨_, h, rfl⟩
/-- TaintHouse$Linker.labelled(III)I -/
def x92 (I : St) (a1 a2 a3 : Int32) : Option (Int32 × St) := if (tget I 37 a2 1) = a1 then some ((tget I 37 a2 2), I) else (x83 I a3 2).bind fun q1 => some ((-1), q1)
set_option maxRecDepth 20000 in
theorem x92_D {E : Xe} {R : Nat → Nat → Option Nat} {o : Outcome} {w : Wd} {T : (Int32 × St) → Prop} {I : St} (a1 a2 a3 : Int32) (hT : ∀ r, T r → o = .returned (some (.int r.1)) ∧ w = wT r.2 R) : Dq (x92 I a1 a2 a3) T → Rn E 92 (0, loc0 92 [.ref 57, .int a1, .int a2, .int a3], [], wT I R) o w := by
  unfold x92
  refine D.run 4 rfl ?_
  refine D.ce rfl rfl rfl rfl (tget_ok (by decide) (by first | rfl | decide) _ _) ?_
  refine D.run 1 rfl ?_
  refine D.br rfl (by decide) rfl (fun hc => ?_) (fun hc => ?_)
  · refine D.run 4 rfl ?_
    refine D.ce rfl rfl rfl rfl (tget_ok (by decide) (by first | rfl | decide) _ _) ?_
    exact fun h => by obtain ⟨rfl, rfl⟩ := hT _ (D.some h); exact Rn.ret rfl rfl rfl
  · refine D.run 3 rfl ?_
    refine D.call rfl rfl rfl rfl (fun q h => x83_ok h) (fun q1 => ?_)
    refine D.run 1 rfl ?_
    exact fun h => by obtain ⟨rfl, rfl⟩ := hT _ (D.some h); exact Rn.ret rfl rfl rfl
set_option maxRecDepth 20000 in
theorem x92_ok {E : Xe} {R : Nat → Nat → Option Nat} {I : St} {a1 a2 a3 : Int32} {q : Int32 × St} (h : x92 I a1 a2 a3 = some q) : Rn E 92 (0, loc0 92 [.ref 57, .int a1, .int a2, .int a3], [], wT I R) (.returned (some (.int q.1))) (wT q.2 R) := x92_D  _ _ _ (T := fun r => r = q) (by rintro r rfl; exact ⟨rfl, rfl⟩) ⟨_, h, rfl⟩
/-- TaintHouse$Linker.classNamed(II)I -/
def x93 (I : St) (a1 a2 : Int32) : Option (Int32 × St) := if (tget I 37 a1 0) = (-1) then (x83 I a2 2).bind fun q1 => some ((tget I 37 a1 0), q1) else some ((tget I 37 a1 0), I)
set_option maxRecDepth 20000 in
theorem x93_D {E : Xe} {R : Nat → Nat → Option Nat} {o : Outcome} {w : Wd} {T : (Int32 × St) → Prop} {I : St} (a1 a2 : Int32) (hT : ∀ r, T r → o = .returned (some (.int r.1)) ∧ w = wT r.2 R) : Dq (x93 I a1 a2) T → Rn E 93 (0, loc0 93 [.ref 57, .int a1, .int a2], [], wT I R) o w := by
  unfold x93
  refine D.run 4 rfl ?_
  refine D.ce rfl rfl rfl rfl (tget_ok (by decide) (by first | rfl | decide) _ _) ?_
  refine D.run 3 rfl ?_
  refine D.br rfl (by decide) rfl (fun hc => ?_) (fun hc => ?_)
  · refine D.run 3 rfl ?_
    refine D.call rfl rfl rfl rfl (fun q h => x83_ok h) (fun q1 => ?_)
    refine D.run 1 rfl ?_
    exact fun h => by obtain ⟨rfl, rfl⟩ := hT _ (D.some h); exact Rn.ret rfl rfl rfl
  · refine D.run 1 rfl ?_
    exact fun h => by obtain ⟨rfl, rfl⟩ := hT _ (D.some h); exact Rn.ret rfl rfl rfl
set_option maxRecDepth 20000 in
theorem x93_ok {E : Xe} {R : Nat → Nat → Option Nat} {I : St} {a1 a2 : Int32} {q : Int32 × St} (h : x93 I a1 a2 = some q) : Rn E 93 (0, loc0 93 [.ref 57, .int a1, .int a2], [], wT I R) (.returned (some (.int q.1))) (wT q.2 R) := x93_D  _ _ (T := fun r => r = q) (by rintro r rfl; exact ⟨rfl, rfl⟩) ⟨_, h, rfl⟩
