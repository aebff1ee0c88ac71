/-! FUNCTIONS OF METHODS, by program (wip/gen/all.py): 91 94 99 102 113 126 131 136 138 142 145 148 154 156 158 160 161 165 166 168 -/
/-- TaintHouse$Linker.linkTries(I)V -/
def l91_42 (P : Nat) (b1 : Int32) (b4 : Int32) : Nat → Int32 → St → Option (St)
  | 0, _, _ => none
  | n + 1, b5, I => if b4 ≤ b5 then some I else (x92 I b1 (tget I (P + 11) b5 0) (tget I 54 b5 0)).bind fun q1 => (x92 q1.2 b1 (tget q1.2 (P + 11) b5 1) (tget q1.2 54 b5 1)).bind fun q2 => (x92 q2.2 b1 (tget q2.2 (P + 11) b5 2) (tget q2.2 54 b5 2)).bind fun q3 => (if q1.1 = (-1) then some q3.2 else if q2.1 = (-1) then some q3.2 else if q3.1 = (-1) then some q3.2 else if q1.1 < q2.1 then some q3.2 else (x83 q3.2 (tget q3.2 54 b5 0) 4).bind fun q4 => some q4).bind fun (q5 : St) => (x93 (tset (tset (tset q5 (P + 11) b5 0 q1.1) (P + 11) b5 1 q2.1) (P + 11) b5 2 q3.1) (tget (tset (tset (tset q5 (P + 11) b5 0 q1.1) (P + 11) b5 1 q2.1) (P + 11) b5 2 q3.1) (P + 11) b5 3) (tget (tset (tset (tset q5 (P + 11) b5 0 q1.1) (P + 11) b5 1 q2.1) (P + 11) b5 2 q3.1) 54 b5 3)).bind fun q6 => l91_42 P b1 b4 n (b5 + 1) (tset q6.2 (P + 11) b5 3 q6.1)
set_option maxRecDepth 20000 in
theorem l91_42_ok {E : Xe} {R : Nat → Nat → Option Nat} {P : Nat} {o : Outcome} {w : Wd} {T : (St) → Prop} {b1 : Int32} {b4 : Int32} (hP : P = 3 ∨ P = 18) (h57_2 : R 57 2 = some P) (K : ∀ (q : St) (e1 : Value) (_ : is1 e1 = true) (e3 : Value) (_ : is1 e3 = true) (e4 : Value) (_ : is1 e4 = true) (e5 : Value) (_ : is1 e5 = true) (e6 : Value) (_ : is1 e6 = true) (e7 : Value) (_ : is1 e7 = true) (e8 : Value) (_ : is1 e8 = true) (e9 : Value) (_ : is1 e9 = true), T q → Rn E 91 (241, [.ref 57, e1, .ref (P + 11), e3, e4, e5, e6, e7, e8, e9], [], wT q R) o w) : ∀ (n : Nat) (b5 : Int32) (d3 : Value) (d6 : Value) (d7 : Value) (d8 : Value) (d9 : Value) (I : St), is1 d3 = true → is1 d6 = true → is1 d7 = true → is1 d8 = true → is1 d9 = true → Dq (l91_42 P b1 b4 n b5 I) T → Rn E 91 (42, [.ref 57, .int b1, .ref (P + 11), d3, .int b4, .int b5, d6, d7, d8, d9], [], wT I R) o w := by
  rcases hP with rfl | rfl
  · intro n
    induction n with
    | zero => intro b5 d3 d6 d7 d8 d9 I hd3 hd6 hd7 hd8 hd9; exact D.none
    | succ n ih =>
      intro b5 d3 d6 d7 d8 d9 I hd3 hd6 hd7 hd8 hd9
      rw [l91_42]
      refine D.run 2 rfl ?_
      refine D.br rfl (by decide) rfl (fun hc => ?_) (fun hc => ?_)
      · exact fun h => D.to h (K _ _ (by first | rfl | assumption) _ (by first | rfl | assumption) _ (by first | rfl | assumption) _ (by first | rfl | assumption) _ (by first | rfl | assumption) _ (by first | rfl | assumption) _ (by first | rfl | assumption) _ (by first | rfl | assumption))
      · refine D.run 5 rfl ?_
        refine D.ce rfl rfl rfl rfl (tget_ok (by decide) (by first | rfl | decide) _ _) ?_
        refine D.run 5 rfl ?_
        refine D.ce rfl rfl rfl rfl (tget_ok (by decide) (by first | rfl | decide) _ _) ?_
        refine D.call rfl rfl rfl rfl (fun q h => x92_ok h) (fun q1 => ?_)
        show _ → Rn E 91 (74, [.ref 57, .int b1, .ref (3 + 11), d3, .int b4, .int b5, d6, d7, d8, d9], [.int q1.1], wT q1.2 R) o w
        refine D.run 6 rfl ?_
        refine D.ce rfl rfl rfl rfl (tget_ok (by decide) (by first | rfl | decide) _ _) ?_
        refine D.run 5 rfl ?_
        refine D.ce rfl rfl rfl rfl (tget_ok (by decide) (by first | rfl | decide) _ _) ?_
        refine D.call rfl rfl rfl rfl (fun q h => x92_ok h) (fun q2 => ?_)
        show _ → Rn E 91 (101, [.ref 57, .int b1, .ref (3 + 11), d3, .int b4, .int b5, .int q1.1, d7, d8, d9], [.int q2.1], wT q2.2 R) o w
        refine D.run 6 rfl ?_
        refine D.ce rfl rfl rfl rfl (tget_ok (by decide) (by first | rfl | decide) _ _) ?_
        refine D.run 5 rfl ?_
        refine D.ce rfl rfl rfl rfl (tget_ok (by decide) (by first | rfl | decide) _ _) ?_
        refine D.call rfl rfl rfl rfl (fun q h => x92_ok h) (fun q3 => ?_)
        show _ → Rn E 91 (128, [.ref 57, .int b1, .ref (3 + 11), d3, .int b4, .int b5, .int q1.1, .int q2.1, d8, d9], [.int q3.1], wT q3.2 R) o w
        refine D.run 3 rfl ?_
        have Kj173 : ∀ (q5 : St), Dq ((x93 (tset (tset (tset q5 (3 + 11) b5 0 q1.1) (3 + 11) b5 1 q2.1) (3 + 11) b5 2 q3.1) (tget (tset (tset (tset q5 (3 + 11) b5 0 q1.1) (3 + 11) b5 1 q2.1) (3 + 11) b5 2 q3.1) (3 + 11) b5 3) (tget (tset (tset (tset q5 (3 + 11) b5 0 q1.1) (3 + 11) b5 1 q2.1) (3 + 11) b5 2 q3.1) 54 b5 3)).bind fun q6 => l91_42 3 b1 b4 n (b5 + 1) (tset q6.2 (3 + 11) b5 3 q6.1)) T → Rn E 91 (173, [.ref 57, .int b1, .ref (3 + 11), d3, .int b4, .int b5, .int q1.1, .int q2.1, .int q3.1, d9], [], wT q5 R) o w := by
          intro q5
          refine D.run 4 rfl ?_
          refine D.ce rfl rfl rfl rfl (tset_ok (by decide) (by first | rfl | decide) _ _ _) ?_
          refine D.run 4 rfl ?_
          refine D.ce rfl rfl rfl rfl (tset_ok (by decide) (by first | rfl | decide) _ _ _) ?_
          refine D.run 4 rfl ?_
          refine D.ce rfl rfl rfl rfl (tset_ok (by decide) (by first | rfl | decide) _ _ _) ?_
          show _ → Rn E 91 (200, [.ref 57, .int b1, .ref (3 + 11), d3, .int b4, .int b5, .int q1.1, .int q2.1, .int q3.1, d9], [], wT (tset (tset (tset q5 (3 + 11) b5 0 q1.1) (3 + 11) b5 1 q2.1) (3 + 11) b5 2 q3.1) R) o w
          refine D.run 4 rfl ?_
          refine D.ce rfl rfl rfl rfl (tget_ok (by decide) (by first | rfl | decide) _ _) ?_
          refine D.run 5 rfl ?_
          refine D.ce rfl rfl rfl rfl (tget_ok (by decide) (by first | rfl | decide) _ _) ?_
          refine D.call rfl rfl rfl rfl (fun q h => x93_ok h) (fun q6 => ?_)
          show _ → Rn E 91 (224, [.ref 57, .int b1, .ref (3 + 11), d3, .int b4, .int b5, .int q1.1, .int q2.1, .int q3.1, d9], [.int q6.1], wT q6.2 R) o w
          refine D.run 5 rfl ?_
          refine D.ce rfl rfl rfl rfl (tset_ok (by decide) (by first | rfl | decide) _ _ _) ?_
          refine D.run 2 rfl ?_
          exact ih _ _ _ _ _ _ _ (by first | rfl | assumption) (by first | rfl | assumption) (by first | rfl | assumption) (by first | rfl | assumption) (by first | rfl | assumption)
        refine D.jn (fun T173 c173 => ?_)
        refine D.br rfl (by decide) rfl (fun hc => ?_) (fun hc => ?_)
        · exact fun h => Kj173 _   (c173 _ (D.some h))
        · refine D.run 2 rfl ?_
          refine D.br rfl (by decide) rfl (fun hc => ?_) (fun hc => ?_)
          · exact fun h => Kj173 _   (c173 _ (D.some h))
          · refine D.run 2 rfl ?_
            refine D.br rfl (by decide) rfl (fun hc => ?_) (fun hc => ?_)
            · exact fun h => Kj173 _   (c173 _ (D.some h))
            · refine D.run 2 rfl ?_
              refine D.br rfl (by decide) rfl (fun hc => ?_) (fun hc => ?_)
              · exact fun h => Kj173 _   (c173 _ (D.some h))
              · refine D.run 6 rfl ?_
                refine D.ce rfl rfl rfl rfl (tget_ok (by decide) (by first | rfl | decide) _ _) ?_
                refine D.run 1 rfl ?_
                refine D.call rfl rfl rfl rfl (fun q h => x83_ok h) (fun q4 => ?_)
                exact fun h => Kj173 _   (c173 _ (D.some h))
  · intro n
    induction n with
    | zero => intro b5 d3 d6 d7 d8 d9 I hd3 hd6 hd7 hd8 hd9; exact D.none
    | succ n ih =>
      intro b5 d3 d6 d7 d8 d9 I hd3 hd6 hd7 hd8 hd9
      rw [l91_42]
      refine D.run 2 rfl ?_
      refine D.br rfl (by decide) rfl (fun hc => ?_) (fun hc => ?_)
      · exact fun h => D.to h (K _ _ (by first | rfl | assumption) _ (by first | rfl | assumption) _ (by first | rfl | assumption) _ (by first | rfl | assumption) _ (by first | rfl | assumption) _ (by first | rfl | assumption) _ (by first | rfl | assumption) _ (by first | rfl | assumption))
      · refine D.run 5 rfl ?_
        refine D.ce rfl rfl rfl rfl (tget_ok (by decide) (by first | rfl | decide) _ _) ?_
        refine D.run 5 rfl ?_
        refine D.ce rfl rfl rfl rfl (tget_ok (by decide) (by first | rfl | decide) _ _) ?_
        refine D.call rfl rfl rfl rfl (fun q h => x92_ok h) (fun q1 => ?_)
        show _ → Rn E 91 (74, [.ref 57, .int b1, .ref (18 + 11), d3, .int b4, .int b5, d6, d7, d8, d9], [.int q1.1], wT q1.2 R) o w
        refine D.run 6 rfl ?_
        refine D.ce rfl rfl rfl rfl (tget_ok (by decide) (by first | rfl | decide) _ _) ?_
        refine D.run 5 rfl ?_
        refine D.ce rfl rfl rfl rfl (tget_ok (by decide) (by first | rfl | decide) _ _) ?_
        refine D.call rfl rfl rfl rfl (fun q h => x92_ok h) (fun q2 => ?_)
        show _ → Rn E 91 (101, [.ref 57, .int b1, .ref (18 + 11), d3, .int b4, .int b5, .int q1.1, d7, d8, d9], [.int q2.1], wT q2.2 R) o w
        refine D.run 6 rfl ?_
        refine D.ce rfl rfl rfl rfl (tget_ok (by decide) (by first | rfl | decide) _ _) ?_
        refine D.run 5 rfl ?_
        refine D.ce rfl rfl rfl rfl (tget_ok (by decide) (by first | rfl | decide) _ _) ?_
        refine D.call rfl rfl rfl rfl (fun q h => x92_ok h) (fun q3 => ?_)
        show _ → Rn E 91 (128, [.ref 57, .int b1, .ref (18 + 11), d3, .int b4, .int b5, .int q1.1, .int q2.1, d8, d9], [.int q3.1], wT q3.2 R) o w
        refine D.run 3 rfl ?_
        have Kj173 : ∀ (q5 : St), Dq ((x93 (tset (tset (tset q5 (18 + 11) b5 0 q1.1) (18 + 11) b5 1 q2.1) (18 + 11) b5 2 q3.1) (tget (tset (tset (tset q5 (18 + 11) b5 0 q1.1) (18 + 11) b5 1 q2.1) (18 + 11) b5 2 q3.1) (18 + 11) b5 3) (tget (tset (tset (tset q5 (18 + 11) b5 0 q1.1) (18 + 11) b5 1 q2.1) (18 + 11) b5 2 q3.1) 54 b5 3)).bind fun q6 => l91_42 18 b1 b4 n (b5 + 1) (tset q6.2 (18 + 11) b5 3 q6.1)) T → Rn E 91 (173, [.ref 57, .int b1, .ref (18 + 11), d3, .int b4, .int b5, .int q1.1, .int q2.1, .int q3.1, d9], [], wT q5 R) o w := by
          intro q5
          refine D.run 4 rfl ?_
          refine D.ce rfl rfl rfl rfl (tset_ok (by decide) (by first | rfl | decide) _ _ _) ?_
          refine D.run 4 rfl ?_
          refine D.ce rfl rfl rfl rfl (tset_ok (by decide) (by first | rfl | decide) _ _ _) ?_
          refine D.run 4 rfl ?_
          refine D.ce rfl rfl rfl rfl (tset_ok (by decide) (by first | rfl | decide) _ _ _) ?_
          show _ → Rn E 91 (200, [.ref 57, .int b1, .ref (18 + 11), d3, .int b4, .int b5, .int q1.1, .int q2.1, .int q3.1, d9], [], wT (tset (tset (tset q5 (18 + 11) b5 0 q1.1) (18 + 11) b5 1 q2.1) (18 + 11) b5 2 q3.1) R) o w
          refine D.run 4 rfl ?_
          refine D.ce rfl rfl rfl rfl (tget_ok (by decide) (by first | rfl | decide) _ _) ?_
          refine D.run 5 rfl ?_
          refine D.ce rfl rfl rfl rfl (tget_ok (by decide) (by first | rfl | decide) _ _) ?_
          refine D.call rfl rfl rfl rfl (fun q h => x93_ok h) (fun q6 => ?_)
          show _ → Rn E 91 (224, [.ref 57, .int b1, .ref (18 + 11), d3, .int b4, .int b5, .int q1.1, .int q2.1, .int q3.1, d9], [.int q6.1], wT q6.2 R) o w
          refine D.run 5 rfl ?_
          refine D.ce rfl rfl rfl rfl (tset_ok (by decide) (by first | rfl | decide) _ _ _) ?_
          refine D.run 2 rfl ?_
          exact ih _ _ _ _ _ _ _ (by first | rfl | assumption) (by first | rfl | assumption) (by first | rfl | assumption) (by first | rfl | assumption) (by first | rfl | assumption)
        refine D.jn (fun T173 c173 => ?_)
        refine D.br rfl (by decide) rfl (fun hc => ?_) (fun hc => ?_)
        · exact fun h => Kj173 _   (c173 _ (D.some h))
        · refine D.run 2 rfl ?_
          refine D.br rfl (by decide) rfl (fun hc => ?_) (fun hc => ?_)
          · exact fun h => Kj173 _   (c173 _ (D.some h))
          · refine D.run 2 rfl ?_
            refine D.br rfl (by decide) rfl (fun hc => ?_) (fun hc => ?_)
            · exact fun h => Kj173 _   (c173 _ (D.some h))
            · refine D.run 2 rfl ?_
              refine D.br rfl (by decide) rfl (fun hc => ?_) (fun hc => ?_)
              · exact fun h => Kj173 _   (c173 _ (D.some h))
              · refine D.run 6 rfl ?_
                refine D.ce rfl rfl rfl rfl (tget_ok (by decide) (by first | rfl | decide) _ _) ?_
                refine D.run 1 rfl ?_
                refine D.call rfl rfl rfl rfl (fun q h => x83_ok h) (fun q4 => ?_)
                exact fun h => Kj173 _   (c173 _ (D.some h))
def x91 (P : Nat) (I : St) (a1 : Int32) : Option (St) := (l91_42 P a1 ((tget I (P + 7) a1 7) + (tget I (P + 7) a1 8)) 100000 (tget I (P + 7) a1 7) I).bind fun q7 => some q7
set_option maxRecDepth 20000 in
theorem x91_D {E : Xe} {R : Nat → Nat → Option Nat} {P : Nat} {o : Outcome} {w : Wd} {T : (St) → Prop} {I : St} (hP : P = 3 ∨ P = 18) (h57_2 : R 57 2 = some P) (a1 : Int32) (hT : ∀ r, T r → o = .returned none ∧ w = wT r R) : Dq (x91 P I a1) T → Rn E 91 (0, loc0 91 [.ref 57, .int a1], [], wT I R) o w := by
  unfold x91
  rcases hP with rfl | rfl
  · refine D.run 1 rfl ?_
    refine D.st rfl (by decide) (gf_1 h57_2) ?_
    refine D.run 3 rfl ?_
    refine D.st rfl (by decide) (gf_1 h57_2) ?_
    refine D.run 3 rfl ?_
    refine D.ce rfl rfl rfl rfl (tget_ok (by decide) (by first | rfl | decide) _ _) ?_
    show _ → Rn E 91 (21, [.ref 57, .int a1, .ref (3 + 11), us, us, us, us, us, us, us], [.int (tget I (3 + 7) a1 7)], wT I R) o w
    refine D.run 3 rfl ?_
    refine D.st rfl (by decide) (gf_1 h57_2) ?_
    refine D.run 3 rfl ?_
    refine D.ce rfl rfl rfl rfl (tget_ok (by decide) (by first | rfl | decide) _ _) ?_
    refine D.run 4 rfl ?_
    refine D.bind (l91_42_ok (by decide) h57_2 (fun q7 e8 he8 e9 he9 e10 he10 e11 he11 e12 he12 e13 he13 e14 he14 e15 he15 => ?_) 100000 _ _ _ _ _ _ _ (by first | rfl | assumption) (by first | rfl | assumption) (by first | rfl | assumption) (by first | rfl | assumption) (by first | rfl | assumption))
    exact fun h => by obtain ⟨rfl, rfl⟩ := hT _ (D.some h); exact Rn.ret rfl rfl rfl
  · refine D.run 1 rfl ?_
    refine D.st rfl (by decide) (gf_1 h57_2) ?_
    refine D.run 3 rfl ?_
    refine D.st rfl (by decide) (gf_1 h57_2) ?_
    refine D.run 3 rfl ?_
    refine D.ce rfl rfl rfl rfl (tget_ok (by decide) (by first | rfl | decide) _ _) ?_
    show _ → Rn E 91 (21, [.ref 57, .int a1, .ref (18 + 11), us, us, us, us, us, us, us], [.int (tget I (18 + 7) a1 7)], wT I R) o w
    refine D.run 3 rfl ?_
    refine D.st rfl (by decide) (gf_1 h57_2) ?_
    refine D.run 3 rfl ?_
    refine D.ce rfl rfl rfl rfl (tget_ok (by decide) (by first | rfl | decide) _ _) ?_
    refine D.run 4 rfl ?_
    refine D.bind (l91_42_ok (by decide) h57_2 (fun q7 e8 he8 e9 he9 e10 he10 e11 he11 e12 he12 e13 he13 e14 he14 e15 he15 => ?_) 100000 _ _ _ _ _ _ _ (by first | rfl | assumption) (by first | rfl | assumption) (by first | rfl | assumption) (by first | rfl | assumption) (by first | rfl | assumption))
    exact fun h => by obtain ⟨rfl, rfl⟩ := hT _ (D.some h); exact Rn.ret rfl rfl rfl
set_option maxRecDepth 20000 in
theorem x91_ok {E : Xe} {R : Nat → Nat → Option Nat} {P : Nat} {I : St} (hP : P = 3 ∨ P = 18) (h57_2 : R 57 2 = some P) {a1 : Int32} {q : St} (h : x91 P I a1 = some q) : Rn E 91 (0, loc0 91 [.ref 57, .int a1], [], wT I R) (.returned none) (wT q R) := x91_D hP h57_2 _ (T := fun r => r = q) (by rintro r rfl; exact ⟨rfl, rfl⟩) ⟨_, h, rfl⟩
/-- TaintHouse$Linker.linkCodes(I)V -/
def l94_41 (P : Nat) (b1 : Int32) (b4 : Int32) : Nat → Int32 → St → Option (St)
  | 0, _, _ => none
  | n + 1, b5, I => if b4 ≤ b5 then some I else (x76 I (tget I (P + 9) b5 0)).bind fun q1 => if q1 = 4 then (x92 I b1 (tget I (P + 9) b5 1) (tget I 52 b5 1)).bind fun q2 => l94_41 P b1 b4 n (b5 + 1) (tset q2.2 (P + 9) b5 1 q2.1) else if q1 = 5 then (x93 I (tget I (P + 9) b5 1) (tget I 52 b5 1)).bind fun q3 => l94_41 P b1 b4 n (b5 + 1) (tset q3.2 (P + 9) b5 1 q3.1) else if q1 = 6 then (x93 I (tget I (P + 9) b5 1) (tget I 52 b5 1)).bind fun q4 => (x95 P q4.2 b5 q4.1).bind fun q5 => l94_41 P b1 b4 n (b5 + 1) q5 else l94_41 P b1 b4 n (b5 + 1) I
set_option maxRecDepth 20000 in
theorem l94_41_ok {E : Xe} {R : Nat → Nat → Option Nat} {P : Nat} {o : Outcome} {w : Wd} {T : (St) → Prop} {b1 : Int32} {b4 : Int32} (hP : P = 3 ∨ P = 18) (h57_2 : R 57 2 = some P) (K : ∀ (q : St) (e1 : Value) (_ : is1 e1 = true) (e3 : Value) (_ : is1 e3 = true) (e4 : Value) (_ : is1 e4 = true) (e5 : Value) (_ : is1 e5 = true) (e6 : Value) (_ : is1 e6 = true) (e7 : Value) (_ : is1 e7 = true) (e8 : Value) (_ : is1 e8 = true), T q → Rn E 94 (160, [.ref 57, e1, .ref (P + 9), e3, e4, e5, e6, e7, e8], [], wT q R) o w) : ∀ (n : Nat) (b5 : Int32) (d3 : Value) (d6 : Value) (d7 : Value) (d8 : Value) (I : St), is1 d3 = true → is1 d6 = true → is1 d7 = true → is1 d8 = true → Dq (l94_41 P b1 b4 n b5 I) T → Rn E 94 (41, [.ref 57, .int b1, .ref (P + 9), d3, .int b4, .int b5, d6, d7, d8], [], wT I R) o w := by
  rcases hP with rfl | rfl
  · intro n
    induction n with
    | zero => intro b5 d3 d6 d7 d8 I hd3 hd6 hd7 hd8; exact D.none
    | succ n ih =>
      intro b5 d3 d6 d7 d8 I hd3 hd6 hd7 hd8
      rw [l94_41]
      refine D.run 2 rfl ?_
      refine D.br rfl (by decide) rfl (fun hc => ?_) (fun hc => ?_)
      · exact fun h => D.to h (K _ _ (by first | rfl | assumption) _ (by first | rfl | assumption) _ (by first | rfl | assumption) _ (by first | rfl | assumption) _ (by first | rfl | assumption) _ (by first | rfl | assumption) _ (by first | rfl | assumption))
      · refine D.run 3 rfl ?_
        refine D.ce rfl rfl rfl rfl (tget_ok (by decide) (by first | rfl | decide) _ _) ?_
        refine D.call rfl rfl rfl rfl (fun q h => x76_ok h) (fun q1 => ?_)
        refine D.run 4 rfl ?_
        refine D.ce rfl rfl rfl rfl (tget_ok (by decide) (by first | rfl | decide) _ _) ?_
        show _ → Rn E 94 (67, [.ref 57, .int b1, .ref (3 + 9), d3, .int b4, .int b5, .int q1, d7, d8], [.int (tget I (3 + 9) b5 1)], wT I R) o w
        refine D.run 6 rfl ?_
        refine D.ce rfl rfl rfl rfl (tget_ok (by decide) (by first | rfl | decide) _ _) ?_
        refine D.run 3 rfl ?_
        refine D.br rfl (by decide) rfl (fun hc => ?_) (fun hc => ?_)
        · refine D.run 7 rfl ?_
          refine D.call rfl rfl rfl rfl (fun q h => x92_ok h) (fun q2 => ?_)
          refine D.ce rfl rfl rfl rfl (tset_ok (by decide) (by first | rfl | decide) _ _ _) ?_
          refine D.run 3 rfl ?_
          exact ih _ _ _ _ _ _ (by first | rfl | assumption) (by first | rfl | assumption) (by first | rfl | assumption) (by first | rfl | assumption)
        · refine D.run 2 rfl ?_
          refine D.br rfl (by decide) rfl (fun hc => ?_) (fun hc => ?_)
          · refine D.run 6 rfl ?_
            refine D.call rfl rfl rfl rfl (fun q h => x93_ok h) (fun q3 => ?_)
            refine D.ce rfl rfl rfl rfl (tset_ok (by decide) (by first | rfl | decide) _ _ _) ?_
            refine D.run 3 rfl ?_
            exact ih _ _ _ _ _ _ (by first | rfl | assumption) (by first | rfl | assumption) (by first | rfl | assumption) (by first | rfl | assumption)
          · refine D.run 2 rfl ?_
            refine D.br rfl (by decide) rfl (fun hc => ?_) (fun hc => ?_)
            · refine D.run 5 rfl ?_
              refine D.call rfl rfl rfl rfl (fun q h => x93_ok h) (fun q4 => ?_)
              refine D.call rfl rfl rfl rfl (fun q h => x95_ok (by decide) h57_2 h) (fun q5 => ?_)
              refine D.run 2 rfl ?_
              exact ih _ _ _ _ _ _ (by first | rfl | assumption) (by first | rfl | assumption) (by first | rfl | assumption) (by first | rfl | assumption)
            · refine D.run 2 rfl ?_
              exact ih _ _ _ _ _ _ (by first | rfl | assumption) (by first | rfl | assumption) (by first | rfl | assumption) (by first | rfl | assumption)
  · intro n
    induction n with
    | zero => intro b5 d3 d6 d7 d8 I hd3 hd6 hd7 hd8; exact D.none
    | succ n ih =>
      intro b5 d3 d6 d7 d8 I hd3 hd6 hd7 hd8
      rw [l94_41]
      refine D.run 2 rfl ?_
      refine D.br rfl (by decide) rfl (fun hc => ?_) (fun hc => ?_)
      · exact fun h => D.to h (K _ _ (by first | rfl | assumption) _ (by first | rfl | assumption) _ (by first | rfl | assumption) _ (by first | rfl | assumption) _ (by first | rfl | assumption) _ (by first | rfl | assumption) _ (by first | rfl | assumption))
      · refine D.run 3 rfl ?_
        refine D.ce rfl rfl rfl rfl (tget_ok (by decide) (by first | rfl | decide) _ _) ?_
        refine D.call rfl rfl rfl rfl (fun q h => x76_ok h) (fun q1 => ?_)
        refine D.run 4 rfl ?_
        refine D.ce rfl rfl rfl rfl (tget_ok (by decide) (by first | rfl | decide) _ _) ?_
        show _ → Rn E 94 (67, [.ref 57, .int b1, .ref (18 + 9), d3, .int b4, .int b5, .int q1, d7, d8], [.int (tget I (18 + 9) b5 1)], wT I R) o w
        refine D.run 6 rfl ?_
        refine D.ce rfl rfl rfl rfl (tget_ok (by decide) (by first | rfl | decide) _ _) ?_
        refine D.run 3 rfl ?_
        refine D.br rfl (by decide) rfl (fun hc => ?_) (fun hc => ?_)
        · refine D.run 7 rfl ?_
          refine D.call rfl rfl rfl rfl (fun q h => x92_ok h) (fun q2 => ?_)
          refine D.ce rfl rfl rfl rfl (tset_ok (by decide) (by first | rfl | decide) _ _ _) ?_
          refine D.run 3 rfl ?_
          exact ih _ _ _ _ _ _ (by first | rfl | assumption) (by first | rfl | assumption) (by first | rfl | assumption) (by first | rfl | assumption)
        · refine D.run 2 rfl ?_
          refine D.br rfl (by decide) rfl (fun hc => ?_) (fun hc => ?_)
          · refine D.run 6 rfl ?_
            refine D.call rfl rfl rfl rfl (fun q h => x93_ok h) (fun q3 => ?_)
            refine D.ce rfl rfl rfl rfl (tset_ok (by decide) (by first | rfl | decide) _ _ _) ?_
            refine D.run 3 rfl ?_
            exact ih _ _ _ _ _ _ (by first | rfl | assumption) (by first | rfl | assumption) (by first | rfl | assumption) (by first | rfl | assumption)
          · refine D.run 2 rfl ?_
            refine D.br rfl (by decide) rfl (fun hc => ?_) (fun hc => ?_)
            · refine D.run 5 rfl ?_
              refine D.call rfl rfl rfl rfl (fun q h => x93_ok h) (fun q4 => ?_)
              refine D.call rfl rfl rfl rfl (fun q h => x95_ok (by decide) h57_2 h) (fun q5 => ?_)
              refine D.run 2 rfl ?_
              exact ih _ _ _ _ _ _ (by first | rfl | assumption) (by first | rfl | assumption) (by first | rfl | assumption) (by first | rfl | assumption)
            · refine D.run 2 rfl ?_
              exact ih _ _ _ _ _ _ (by first | rfl | assumption) (by first | rfl | assumption) (by first | rfl | assumption) (by first | rfl | assumption)
def x94 (P : Nat) (I : St) (a1 : Int32) : Option (St) := (l94_41 P a1 ((tget I (P + 7) a1 5) + (tget I (P + 7) a1 6)) 100000 (tget I (P + 7) a1 5) I).bind fun q6 => some q6
set_option maxRecDepth 20000 in
theorem x94_D {E : Xe} {R : Nat → Nat → Option Nat} {P : Nat} {o : Outcome} {w : Wd} {T : (St) → Prop} {I : St} (hP : P = 3 ∨ P = 18) (h57_2 : R 57 2 = some P) (a1 : Int32) (hT : ∀ r, T r → o = .returned none ∧ w = wT r R) : Dq (x94 P I a1) T → Rn E 94 (0, loc0 94 [.ref 57, .int a1], [], wT I R) o w := by
  unfold x94
  rcases hP with rfl | rfl
  · refine D.run 1 rfl ?_
    refine D.st rfl (by decide) (gf_1 h57_2) ?_
    refine D.run 3 rfl ?_
    refine D.st rfl (by decide) (gf_1 h57_2) ?_
    refine D.run 3 rfl ?_
    refine D.ce rfl rfl rfl rfl (tget_ok (by decide) (by first | rfl | decide) _ _) ?_
    show _ → Rn E 94 (20, [.ref 57, .int a1, .ref (3 + 9), us, us, us, us, us, us], [.int (tget I (3 + 7) a1 5)], wT I R) o w
    refine D.run 3 rfl ?_
    refine D.st rfl (by decide) (gf_1 h57_2) ?_
    refine D.run 3 rfl ?_
    refine D.ce rfl rfl rfl rfl (tget_ok (by decide) (by first | rfl | decide) _ _) ?_
    refine D.run 4 rfl ?_
    refine D.bind (l94_41_ok (by decide) h57_2 (fun q6 e7 he7 e8 he8 e9 he9 e10 he10 e11 he11 e12 he12 e13 he13 => ?_) 100000 _ _ _ _ _ _ (by first | rfl | assumption) (by first | rfl | assumption) (by first | rfl | assumption) (by first | rfl | assumption))
    exact fun h => by obtain ⟨rfl, rfl⟩ := hT _ (D.some h); exact Rn.ret rfl rfl rfl
  · refine D.run 1 rfl ?_
    refine D.st rfl (by decide) (gf_1 h57_2) ?_
    refine D.run 3 rfl ?_
    refine D.st rfl (by decide) (gf_1 h57_2) ?_
    refine D.run 3 rfl ?_
    refine D.ce rfl rfl rfl rfl (tget_ok (by decide) (by first | rfl | decide) _ _) ?_
    show _ → Rn E 94 (20, [.ref 57, .int a1, .ref (18 + 9), us, us, us, us, us, us], [.int (tget I (18 + 7) a1 5)], wT I R) o w
    refine D.run 3 rfl ?_
    refine D.st rfl (by decide) (gf_1 h57_2) ?_
    refine D.run 3 rfl ?_
    refine D.ce rfl rfl rfl rfl (tget_ok (by decide) (by first | rfl | decide) _ _) ?_
    refine D.run 4 rfl ?_
    refine D.bind (l94_41_ok (by decide) h57_2 (fun q6 e7 he7 e8 he8 e9 he9 e10 he10 e11 he11 e12 he12 e13 he13 => ?_) 100000 _ _ _ _ _ _ (by first | rfl | assumption) (by first | rfl | assumption) (by first | rfl | assumption) (by first | rfl | assumption))
    exact fun h => by obtain ⟨rfl, rfl⟩ := hT _ (D.some h); exact Rn.ret rfl rfl rfl
set_option maxRecDepth 20000 in
theorem x94_ok {E : Xe} {R : Nat → Nat → Option Nat} {P : Nat} {I : St} (hP : P = 3 ∨ P = 18) (h57_2 : R 57 2 = some P) {a1 : Int32} {q : St} (h : x94 P I a1 = some q) : Rn E 94 (0, loc0 94 [.ref 57, .int a1], [], wT I R) (.returned none) (wT q R) := x94_D hP h57_2 _ (T := fun r => r = q) (by rintro r rfl; exact ⟨rfl, rfl⟩) ⟨_, h, rfl⟩
/-- TaintHouse$Verifier.enter()V -/
def l99_71 (P : Nat) (b1 : Int32) (b2 : Int32) : Nat → Int32 → St → Option (St)
  | 0, _, _ => none
  | n + 1, b3, I => if b2 ≤ b3 then some I else (x100 I (b1 + b3) (x89 P I (I 58 3) b3)).bind fun q3 => l99_71 P b1 b2 n (b3 + 1) q3
set_option maxRecDepth 20000 in
theorem l99_71_ok {E : Xe} {R : Nat → Nat → Option Nat} {P : Nat} {o : Outcome} {w : Wd} {T : (St) → Prop} {b1 : Int32} {b2 : Int32} (hP : P = 3 ∨ P = 18) (h58_2 : R 58 2 = some P) (K : ∀ (q : St) (e1 : Value) (_ : is1 e1 = true) (e2 : Value) (_ : is1 e2 = true) (e3 : Value) (_ : is1 e3 = true), T q → Rn E 99 (101, [.ref 58, e1, e2, e3], [], wT q R) o w) : ∀ (n : Nat) (b3 : Int32) (I : St), Dq (l99_71 P b1 b2 n b3 I) T → Rn E 99 (71, [.ref 58, .int b1, .int b2, .int b3], [], wT I R) o w := by
  rcases hP with rfl | rfl
  all_goals
    intro n
    induction n with
    | zero => intro b3 I; exact D.none
    | succ n ih =>
      intro b3 I
      rw [l99_71]
      refine D.run 2 rfl ?_
      refine D.br rfl (by decide) rfl (fun hc => ?_) (fun hc => ?_)
      · exact fun h => D.to h (K _ _ (by first | rfl | assumption) _ (by first | rfl | assumption) _ (by first | rfl | assumption))
      · refine D.run 5 rfl ?_
        refine D.st rfl (by decide) (gf_1 h58_2) ?_
        refine D.run 3 rfl ?_
        refine D.ce rfl rfl rfl rfl (x89_ok (by decide) _ _) ?_
        refine D.call rfl rfl rfl rfl (fun q h => x100_ok h) (fun q3 => ?_)
        show _ → Rn E 99 (95, [.ref 58, .int b1, .int b2, .int b3], [], wT q3 R) o w
        refine D.run 2 rfl ?_
        exact ih _ _ 
def x99 (P : Nat) (I : St) : Option (St) := (if (tget I (P + 7) (I 58 3) 2) = 1 then (x100 (up2 (up2 (up2 (up2 (up2 I 58 7 0) 58 8 0) 58 9 0) 58 10 0) 58 11 65535) 0 2).bind fun q1 => some q1 else some (up2 (up2 (up2 (up2 (up2 I 58 7 0) 58 8 0) 58 9 0) 58 10 0) 58 11 65535)).bind fun (q2 : St) => (l99_71 P (tget I (P + 7) (I 58 3) 2) (tget I (P + 7) (I 58 3) 4) 100000 0 q2).bind fun q4 => some q4
set_option maxRecDepth 20000 in
theorem x99_D {E : Xe} {R : Nat → Nat → Option Nat} {P : Nat} {o : Outcome} {w : Wd} {T : (St) → Prop} {I : St} (hP : P = 3 ∨ P = 18) (h58_2 : R 58 2 = some P) (hT : ∀ r, T r → o = .returned none ∧ w = wT r R) : Dq (x99 P I) T → Rn E 99 (0, loc0 99 [.ref 58], [], wT I R) o w := by
  unfold x99
  rcases hP with rfl | rfl
  · refine D.run 1 rfl ?_
    refine D.st rfl (by decide) (gf_1 h58_2) ?_
    refine D.run 4 rfl ?_
    refine D.ce rfl rfl rfl rfl (tget_ok (by decide) (by first | rfl | decide) _ _) ?_
    refine D.run 2 rfl ?_
    refine D.st rfl (by decide) (gf_1 h58_2) ?_
    show _ → Rn E 99 (20, [.ref 58, .int (tget I (3 + 7) (I 58 3) 2), us, us], [.ref 3], wT I R) o w
    refine D.run 4 rfl ?_
    refine D.ce rfl rfl rfl rfl (tget_ok (by decide) (by first | rfl | decide) _ _) ?_
    refine D.run 18 rfl ?_
    have Kj69 : ∀ (q2 : St), Dq ((l99_71 3 (tget I (3 + 7) (I 58 3) 2) (tget I (3 + 7) (I 58 3) 4) 100000 0 q2).bind fun q4 => some q4) T → Rn E 99 (69, [.ref 58, .int (tget I (3 + 7) (I 58 3) 2), .int (tget I (3 + 7) (I 58 3) 4), us], [], wT q2 R) o w := by
      intro q2
      refine D.run 2 rfl ?_
      refine D.bind (l99_71_ok (by decide) h58_2 (fun q4 e5 he5 e6 he6 e7 he7 => ?_) 100000 _  _ )
      exact fun h => by obtain ⟨rfl, rfl⟩ := hT _ (D.some h); exact Rn.ret rfl rfl rfl
    refine D.jn (fun T69 c69 => ?_)
    refine D.br rfl (by decide) rfl (fun hc => ?_) (fun hc => ?_)
    · refine D.run 3 rfl ?_
      refine D.call rfl rfl rfl rfl (fun q h => x100_ok h) (fun q1 => ?_)
      exact fun h => Kj69 _   (c69 _ (D.some h))
    · exact fun h => Kj69 _   (c69 _ (D.some h))
  · refine D.run 1 rfl ?_
    refine D.st rfl (by decide) (gf_1 h58_2) ?_
    refine D.run 4 rfl ?_
    refine D.ce rfl rfl rfl rfl (tget_ok (by decide) (by first | rfl | decide) _ _) ?_
    refine D.run 2 rfl ?_
    refine D.st rfl (by decide) (gf_1 h58_2) ?_
    show _ → Rn E 99 (20, [.ref 58, .int (tget I (18 + 7) (I 58 3) 2), us, us], [.ref 18], wT I R) o w
    refine D.run 4 rfl ?_
    refine D.ce rfl rfl rfl rfl (tget_ok (by decide) (by first | rfl | decide) _ _) ?_
    refine D.run 18 rfl ?_
    have Kj69 : ∀ (q2 : St), Dq ((l99_71 18 (tget I (18 + 7) (I 58 3) 2) (tget I (18 + 7) (I 58 3) 4) 100000 0 q2).bind fun q4 => some q4) T → Rn E 99 (69, [.ref 58, .int (tget I (18 + 7) (I 58 3) 2), .int (tget I (18 + 7) (I 58 3) 4), us], [], wT q2 R) o w := by
      intro q2
      refine D.run 2 rfl ?_
      refine D.bind (l99_71_ok (by decide) h58_2 (fun q4 e5 he5 e6 he6 e7 he7 => ?_) 100000 _  _ )
      exact fun h => by obtain ⟨rfl, rfl⟩ := hT _ (D.some h); exact Rn.ret rfl rfl rfl
    refine D.jn (fun T69 c69 => ?_)
    refine D.br rfl (by decide) rfl (fun hc => ?_) (fun hc => ?_)
    · refine D.run 3 rfl ?_
      refine D.call rfl rfl rfl rfl (fun q h => x100_ok h) (fun q1 => ?_)
      exact fun h => Kj69 _   (c69 _ (D.some h))
    · exact fun h => Kj69 _   (c69 _ (D.some h))
set_option maxRecDepth 20000 in
theorem x99_ok {E : Xe} {R : Nat → Nat → Option Nat} {P : Nat} {I : St} (hP : P = 3 ∨ P = 18) (h58_2 : R 58 2 = some P) {q : St} (h : x99 P I = some q) : Rn E 99 (0, loc0 99 [.ref 58], [], wT I R) (.returned none) (wT q R) := x99_D hP h58_2 (T := fun r => r = q) (by rintro r rfl; exact ⟨rfl, rfl⟩) ⟨_, h, rfl⟩
/-- TaintHouse$Verifier.addLocals(I)V -/
def x102 (I : St) (a1 : Int32) : Option (St) := (x103 I a1 4 (I 58 9)).bind fun q1 => (x103 q1 a1 5 (q1 58 10)).bind fun q2 => (x103 q2 a1 6 (q2 58 11)).bind fun q3 => some q3
set_option maxRecDepth 20000 in
theorem x102_D {E : Xe} {R : Nat → Nat → Option Nat} {o : Outcome} {w : Wd} {T : (St) → Prop} {I : St} (a1 : Int32) (hT : ∀ r, T r → o = .returned none ∧ w = wT r R) : Dq (x102 I a1) T → Rn E 102 (0, loc0 102 [.ref 58, .int a1], [], wT I R) o w := by
  unfold x102
  refine D.run 5 rfl ?_
  refine D.call rfl rfl rfl rfl (fun q h => x103_ok h) (fun q1 => ?_)
  refine D.run 5 rfl ?_
  refine D.call rfl rfl rfl rfl (fun q h => x103_ok h) (fun q2 => ?_)
  refine D.run 5 rfl ?_
  refine D.call rfl rfl rfl rfl (fun q h => x103_ok h) (fun q3 => ?_)
  show _ → Rn E 102 (31, [.ref 58, .int a1], [], wT q3 R) o w
  exact fun h => by obtain ⟨rfl, rfl⟩ := hT _ (D.some h); exact Rn.ret rfl rfl rfl
set_option maxRecDepth 20000 in
theorem x102_ok {E : Xe} {R : Nat → Nat → Option Nat} {I : St} {a1 : Int32} {q : St} (h : x102 I a1 = some q) : Rn E 102 (0, loc0 102 [.ref 58, .int a1], [], wT I R) (.returned none) (wT q R) := x102_D  _ (T := fun r => r = q) (by rintro r rfl; exact ⟨rfl, rfl⟩) ⟨_, h, rfl⟩
/-- TaintHouse$Verifier.applyPlain(I)Z -/
def l113_7 (b1 : Int32) : Nat → Int32 → Int32 → St → Option (Int32 × St)
  | 0, _, _, _ => none
  | n + 1, b2, b3, I => if b3 ≤ 0 then some (b2, I) else (x111 I).bind fun q2 => if q2.1 = (b3 - b3 / 10 * 10) then if b2 = 0 then l113_7 b1 n 0 (b3 / 10) q2.2 else l113_7 b1 n 1 (b3 / 10) q2.2 else l113_7 b1 n 0 (b3 / 10) q2.2
set_option maxRecDepth 20000 in
theorem l113_7_ok {E : Xe} {R : Nat → Nat → Option Nat} {o : Outcome} {w : Wd} {T : (Int32 × St) → Prop} {b1 : Int32} (K : ∀ (q : Int32 × St) (e3 : Value) (_ : is1 e3 = true), T q → Rn E 113 (40, [.ref 58, .int b1, .int q.1, e3], [], wT q.2 R) o w) : ∀ (n : Nat) (b2 : Int32) (b3 : Int32) (I : St), Dq (l113_7 b1 n b2 b3 I) T → Rn E 113 (7, [.ref 58, .int b1, .int b2, .int b3], [], wT I R) o w := by
  intro n
  induction n with
  | zero => intro b2 b3 I; exact D.none
  | succ n ih =>
    intro b2 b3 I
    rw [l113_7]
    refine D.run 1 rfl ?_
    refine D.br rfl (by decide) rfl (fun hc => ?_) (fun hc => ?_)
    · exact fun h => D.to h (K _ _ (by first | rfl | assumption))
    · refine D.run 1 rfl ?_
      refine D.call rfl rfl rfl rfl (fun q h => x111_ok h) (fun q2 => ?_)
      refine D.run 2 rfl ?_
      refine D.st rfl (by decide) (rem_s (by decide)) ?_
      refine D.br rfl (by decide) rfl (fun hc => ?_) (fun hc => ?_)
      · refine D.run 1 rfl ?_
        refine D.br rfl (by decide) rfl (fun hc => ?_) (fun hc => ?_)
        · refine D.run 4 rfl ?_
          refine D.st rfl (by decide) (div_s (by decide)) ?_
          refine D.run 2 rfl ?_
          exact ih _ _ _ 
        · refine D.run 5 rfl ?_
          refine D.st rfl (by decide) (div_s (by decide)) ?_
          refine D.run 2 rfl ?_
          exact ih _ _ _ 
      · refine D.run 4 rfl ?_
        refine D.st rfl (by decide) (div_s (by decide)) ?_
        refine D.run 2 rfl ?_
        exact ih _ _ _ 
def x113 (I : St) (a1 : Int32) : Option (Int32 × St) := (x114 I a1).bind fun q1 => (l113_7 a1 100000 1 q1 I).bind fun q3 => (x115 q3.2 a1).bind fun q5 => (x110 q3.2 q5).bind fun q6 => if q3.1 = 0 ∨ q3.1 = 1 then some (q3.1, q6) else none
set_option maxRecDepth 20000 in
theorem x113_D {E : Xe} {R : Nat → Nat → Option Nat} {o : Outcome} {w : Wd} {T : (Int32 × St) → Prop} {I : St} (a1 : Int32) (hT : ∀ r, T r → o = .returned (some (.int r.1)) ∧ w = wT r.2 R) : Dq (x113 I a1) T → Rn E 113 (0, loc0 113 [.ref 58, .int a1], [], wT I R) o w := by
  unfold x113
  refine D.run 3 rfl ?_
  refine D.call rfl rfl rfl rfl (fun q h => x114_ok h) (fun q1 => ?_)
  refine D.run 1 rfl ?_
  refine D.bind (l113_7_ok  (fun q3 e4 he4 => ?_) 100000 _ _  _ )
  refine D.run 2 rfl ?_
  refine D.call rfl rfl rfl rfl (fun q h => x115_ok h) (fun q5 => ?_)
  refine D.call rfl rfl rfl rfl (fun q h => x110_ok h) (fun q6 => ?_)
  refine D.run 1 rfl ?_
  refine D.gd fun hg => ?_
  exact fun h => by obtain ⟨rfl, rfl⟩ := hT _ (D.some h); exact Rn.ret rfl rfl (if_pos hg)
set_option maxRecDepth 20000 in
theorem x113_ok {E : Xe} {R : Nat → Nat → Option Nat} {I : St} {a1 : Int32} {q : Int32 × St} (h : x113 I a1 = some q) : Rn E 113 (0, loc0 113 [.ref 58, .int a1], [], wT I R) (.returned (some (.int q.1))) (wT q.2 R) := x113_D  _ (T := fun r => r = q) (by rintro r rfl; exact ⟨rfl, rfl⟩) ⟨_, h, rfl⟩
/-- TaintHouse$Machine.begin(LTaintHouse$Program;I)V -/
def l126_22 (P : Nat) (b2 : Int32) : Nat → Int32 → St → Option (St)
  | 0, _, _ => none
  | n + 1, b3, I => if (I (P + 5) 3) ≤ b3 then some I else (if (tget I (P + 5) b3 3) = 2 then some (-1) else some 0).bind fun (q2 : Int32) => l126_22 P b2 n (b3 + 1) (tset2 I 74 b3 q2 0)
set_option maxRecDepth 20000 in
theorem l126_22_ok {E : Xe} {R : Nat → Nat → Option Nat} {P : Nat} {o : Outcome} {w : Wd} {T : (St) → Prop} {b2 : Int32} (hP : P = 3 ∨ P = 18) (h68_6 : R 68 6 = some P) (K : ∀ (q : St) (e3 : Value) (_ : is1 e3 = true) (e4 : Value) (_ : is1 e4 = true) (e5 : Value) (_ : is1 e5 = true) (e6 : Value) (_ : is1 e6 = true) (e7 : Value) (_ : is1 e7 = true), T q → Rn E 126 (72, [.ref 68, .ref P, .int b2, e3, e4, e5, e6, e7], [], wT q R) o w) : ∀ (n : Nat) (b3 : Int32) (d4 : Value) (d5 : Value) (d6 : Value) (d7 : Value) (I : St), is1 d4 = true → is1 d5 = true → is1 d6 = true → is1 d7 = true → Dq (l126_22 P b2 n b3 I) T → Rn E 126 (22, [.ref 68, .ref P, .int b2, .int b3, d4, d5, d6, d7], [], wT I R) o w := by
  rcases hP with rfl | rfl
  · intro n
    induction n with
    | zero => intro b3 d4 d5 d6 d7 I hd4 hd5 hd6 hd7; exact D.none
    | succ n ih =>
      intro b3 d4 d5 d6 d7 I hd4 hd5 hd6 hd7
      rw [l126_22]
      refine D.run 2 rfl ?_
      refine D.st rfl (by decide) (gf_1 h68_6) ?_
      refine D.run 1 rfl ?_
      refine D.ce rfl rfl rfl rfl (tsize_ok (by decide) (by first | rfl | decide)) ?_
      refine D.br rfl (by decide) rfl (fun hc => ?_) (fun hc => ?_)
      · exact fun h => D.to h (K _ _ (by first | rfl | assumption) _ (by first | rfl | assumption) _ (by first | rfl | assumption) _ (by first | rfl | assumption) _ (by first | rfl | assumption))
      · refine D.run 4 rfl ?_
        refine D.st rfl (by decide) (gf_1 h68_6) ?_
        refine D.run 3 rfl ?_
        refine D.ce rfl rfl rfl rfl (tget_ok (by decide) (by first | rfl | decide) _ _) ?_
        refine D.run 1 rfl ?_
        have Kj62 : ∀ (q2 : Int32), Dq (l126_22 3 b2 n (b3 + 1) (tset2 I 74 b3 q2 0)) T → Rn E 126 (62, [.ref 68, .ref 3, .int b2, .int b3, d4, d5, d6, d7], [.int q2, .int b3, .ref 74], wT I R) o w := by
          intro q2
          refine D.run 1 rfl ?_
          refine D.ce rfl rfl rfl rfl (tsetP_ok (by decide) (by first | rfl | decide) (by decide) _ _ _) ?_
          refine D.run 2 rfl ?_
          exact ih _ _ _ _ _ _ (by first | rfl | assumption) (by first | rfl | assumption) (by first | rfl | assumption) (by first | rfl | assumption)
        refine D.jn (fun T62 c62 => ?_)
        refine D.br rfl (by decide) rfl (fun hc => ?_) (fun hc => ?_)
        · refine D.run 2 rfl ?_
          exact fun h => Kj62 _   (c62 _ (D.some h))
        · refine D.run 1 rfl ?_
          exact fun h => Kj62 _   (c62 _ (D.some h))
  · intro n
    induction n with
    | zero => intro b3 d4 d5 d6 d7 I hd4 hd5 hd6 hd7; exact D.none
    | succ n ih =>
      intro b3 d4 d5 d6 d7 I hd4 hd5 hd6 hd7
      rw [l126_22]
      refine D.run 2 rfl ?_
      refine D.st rfl (by decide) (gf_1 h68_6) ?_
      refine D.run 1 rfl ?_
      refine D.ce rfl rfl rfl rfl (tsize_ok (by decide) (by first | rfl | decide)) ?_
      refine D.br rfl (by decide) rfl (fun hc => ?_) (fun hc => ?_)
      · exact fun h => D.to h (K _ _ (by first | rfl | assumption) _ (by first | rfl | assumption) _ (by first | rfl | assumption) _ (by first | rfl | assumption) _ (by first | rfl | assumption))
      · refine D.run 4 rfl ?_
        refine D.st rfl (by decide) (gf_1 h68_6) ?_
        refine D.run 3 rfl ?_
        refine D.ce rfl rfl rfl rfl (tget_ok (by decide) (by first | rfl | decide) _ _) ?_
        refine D.run 1 rfl ?_
        have Kj62 : ∀ (q2 : Int32), Dq (l126_22 18 b2 n (b3 + 1) (tset2 I 74 b3 q2 0)) T → Rn E 126 (62, [.ref 68, .ref 18, .int b2, .int b3, d4, d5, d6, d7], [.int q2, .int b3, .ref 74], wT I R) o w := by
          intro q2
          refine D.run 1 rfl ?_
          refine D.ce rfl rfl rfl rfl (tsetP_ok (by decide) (by first | rfl | decide) (by decide) _ _ _) ?_
          refine D.run 2 rfl ?_
          exact ih _ _ _ _ _ _ (by first | rfl | assumption) (by first | rfl | assumption) (by first | rfl | assumption) (by first | rfl | assumption)
        refine D.jn (fun T62 c62 => ?_)
        refine D.br rfl (by decide) rfl (fun hc => ?_) (fun hc => ?_)
        · refine D.run 2 rfl ?_
          exact fun h => Kj62 _   (c62 _ (D.some h))
        · refine D.run 1 rfl ?_
          exact fun h => Kj62 _   (c62 _ (D.some h))
def l126_159 (P : Nat) (b2 : Int32) (b3 : Int32) (b4 : Int32) : Nat → Int32 → St → Option (St)
  | 0, _, _ => none
  | n + 1, b5, I => if b4 ≤ b5 then some I else (if b5 < b3 then some 1 else if (x89 P I b2 (b5 - b3)) = 2 then some 1 else some 0).bind fun (q12 : Int32) => (if q12 = 0 then some (tget I 66 b5 0) else some (-1)).bind fun (q13 : Int32) => l126_159 P b2 b3 b4 n (b5 + 1) (tset2 I 80 (x128 I b5) q13 (tget I 66 b5 1))
set_option maxRecDepth 20000 in
theorem l126_159_ok {E : Xe} {R : Nat → Nat → Option Nat} {P : Nat} {o : Outcome} {w : Wd} {T : (St) → Prop} {b2 : Int32} {b3 : Int32} {b4 : Int32} (hP : P = 3 ∨ P = 18) (h68_6 : R 68 6 = some P) (K : ∀ (q : St) (e2 : Value) (_ : is1 e2 = true) (e3 : Value) (_ : is1 e3 = true) (e4 : Value) (_ : is1 e4 = true) (e5 : Value) (_ : is1 e5 = true) (e6 : Value) (_ : is1 e6 = true) (e7 : Value) (_ : is1 e7 = true), T q → Rn E 126 (253, [.ref 68, .ref P, e2, e3, e4, e5, e6, e7], [], wT q R) o w) : ∀ (n : Nat) (b5 : Int32) (d6 : Value) (d7 : Value) (I : St), is1 d6 = true → is1 d7 = true → Dq (l126_159 P b2 b3 b4 n b5 I) T → Rn E 126 (159, [.ref 68, .ref P, .int b2, .int b3, .int b4, .int b5, d6, d7], [], wT I R) o w := by
  rcases hP with rfl | rfl
  · intro n
    induction n with
    | zero => intro b5 d6 d7 I hd6 hd7; exact D.none
    | succ n ih =>
      intro b5 d6 d7 I hd6 hd7
      rw [l126_159]
      refine D.run 2 rfl ?_
      refine D.br rfl (by decide) rfl (fun hc => ?_) (fun hc => ?_)
      · exact fun h => D.to h (K _ _ (by first | rfl | assumption) _ (by first | rfl | assumption) _ (by first | rfl | assumption) _ (by first | rfl | assumption) _ (by first | rfl | assumption) _ (by first | rfl | assumption))
      · refine D.run 2 rfl ?_
        have Kj193 : ∀ (q12 : Int32), Dq ((if q12 = 0 then some (tget I 66 b5 0) else some (-1)).bind fun (q13 : Int32) => l126_159 3 b2 b3 b4 n (b5 + 1) (tset2 I 80 (x128 I b5) q13 (tget I 66 b5 1))) T → Rn E 126 (193, [.ref 68, .ref 3, .int b2, .int b3, .int b4, .int b5, d6, d7], [.int q12], wT I R) o w := by
          intro q12
          refine D.run 2 rfl ?_
          have Kj217 : ∀ (q13 : Int32), Dq (l126_159 3 b2 b3 b4 n (b5 + 1) (tset2 I 80 (x128 I b5) q13 (tget I 66 b5 1))) T → Rn E 126 (217, [.ref 68, .ref 3, .int b2, .int b3, .int b4, .int b5, .int q12, d7], [.int q13], wT I R) o w := by
            intro q13
            refine D.run 5 rfl ?_
            refine D.ce rfl rfl rfl rfl (x128_ok _) ?_
            refine D.run 6 rfl ?_
            refine D.ce rfl rfl rfl rfl (tget_ok (by decide) (by first | rfl | decide) _ _) ?_
            refine D.ce rfl rfl rfl rfl (tsetP_ok (by decide) (by first | rfl | decide) (by decide) _ _ _) ?_
            show _ → Rn E 126 (247, [.ref 68, .ref 3, .int b2, .int b3, .int b4, .int b5, .int q12, .int q13], [], wT (tset2 I 80 (x128 I b5) q13 (tget I 66 b5 1)) R) o w
            refine D.run 2 rfl ?_
            exact ih _ _ _ _ (by first | rfl | assumption) (by first | rfl | assumption)
          refine D.jn (fun T217 c217 => ?_)
          refine D.br rfl (by decide) rfl (fun hc => ?_) (fun hc => ?_)
          · refine D.run 5 rfl ?_
            refine D.ce rfl rfl rfl rfl (tget_ok (by decide) (by first | rfl | decide) _ _) ?_
            exact fun h => Kj217 _   (c217 _ (D.some h))
          · refine D.run 2 rfl ?_
            exact fun h => Kj217 _   (c217 _ (D.some h))
        refine D.jn (fun T193 c193 => ?_)
        refine D.br rfl (by decide) rfl (fun hc => ?_) (fun hc => ?_)
        · refine D.run 2 rfl ?_
          exact fun h => Kj193 _   (c193 _ (D.some h))
        · refine D.run 1 rfl ?_
          refine D.st rfl (by decide) (gf_1 h68_6) ?_
          refine D.run 4 rfl ?_
          refine D.ce rfl rfl rfl rfl (x89_ok (by decide) _ _) ?_
          refine D.run 1 rfl ?_
          refine D.br rfl (by decide) rfl (fun hc => ?_) (fun hc => ?_)
          · refine D.run 2 rfl ?_
            exact fun h => Kj193 _   (c193 _ (D.some h))
          · refine D.run 1 rfl ?_
            exact fun h => Kj193 _   (c193 _ (D.some h))
  · intro n
    induction n with
    | zero => intro b5 d6 d7 I hd6 hd7; exact D.none
    | succ n ih =>
      intro b5 d6 d7 I hd6 hd7
      rw [l126_159]
      refine D.run 2 rfl ?_
      refine D.br rfl (by decide) rfl (fun hc => ?_) (fun hc => ?_)
      · exact fun h => D.to h (K _ _ (by first | rfl | assumption) _ (by first | rfl | assumption) _ (by first | rfl | assumption) _ (by first | rfl | assumption) _ (by first | rfl | assumption) _ (by first | rfl | assumption))
      · refine D.run 2 rfl ?_
        have Kj193 : ∀ (q12 : Int32), Dq ((if q12 = 0 then some (tget I 66 b5 0) else some (-1)).bind fun (q13 : Int32) => l126_159 18 b2 b3 b4 n (b5 + 1) (tset2 I 80 (x128 I b5) q13 (tget I 66 b5 1))) T → Rn E 126 (193, [.ref 68, .ref 18, .int b2, .int b3, .int b4, .int b5, d6, d7], [.int q12], wT I R) o w := by
          intro q12
          refine D.run 2 rfl ?_
          have Kj217 : ∀ (q13 : Int32), Dq (l126_159 18 b2 b3 b4 n (b5 + 1) (tset2 I 80 (x128 I b5) q13 (tget I 66 b5 1))) T → Rn E 126 (217, [.ref 68, .ref 18, .int b2, .int b3, .int b4, .int b5, .int q12, d7], [.int q13], wT I R) o w := by
            intro q13
            refine D.run 5 rfl ?_
            refine D.ce rfl rfl rfl rfl (x128_ok _) ?_
            refine D.run 6 rfl ?_
            refine D.ce rfl rfl rfl rfl (tget_ok (by decide) (by first | rfl | decide) _ _) ?_
            refine D.ce rfl rfl rfl rfl (tsetP_ok (by decide) (by first | rfl | decide) (by decide) _ _ _) ?_
            show _ → Rn E 126 (247, [.ref 68, .ref 18, .int b2, .int b3, .int b4, .int b5, .int q12, .int q13], [], wT (tset2 I 80 (x128 I b5) q13 (tget I 66 b5 1)) R) o w
            refine D.run 2 rfl ?_
            exact ih _ _ _ _ (by first | rfl | assumption) (by first | rfl | assumption)
          refine D.jn (fun T217 c217 => ?_)
          refine D.br rfl (by decide) rfl (fun hc => ?_) (fun hc => ?_)
          · refine D.run 5 rfl ?_
            refine D.ce rfl rfl rfl rfl (tget_ok (by decide) (by first | rfl | decide) _ _) ?_
            exact fun h => Kj217 _   (c217 _ (D.some h))
          · refine D.run 2 rfl ?_
            exact fun h => Kj217 _   (c217 _ (D.some h))
        refine D.jn (fun T193 c193 => ?_)
        refine D.br rfl (by decide) rfl (fun hc => ?_) (fun hc => ?_)
        · refine D.run 2 rfl ?_
          exact fun h => Kj193 _   (c193 _ (D.some h))
        · refine D.run 1 rfl ?_
          refine D.st rfl (by decide) (gf_1 h68_6) ?_
          refine D.run 4 rfl ?_
          refine D.ce rfl rfl rfl rfl (x89_ok (by decide) _ _) ?_
          refine D.run 1 rfl ?_
          refine D.br rfl (by decide) rfl (fun hc => ?_) (fun hc => ?_)
          · refine D.run 2 rfl ?_
            exact fun h => Kj193 _   (c193 _ (D.some h))
          · refine D.run 1 rfl ?_
            exact fun h => Kj193 _   (c193 _ (D.some h))
def x126 (P : Nat) (I : St) (a2 : Int32) : Option (St) := (x127 I).bind fun q1 => (l126_22 P a2 100000 0 (tresize q1 76 0)).bind fun q3 => Lt (up2 (up2 (up2 (up2 (up2 (up2 (up2 q3 68 13 1) 68 14 (-1)) 68 15 0) 68 16 0) 68 17 0) 68 18 0) 68 12 0) fun J9 => Lt (tget (up2 (up2 (up2 (up2 J9 68 7 0) 68 8 a2) 68 9 0) 68 11 0) (P + 7) a2 2) fun v10 => Lt (v10 + (tget (up2 (up2 (up2 (up2 J9 68 7 0) 68 8 a2) 68 9 0) 68 11 0) (P + 7) a2 4)) fun v11 => (l126_159 P a2 v10 v11 100000 0 (up2 (up2 (up2 (up2 J9 68 7 0) 68 8 a2) 68 9 0) 68 11 0)).bind fun q14 => some q14
set_option maxRecDepth 20000 in
theorem x126_D {E : Xe} {R : Nat → Nat → Option Nat} {P : Nat} {o : Outcome} {w : Wd} {T : (St) → Prop} {I : St} (hP : P = 3 ∨ P = 18) (h68_6 : R 68 6 = some P) (a2 : Int32) (hT : ∀ r, T r → o = .returned none ∧ w = wT r (up2 R 68 6 (some P))) : Dq (x126 P I a2) T → Rn E 126 (0, loc0 126 [.ref 68, .ref P, .int a2], [], wT I R) o w := by
  unfold x126
  rcases hP with rfl | rfl
  · refine D.run 5 rfl ?_
    refine D.call rfl rfl rfl rfl (fun q h => x127_ok h) (fun q1 => ?_)
    refine D.run 3 rfl ?_
    refine D.ce rfl rfl rfl rfl (tresize_ok (by decide) (by first | rfl | decide) _) ?_
    refine D.run 2 rfl ?_
    refine D.bind (l126_22_ok (by decide) rfl (fun q3 e4 he4 e5 he5 e6 he6 e7 he7 e8 he8 => ?_) 100000 _ _ _ _ _ _ (by first | rfl | assumption) (by first | rfl | assumption) (by first | rfl | assumption) (by first | rfl | assumption))
    refine D.run 21 rfl ?_
    refine D.letS (fun J9 => ?_)
    refine D.run 13 rfl ?_
    refine D.st rfl (by decide) (gf_1 rfl) ?_
    refine D.run 3 rfl ?_
    refine D.ce rfl rfl rfl rfl (tget_ok (by decide) (by first | rfl | decide) _ _) ?_
    show _ → Rn E 126 (139, [.ref 68, .ref 3, .int a2, e4, e5, e6, e7, e8], [.int (tget (up2 (up2 (up2 (up2 J9 68 7 0) 68 8 a2) 68 9 0) 68 11 0) (3 + 7) a2 2)], wT (up2 (up2 (up2 (up2 J9 68 7 0) 68 8 a2) 68 9 0) 68 11 0) (up2 R 68 6 (some 3))) o w
    refine D.run 1 rfl ?_
    refine D.letV (frame := fun v10 => (140, [.ref 68, .ref 3, .int a2, .int v10, e5, e6, e7, e8], [], wT (up2 (up2 (up2 (up2 J9 68 7 0) 68 8 a2) 68 9 0) 68 11 0) (up2 R 68 6 (some 3)))) (fun v10 => ?_)
    refine D.run 2 rfl ?_
    refine D.st rfl (by decide) (gf_1 rfl) ?_
    refine D.run 3 rfl ?_
    refine D.ce rfl rfl rfl rfl (tget_ok (by decide) (by first | rfl | decide) _ _) ?_
    show _ → Rn E 126 (153, [.ref 68, .ref 3, .int a2, .int v10, e5, e6, e7, e8], [.int (tget (up2 (up2 (up2 (up2 J9 68 7 0) 68 8 a2) 68 9 0) 68 11 0) (3 + 7) a2 4), .int v10], wT (up2 (up2 (up2 (up2 J9 68 7 0) 68 8 a2) 68 9 0) 68 11 0) (up2 R 68 6 (some 3))) o w
    refine D.run 2 rfl ?_
    refine D.letV (frame := fun v11 => (156, [.ref 68, .ref 3, .int a2, .int v10, .int v11, e6, e7, e8], [], wT (up2 (up2 (up2 (up2 J9 68 7 0) 68 8 a2) 68 9 0) 68 11 0) (up2 R 68 6 (some 3)))) (fun v11 => ?_)
    refine D.run 2 rfl ?_
    refine D.bind (l126_159_ok (by decide) rfl (fun q14 e15 he15 e16 he16 e17 he17 e18 he18 e19 he19 e20 he20 => ?_) 100000 _ _ _ _ (by first | rfl | assumption) (by first | rfl | assumption))
    exact fun h => by obtain ⟨rfl, rfl⟩ := hT _ (D.some h); exact Rn.ret rfl rfl rfl
  · refine D.run 5 rfl ?_
    refine D.call rfl rfl rfl rfl (fun q h => x127_ok h) (fun q1 => ?_)
    refine D.run 3 rfl ?_
    refine D.ce rfl rfl rfl rfl (tresize_ok (by decide) (by first | rfl | decide) _) ?_
    refine D.run 2 rfl ?_
    refine D.bind (l126_22_ok (by decide) rfl (fun q3 e4 he4 e5 he5 e6 he6 e7 he7 e8 he8 => ?_) 100000 _ _ _ _ _ _ (by first | rfl | assumption) (by first | rfl | assumption) (by first | rfl | assumption) (by first | rfl | assumption))
    refine D.run 21 rfl ?_
    refine D.letS (fun J9 => ?_)
    refine D.run 13 rfl ?_
    refine D.st rfl (by decide) (gf_1 rfl) ?_
    refine D.run 3 rfl ?_
    refine D.ce rfl rfl rfl rfl (tget_ok (by decide) (by first | rfl | decide) _ _) ?_
    show _ → Rn E 126 (139, [.ref 68, .ref 18, .int a2, e4, e5, e6, e7, e8], [.int (tget (up2 (up2 (up2 (up2 J9 68 7 0) 68 8 a2) 68 9 0) 68 11 0) (18 + 7) a2 2)], wT (up2 (up2 (up2 (up2 J9 68 7 0) 68 8 a2) 68 9 0) 68 11 0) (up2 R 68 6 (some 18))) o w
    refine D.run 1 rfl ?_
    refine D.letV (frame := fun v10 => (140, [.ref 68, .ref 18, .int a2, .int v10, e5, e6, e7, e8], [], wT (up2 (up2 (up2 (up2 J9 68 7 0) 68 8 a2) 68 9 0) 68 11 0) (up2 R 68 6 (some 18)))) (fun v10 => ?_)
    refine D.run 2 rfl ?_
    refine D.st rfl (by decide) (gf_1 rfl) ?_
    refine D.run 3 rfl ?_
    refine D.ce rfl rfl rfl rfl (tget_ok (by decide) (by first | rfl | decide) _ _) ?_
    show _ → Rn E 126 (153, [.ref 68, .ref 18, .int a2, .int v10, e5, e6, e7, e8], [.int (tget (up2 (up2 (up2 (up2 J9 68 7 0) 68 8 a2) 68 9 0) 68 11 0) (18 + 7) a2 4), .int v10], wT (up2 (up2 (up2 (up2 J9 68 7 0) 68 8 a2) 68 9 0) 68 11 0) (up2 R 68 6 (some 18))) o w
    refine D.run 2 rfl ?_
    refine D.letV (frame := fun v11 => (156, [.ref 68, .ref 18, .int a2, .int v10, .int v11, e6, e7, e8], [], wT (up2 (up2 (up2 (up2 J9 68 7 0) 68 8 a2) 68 9 0) 68 11 0) (up2 R 68 6 (some 18)))) (fun v11 => ?_)
    refine D.run 2 rfl ?_
    refine D.bind (l126_159_ok (by decide) rfl (fun q14 e15 he15 e16 he16 e17 he17 e18 he18 e19 he19 e20 he20 => ?_) 100000 _ _ _ _ (by first | rfl | assumption) (by first | rfl | assumption))
    exact fun h => by obtain ⟨rfl, rfl⟩ := hT _ (D.some h); exact Rn.ret rfl rfl rfl
set_option maxRecDepth 20000 in
theorem x126_ok {E : Xe} {R : Nat → Nat → Option Nat} {P : Nat} {I : St} (hP : P = 3 ∨ P = 18) (h68_6 : R 68 6 = some P) {a2 : Int32} {q : St} (h : x126 P I a2 = some q) : Rn E 126 (0, loc0 126 [.ref 68, .ref P, .int a2], [], wT I R) (.returned none) (wT q (up2 R 68 6 (some P))) := x126_D hP h68_6 _ (T := fun r => r = q) (by rintro r rfl; exact ⟨rfl, rfl⟩) ⟨_, h, rfl⟩
/-- TaintHouse$Machine.push(II)V -/
def x131 (I : St) (a1 a2 : Int32) : Option (St) := some (tset2 (up2 I 68 11 ((I 68 11) + 1)) 80 (x132 (up2 I 68 11 ((I 68 11) + 1)) 0) a1 a2)
set_option maxRecDepth 20000 in
theorem x131_D {E : Xe} {R : Nat → Nat → Option Nat} {o : Outcome} {w : Wd} {T : (St) → Prop} {I : St} (a1 a2 : Int32) (hT : ∀ r, T r → o = .returned none ∧ w = wT r R) : Dq (x131 I a1 a2) T → Rn E 131 (0, loc0 131 [.ref 68, .int a1, .int a2], [], wT I R) o w := by
  unfold x131
  refine D.run 10 rfl ?_
  refine D.ce rfl rfl rfl rfl (x132_ok _) ?_
  refine D.run 2 rfl ?_
  refine D.ce rfl rfl rfl rfl (tsetP_ok (by decide) (by first | rfl | decide) (by decide) _ _ _) ?_
  exact fun h => by obtain ⟨rfl, rfl⟩ := hT _ (D.some h); exact Rn.ret rfl rfl rfl
set_option maxRecDepth 20000 in
theorem x131_ok {E : Xe} {R : Nat → Nat → Option Nat} {I : St} {a1 a2 : Int32} {q : St} (h : x131 I a1 a2 = some q) : Rn E 131 (0, loc0 131 [.ref 68, .int a1, .int a2], [], wT I R) (.returned none) (wT q R) := x131_D  _ _ (T := fun r => r = q) (by rintro r rfl; exact ⟨rfl, rfl⟩) ⟨_, h, rfl⟩
/-- TaintHouse$Machine.replace(III)V -/
def x136 (I : St) (a1 a2 a3 : Int32) : Option (St) := (x135 I a1).bind fun q1 => (x131 q1 a2 a3).bind fun q2 => some q2
set_option maxRecDepth 20000 in
theorem x136_D {E : Xe} {R : Nat → Nat → Option Nat} {o : Outcome} {w : Wd} {T : (St) → Prop} {I : St} (a1 a2 a3 : Int32) (hT : ∀ r, T r → o = .returned none ∧ w = wT r R) : Dq (x136 I a1 a2 a3) T → Rn E 136 (0, loc0 136 [.ref 68, .int a1, .int a2, .int a3], [], wT I R) o w := by
  unfold x136
  refine D.run 2 rfl ?_
  refine D.call rfl rfl rfl rfl (fun q h => x135_ok h) (fun q1 => ?_)
  refine D.run 3 rfl ?_
  refine D.call rfl rfl rfl rfl (fun q h => x131_ok h) (fun q2 => ?_)
  exact fun h => by obtain ⟨rfl, rfl⟩ := hT _ (D.some h); exact Rn.ret rfl rfl rfl
set_option maxRecDepth 20000 in
theorem x136_ok {E : Xe} {R : Nat → Nat → Option Nat} {I : St} {a1 a2 a3 : Int32} {q : St} (h : x136 I a1 a2 a3 = some q) : Rn E 136 (0, loc0 136 [.ref 68, .int a1, .int a2, .int a3], [], wT I R) (.returned none) (wT q R) := x136_D  _ _ _ (T := fun r => r = q) (by rintro r rfl; exact ⟨rfl, rfl⟩) ⟨_, h, rfl⟩
/-- TaintHouse$Machine.fault(II)V -/
def x138 (I : St) (a1 a2 : Int32) : Option (St) := (x139 I a1 0 0).bind fun q1 => if q1.1 = (-1) then some (up2 q1.2 68 14 6) else (x140 q1.2 q1.1 a2).bind fun q2 => some q2
set_option maxRecDepth 20000 in
theorem x138_D {E : Xe} {R : Nat → Nat → Option Nat} {o : Outcome} {w : Wd} {T : (St) → Prop} {I : St} (a1 a2 : Int32) (hT : ∀ r, T r → o = .returned none ∧ w = wT r R) : Dq (x138 I a1 a2) T → Rn E 138 (0, loc0 138 [.ref 68, .int a1, .int a2], [], wT I R) o w := by
  unfold x138
  refine D.run 5 rfl ?_
  refine D.call rfl rfl rfl rfl (fun q h => x139_ok h) (fun q1 => ?_)
  refine D.run 3 rfl ?_
  refine D.br rfl (by decide) rfl (fun hc => ?_) (fun hc => ?_)
  · refine D.run 4 rfl ?_
    exact fun h => by obtain ⟨rfl, rfl⟩ := hT _ (D.some h); exact Rn.ret rfl rfl rfl
  · refine D.run 3 rfl ?_
    refine D.call rfl rfl rfl rfl (fun q h => x140_ok h) (fun q2 => ?_)
    exact fun h => by obtain ⟨rfl, rfl⟩ := hT _ (D.some h); exact Rn.ret rfl rfl rfl
set_option maxRecDepth 20000 in
theorem x138_ok {E : Xe} {R : Nat → Nat → Option Nat} {I : St} {a1 a2 : Int32} {q : St} (h : x138 I a1 a2 = some q) : Rn E 138 (0, loc0 138 [.ref 68, .int a1, .int a2], [], wT I R) (.returned none) (wT q R) := x138_D  _ _ (T := fun r => r = q) (by rintro r rfl; exact ⟨rfl, rfl⟩) ⟨_, h, rfl⟩
/-- TaintHouse$Machine.doBranch(II)V -/
def x142 (I : St) (a1 a2 : Int32) : Option (St) := (if a1 = 20 then some (1, 0) else if 26 < a1 then if 32 < a1 then if 34 < a1 then (if (x133 I 1) = (x133 I 0) then some 1 else some 0).bind fun (q1 : Int32) => (if a1 = 35 then some 1 else some 0).bind fun (q2 : Int32) => if q1 = q2 then some (1, 2) else some (0, 2) else (if (x133 I 0) = (-1) then some 1 else some 0).bind fun (q3 : Int32) => (if a1 = 33 then some 1 else some 0).bind fun (q4 : Int32) => if q3 = q4 then some (1, 1) else some (0, 1) else some ((x143 I (a1 - 27) (x133 I 1) (x133 I 0)), 2) else some ((x143 I (a1 - 21) (x133 I 0) 0), 1)).bind fun (q5 : Int32 × Int32) => (x135 I q5.2).bind fun q6 => if q5.1 = 0 then some q6 else some (up2 q6 68 10 a2)
set_option maxRecDepth 20000 in
theorem x142_D {E : Xe} {R : Nat → Nat → Option Nat} {o : Outcome} {w : Wd} {T : (St) → Prop} {I : St} (a1 a2 : Int32) (hT : ∀ r, T r → o = .returned none ∧ w = wT r R) : Dq (x142 I a1 a2) T → Rn E 142 (0, loc0 142 [.ref 68, .int a1, .int a2], [], wT I R) o w := by
  unfold x142
  refine D.run 4 rfl ?_
  have Kj154 : ∀ (q5 : Int32 × Int32), Dq ((x135 I q5.2).bind fun q6 => if q5.1 = 0 then some q6 else some (up2 q6 68 10 a2)) T → Rn E 142 (154, [.ref 68, .int a1, .int a2, .int q5.1, .int q5.2], [], wT I R) o w := by
    intro q5
    refine D.run 2 rfl ?_
    refine D.call rfl rfl rfl rfl (fun q h => x135_ok h) (fun q6 => ?_)
    refine D.run 1 rfl ?_
    refine D.br rfl (by decide) rfl (fun hc => ?_) (fun hc => ?_)
    · exact fun h => by obtain ⟨rfl, rfl⟩ := hT _ (D.some h); exact Rn.ret rfl rfl rfl
    · refine D.run 3 rfl ?_
      exact fun h => by obtain ⟨rfl, rfl⟩ := hT _ (D.some h); exact Rn.ret rfl rfl rfl
  refine D.jn (fun T154 c154 => ?_)
  refine D.br rfl (by decide) rfl (fun hc => ?_) (fun hc => ?_)
  · refine D.run 5 rfl ?_
    exact fun h => Kj154 _   (c154 _ (D.some h))
  · refine D.run 2 rfl ?_
    refine D.br rfl (by decide) rfl (fun hc => ?_) (fun hc => ?_)
    · refine D.run 2 rfl ?_
      refine D.br rfl (by decide) rfl (fun hc => ?_) (fun hc => ?_)
      · refine D.run 2 rfl ?_
        refine D.br rfl (by decide) rfl (fun hc => ?_) (fun hc => ?_)
        · refine D.run 2 rfl ?_
          refine D.ce rfl rfl rfl rfl (x133_ok _) ?_
          refine D.run 2 rfl ?_
          refine D.ce rfl rfl rfl rfl (x133_ok _) ?_
          have Kj131 : ∀ (q1 : Int32), Dq ((if a1 = 35 then some 1 else some 0).bind fun (q2 : Int32) => if q1 = q2 then some (1, 2) else some (0, 2)) T154 → Rn E 142 (131, [.ref 68, .int a1, .int a2, us, .int 1], [.int q1], wT I R) o w := by
            intro q1
            refine D.run 2 rfl ?_
            have Kj142 : ∀ (q2 : Int32), Dq (if q1 = q2 then some (1, 2) else some (0, 2)) T154 → Rn E 142 (142, [.ref 68, .int a1, .int a2, us, .int 1], [.int q2, .int q1], wT I R) o w := by
              intro q2
              refine D.br rfl (by decide) rfl (fun hc => ?_) (fun hc => ?_)
              · refine D.run 5 rfl ?_
                exact fun h => Kj154 _   (c154 _ (D.some h))
              · refine D.run 4 rfl ?_
                exact fun h => Kj154 _   (c154 _ (D.some h))
            refine D.jn (fun T142 c142 => ?_)
            refine D.br rfl (by decide) rfl (fun hc => ?_) (fun hc => ?_)
            · refine D.run 2 rfl ?_
              exact fun h => Kj142 _   (c142 _ (D.some h))
            · refine D.run 1 rfl ?_
              exact fun h => Kj142 _   (c142 _ (D.some h))
          refine D.jn (fun T131 c131 => ?_)
          refine D.br rfl (by decide) rfl (fun hc => ?_) (fun hc => ?_)
          · refine D.run 2 rfl ?_
            exact fun h => Kj131 _   (c131 _ (D.some h))
          · refine D.run 1 rfl ?_
            exact fun h => Kj131 _   (c131 _ (D.some h))
        · refine D.run 2 rfl ?_
          refine D.ce rfl rfl rfl rfl (x133_ok _) ?_
          refine D.run 1 rfl ?_
          have Kj90 : ∀ (q3 : Int32), Dq ((if a1 = 33 then some 1 else some 0).bind fun (q4 : Int32) => if q3 = q4 then some (1, 1) else some (0, 1)) T154 → Rn E 142 (90, [.ref 68, .int a1, .int a2, us, .int 1], [.int q3], wT I R) o w := by
            intro q3
            refine D.run 2 rfl ?_
            have Kj101 : ∀ (q4 : Int32), Dq (if q3 = q4 then some (1, 1) else some (0, 1)) T154 → Rn E 142 (101, [.ref 68, .int a1, .int a2, us, .int 1], [.int q4, .int q3], wT I R) o w := by
              intro q4
              refine D.br rfl (by decide) rfl (fun hc => ?_) (fun hc => ?_)
              · refine D.run 4 rfl ?_
                exact fun h => Kj154 _   (c154 _ (D.some h))
              · refine D.run 3 rfl ?_
                exact fun h => Kj154 _   (c154 _ (D.some h))
            refine D.jn (fun T101 c101 => ?_)
            refine D.br rfl (by decide) rfl (fun hc => ?_) (fun hc => ?_)
            · refine D.run 2 rfl ?_
              exact fun h => Kj101 _   (c101 _ (D.some h))
            · refine D.run 1 rfl ?_
              exact fun h => Kj101 _   (c101 _ (D.some h))
          refine D.jn (fun T90 c90 => ?_)
          refine D.br rfl (by decide) rfl (fun hc => ?_) (fun hc => ?_)
          · refine D.run 2 rfl ?_
            exact fun h => Kj90 _   (c90 _ (D.some h))
          · refine D.run 1 rfl ?_
            exact fun h => Kj90 _   (c90 _ (D.some h))
      · refine D.run 5 rfl ?_
        refine D.ce rfl rfl rfl rfl (x133_ok _) ?_
        refine D.run 2 rfl ?_
        refine D.ce rfl rfl rfl rfl (x133_ok _) ?_
        refine D.ce rfl rfl rfl rfl (x143_ok _ _ _) ?_
        show _ → Rn E 142 (63, [.ref 68, .int a1, .int a2, us, .int 1], [.int (x143 I (a1 - 27) (x133 I 1) (x133 I 0))], wT I R) o w
        refine D.run 4 rfl ?_
        exact fun h => Kj154 _   (c154 _ (D.some h))
    · refine D.run 5 rfl ?_
      refine D.ce rfl rfl rfl rfl (x133_ok _) ?_
      refine D.run 1 rfl ?_
      refine D.ce rfl rfl rfl rfl (x143_ok _ _ _) ?_
      refine D.run 2 rfl ?_
      exact fun h => Kj154 _   (c154 _ (D.some h))
set_option maxRecDepth 20000 in
theorem x142_ok {E : Xe} {R : Nat → Nat → Option Nat} {I : St} {a1 a2 : Int32} {q : St} (h : x142 I a1 a2 = some q) : Rn E 142 (0, loc0 142 [.ref 68, .int a1, .int a2], [], wT I R) (.returned none) (wT q R) := x142_D  _ _ (T := fun r => r = q) (by rintro r rfl; exact ⟨rfl, rfl⟩) ⟨_, h, rfl⟩
/-- TaintHouse$Machine.makeObject(I)V -/
def l145_86 (P : Nat) (b2 : Int32) (b3 : Int32) (b4 : Int32) (b6 : Int32) : Nat → Int32 → St → Option (St)
  | 0, _, _ => none
  | n + 1, b7, I => if b6 ≤ b7 then some I else if (tget I (P + 3) b7 3) = 2 then (x146 I b2 (tget I (P + 3) b7 4) (-1) 0).bind fun q2 => l145_86 P b2 b3 b4 b6 n (b7 + 1) q2 else l145_86 P b2 b3 b4 b6 n (b7 + 1) I
set_option maxRecDepth 20000 in
theorem l145_86_ok {E : Xe} {R : Nat → Nat → Option Nat} {P : Nat} {o : Outcome} {w : Wd} {T : (St) → Prop} {b2 : Int32} {b3 : Int32} {b4 : Int32} {b6 : Int32} (hP : P = 3 ∨ P = 18) (h68_6 : R 68 6 = some P) (K : ∀ (q : St) (e1 : Value) (_ : is1 e1 = true) (e5 : Value) (_ : is1 e5 = true) (e6 : Value) (_ : is1 e6 = true) (e7 : Value) (_ : is1 e7 = true), T q → Rn E 145 (139, [.ref 68, e1, .int b2, .int b3, .int b4, e5, e6, e7], [], wT q R) o w) : ∀ (n : Nat) (b7 : Int32) (d1 : Value) (d5 : Value) (I : St), is1 d1 = true → is1 d5 = true → Dq (l145_86 P b2 b3 b4 b6 n b7 I) T → Rn E 145 (86, [.ref 68, d1, .int b2, .int b3, .int b4, d5, .int b6, .int b7], [], wT I R) o w := by
  rcases hP with rfl | rfl
  all_goals
    intro n
    induction n with
    | zero => intro b7 d1 d5 I hd1 hd5; exact D.none
    | succ n ih =>
      intro b7 d1 d5 I hd1 hd5
      rw [l145_86]
      refine D.run 2 rfl ?_
      refine D.br rfl (by decide) rfl (fun hc => ?_) (fun hc => ?_)
      · exact fun h => D.to h (K _ _ (by first | rfl | assumption) _ (by first | rfl | assumption) _ (by first | rfl | assumption) _ (by first | rfl | assumption))
      · refine D.run 1 rfl ?_
        refine D.st rfl (by decide) (gf_1 h68_6) ?_
        refine D.run 3 rfl ?_
        refine D.ce rfl rfl rfl rfl (tget_ok (by decide) (by first | rfl | decide) _ _) ?_
        refine D.run 1 rfl ?_
        refine D.br rfl (by decide) rfl (fun hc => ?_) (fun hc => ?_)
        · refine D.run 4 rfl ?_
          refine D.st rfl (by decide) (gf_1 h68_6) ?_
          refine D.run 3 rfl ?_
          refine D.ce rfl rfl rfl rfl (tget_ok (by decide) (by first | rfl | decide) _ _) ?_
          refine D.run 2 rfl ?_
          refine D.call rfl rfl rfl rfl (fun q h => x146_ok h) (fun q2 => ?_)
          show _ → Rn E 145 (133, [.ref 68, d1, .int b2, .int b3, .int b4, d5, .int b6, .int b7], [], wT q2 R) o w
          refine D.run 2 rfl ?_
          exact ih _ _ _ _ (by first | rfl | assumption) (by first | rfl | assumption)
        · refine D.run 2 rfl ?_
          exact ih _ _ _ _ (by first | rfl | assumption) (by first | rfl | assumption)
def l145_39 (P : Nat) (b2 : Int32) : Nat → Int32 → Int32 → St → Option (St)
  | 0, _, _, _ => none
  | n + 1, b3, b4, I => if 19 ≤ b4 then some I else if b3 = (-1) then some I else (l145_86 P b2 b3 b4 ((tget I (P + 1) b3 2) + (tget I (P + 1) b3 3)) 100000 (tget I (P + 1) b3 2) I).bind fun q3 => l145_39 P b2 n (tget q3 (P + 1) b3 0) (b4 + 1) q3
set_option maxRecDepth 20000 in
theorem l145_39_ok {E : Xe} {R : Nat → Nat → Option Nat} {P : Nat} {o : Outcome} {w : Wd} {T : (St) → Prop} {b2 : Int32} (hP : P = 3 ∨ P = 18) (h68_6 : R 68 6 = some P) (K : ∀ (q : St) (e1 : Value) (_ : is1 e1 = true) (e3 : Value) (_ : is1 e3 = true) (e4 : Value) (_ : is1 e4 = true) (e5 : Value) (_ : is1 e5 = true) (e6 : Value) (_ : is1 e6 = true) (e7 : Value) (_ : is1 e7 = true), T q → Rn E 145 (158, [.ref 68, e1, .int b2, e3, e4, e5, e6, e7], [], wT q R) o w) : ∀ (n : Nat) (b3 : Int32) (b4 : Int32) (d1 : Value) (d5 : Value) (d6 : Value) (d7 : Value) (I : St), is1 d1 = true → is1 d5 = true → is1 d6 = true → is1 d7 = true → Dq (l145_39 P b2 n b3 b4 I) T → Rn E 145 (39, [.ref 68, d1, .int b2, .int b3, .int b4, d5, d6, d7], [], wT I R) o w := by
  rcases hP with rfl | rfl
  · intro n
    induction n with
    | zero => intro b3 b4 d1 d5 d6 d7 I hd1 hd5 hd6 hd7; exact D.none
    | succ n ih =>
      intro b3 b4 d1 d5 d6 d7 I hd1 hd5 hd6 hd7
      rw [l145_39]
      refine D.run 2 rfl ?_
      refine D.br rfl (by decide) rfl (fun hc => ?_) (fun hc => ?_)
      · exact fun h => D.to h (K _ _ (by first | rfl | assumption) _ (by first | rfl | assumption) _ (by first | rfl | assumption) _ (by first | rfl | assumption) _ (by first | rfl | assumption) _ (by first | rfl | assumption))
      · refine D.run 2 rfl ?_
        refine D.br rfl (by decide) rfl (fun hc => ?_) (fun hc => ?_)
        · exact fun h => D.to h (K _ _ (by first | rfl | assumption) _ (by first | rfl | assumption) _ (by first | rfl | assumption) _ (by first | rfl | assumption) _ (by first | rfl | assumption) _ (by first | rfl | assumption))
        · refine D.run 1 rfl ?_
          refine D.st rfl (by decide) (gf_1 h68_6) ?_
          refine D.run 3 rfl ?_
          refine D.ce rfl rfl rfl rfl (tget_ok (by decide) (by first | rfl | decide) _ _) ?_
          refine D.run 3 rfl ?_
          refine D.st rfl (by decide) (gf_1 h68_6) ?_
          show _ → Rn E 145 (71, [.ref 68, d1, .int b2, .int b3, .int b4, .int (tget I (3 + 1) b3 2), d6, d7], [.ref 3, .int (tget I (3 + 1) b3 2)], wT I R) o w
          refine D.run 3 rfl ?_
          refine D.ce rfl rfl rfl rfl (tget_ok (by decide) (by first | rfl | decide) _ _) ?_
          refine D.run 4 rfl ?_
          refine D.bind (l145_86_ok (by decide) h68_6 (fun q3 e4 he4 e5 he5 e6 he6 e7 he7 => ?_) 100000 _ _ _ _ (by first | rfl | assumption) (by first | rfl | assumption))
          refine D.run 1 rfl ?_
          refine D.st rfl (by decide) (gf_1 h68_6) ?_
          refine D.run 3 rfl ?_
          refine D.ce rfl rfl rfl rfl (tget_ok (by decide) (by first | rfl | decide) _ _) ?_
          refine D.run 3 rfl ?_
          exact ih _ _ _ _ _ _ _ (by first | rfl | assumption) (by first | rfl | assumption) (by first | rfl | assumption) (by first | rfl | assumption)
  · intro n
    induction n with
    | zero => intro b3 b4 d1 d5 d6 d7 I hd1 hd5 hd6 hd7; exact D.none
    | succ n ih =>
      intro b3 b4 d1 d5 d6 d7 I hd1 hd5 hd6 hd7
      rw [l145_39]
      refine D.run 2 rfl ?_
      refine D.br rfl (by decide) rfl (fun hc => ?_) (fun hc => ?_)
      · exact fun h => D.to h (K _ _ (by first | rfl | assumption) _ (by first | rfl | assumption) _ (by first | rfl | assumption) _ (by first | rfl | assumption) _ (by first | rfl | assumption) _ (by first | rfl | assumption))
      · refine D.run 2 rfl ?_
        refine D.br rfl (by decide) rfl (fun hc => ?_) (fun hc => ?_)
        · exact fun h => D.to h (K _ _ (by first | rfl | assumption) _ (by first | rfl | assumption) _ (by first | rfl | assumption) _ (by first | rfl | assumption) _ (by first | rfl | assumption) _ (by first | rfl | assumption))
        · refine D.run 1 rfl ?_
          refine D.st rfl (by decide) (gf_1 h68_6) ?_
          refine D.run 3 rfl ?_
          refine D.ce rfl rfl rfl rfl (tget_ok (by decide) (by first | rfl | decide) _ _) ?_
          refine D.run 3 rfl ?_
          refine D.st rfl (by decide) (gf_1 h68_6) ?_
          show _ → Rn E 145 (71, [.ref 68, d1, .int b2, .int b3, .int b4, .int (tget I (18 + 1) b3 2), d6, d7], [.ref 18, .int (tget I (18 + 1) b3 2)], wT I R) o w
          refine D.run 3 rfl ?_
          refine D.ce rfl rfl rfl rfl (tget_ok (by decide) (by first | rfl | decide) _ _) ?_
          refine D.run 4 rfl ?_
          refine D.bind (l145_86_ok (by decide) h68_6 (fun q3 e4 he4 e5 he5 e6 he6 e7 he7 => ?_) 100000 _ _ _ _ (by first | rfl | assumption) (by first | rfl | assumption))
          refine D.run 1 rfl ?_
          refine D.st rfl (by decide) (gf_1 h68_6) ?_
          refine D.run 3 rfl ?_
          refine D.ce rfl rfl rfl rfl (tget_ok (by decide) (by first | rfl | decide) _ _) ?_
          refine D.run 3 rfl ?_
          exact ih _ _ _ _ _ _ _ (by first | rfl | assumption) (by first | rfl | assumption) (by first | rfl | assumption) (by first | rfl | assumption)
def x145 (P : Nat) (I : St) (a1 : Int32) : Option (St) := (x139 I a1 (tget I (P + 1) a1 4) 0).bind fun q1 => if q1.1 = (-1) then some (up2 q1.2 68 14 6) else (l145_39 P q1.1 100000 a1 0 q1.2).bind fun q8 => (x131 q8 q1.1 0).bind fun q15 => some q15
set_option maxRecDepth 20000 in
theorem x145_D {E : Xe} {R : Nat → Nat → Option Nat} {P : Nat} {o : Outcome} {w : Wd} {T : (St) → Prop} {I : St} (hP : P = 3 ∨ P = 18) (h68_6 : R 68 6 = some P) (a1 : Int32) (hT : ∀ r, T r → o = .returned none ∧ w = wT r R) : Dq (x145 P I a1) T → Rn E 145 (0, loc0 145 [.ref 68, .int a1], [], wT I R) o w := by
  unfold x145
  rcases hP with rfl | rfl
  all_goals
    refine D.run 4 rfl ?_
    refine D.st rfl (by decide) (gf_1 h68_6) ?_
    refine D.run 3 rfl ?_
    refine D.ce rfl rfl rfl rfl (tget_ok (by decide) (by first | rfl | decide) _ _) ?_
    refine D.run 1 rfl ?_
    refine D.call rfl rfl rfl rfl (fun q h => x139_ok h) (fun q1 => ?_)
    show _ → Rn E 145 (21, [.ref 68, .int a1, us, us, us, us, us, us], [.int q1.1], wT q1.2 R) o w
    refine D.run 3 rfl ?_
    refine D.br rfl (by decide) rfl (fun hc => ?_) (fun hc => ?_)
    · refine D.run 3 rfl ?_
      exact fun h => by obtain ⟨rfl, rfl⟩ := hT _ (D.some h); exact Rn.ret rfl rfl rfl
    · refine D.run 4 rfl ?_
      refine D.bind (l145_39_ok (by decide) h68_6 (fun q8 e9 he9 e10 he10 e11 he11 e12 he12 e13 he13 e14 he14 => ?_) 100000 _ _ _ _ _ _ _ (by first | rfl | assumption) (by first | rfl | assumption) (by first | rfl | assumption) (by first | rfl | assumption))
      refine D.run 3 rfl ?_
      refine D.call rfl rfl rfl rfl (fun q h => x131_ok h) (fun q15 => ?_)
      exact fun h => by obtain ⟨rfl, rfl⟩ := hT _ (D.some h); exact Rn.ret rfl rfl rfl
set_option maxRecDepth 20000 in
theorem x145_ok {E : Xe} {R : Nat → Nat → Option Nat} {P : Nat} {I : St} (hP : P = 3 ∨ P = 18) (h68_6 : R 68 6 = some P) {a1 : Int32} {q : St} (h : x145 P I a1 = some q) : Rn E 145 (0, loc0 145 [.ref 68, .int a1], [], wT I R) (.returned none) (wT q R) := x145_D hP h68_6 _ (T := fun r => r = q) (by rintro r rfl; exact ⟨rfl, rfl⟩) ⟨_, h, rfl⟩
/-- TaintHouse$Machine.objectFault(II)I -/
def x148 (P : Nat) (I : St) (a1 a2 : Int32) : Option (Int32) := if a1 = (-1) then some 2 else (x150 P I (x149 I a1) a2).bind fun q1 => if q1 = 0 then some 6 else some 0
set_option maxRecDepth 20000 in
theorem x148_D {E : Xe} {R : Nat → Nat → Option Nat} {P : Nat} {o : Outcome} {w : Wd} {T : (Int32) → Prop} {I : St} (hP : P = 3 ∨ P = 18) (h68_6 : R 68 6 = some P) (a1 a2 : Int32) (hT : ∀ r, T r → o = .returned (some (.int r)) ∧ w = wT I R) : Dq (x148 P I a1 a2) T → Rn E 148 (0, loc0 148 [.ref 68, .int a1, .int a2], [], wT I R) o w := by
  unfold x148
  rcases hP with rfl | rfl
  all_goals
    refine D.run 2 rfl ?_
    refine D.br rfl (by decide) rfl (fun hc => ?_) (fun hc => ?_)
    · refine D.run 1 rfl ?_
      exact fun h => by obtain ⟨rfl, rfl⟩ := hT _ (D.some h); exact Rn.ret rfl rfl rfl
    · refine D.run 1 rfl ?_
      refine D.st rfl (by decide) (gf_1 h68_6) ?_
      refine D.run 3 rfl ?_
      refine D.ce rfl rfl rfl rfl (x149_ok _) ?_
      refine D.run 1 rfl ?_
      refine D.call rfl rfl rfl rfl (fun q h => x150_ok (by decide) h) (fun q1 => ?_)
      show _ → Rn E 148 (23, [.ref 68, .int a1, .int a2], [.int q1], wT I R) o w
      refine D.br rfl (by decide) rfl (fun hc => ?_) (fun hc => ?_)
      · refine D.run 1 rfl ?_
        exact fun h => by obtain ⟨rfl, rfl⟩ := hT _ (D.some h); exact Rn.ret rfl rfl rfl
      · refine D.run 2 rfl ?_
        exact fun h => by obtain ⟨rfl, rfl⟩ := hT _ (D.some h); exact Rn.ret rfl rfl rfl
set_option maxRecDepth 20000 in
theorem x148_ok {E : Xe} {R : Nat → Nat → Option Nat} {P : Nat} {I : St} (hP : P = 3 ∨ P = 18) (h68_6 : R 68 6 = some P) {a1 a2 : Int32} {q : Int32} (h : x148 P I a1 a2 = some q) : Rn E 148 (0, loc0 148 [.ref 68, .int a1, .int a2], [], wT I R) (.returned (some (.int q))) (wT I R) := x148_D hP h68_6 _ _ (T := fun r => r = q) (by rintro r rfl; exact ⟨rfl, rfl⟩) ⟨_, h, rfl⟩
/-- TaintHouse$Machine.putField(II)V -/
def x154 (P : Nat) (I : St) (a1 a2 : Int32) : Option (St) := (x148 P I (x133 I 1) a1).bind fun q1 => if q1 = 0 then (x146 I (x133 I 1) a2 (x133 I 0) ((x134 I 0) ||| (x153 I 4 (x134 I 1)))).bind fun q2 => (x135 q2 2).bind fun q3 => some q3 else (x138 I q1 ((x134 I 1) ||| (x134 I 0))).bind fun q4 => some q4
set_option maxRecDepth 20000 in
theorem x154_D {E : Xe} {R : Nat → Nat → Option Nat} {P : Nat} {o : Outcome} {w : Wd} {T : (St) → Prop} {I : St} (hP : P = 3 ∨ P = 18) (h68_6 : R 68 6 = some P) (a1 a2 : Int32) (hT : ∀ r, T r → o = .returned none ∧ w = wT r R) : Dq (x154 P I a1 a2) T → Rn E 154 (0, loc0 154 [.ref 68, .int a1, .int a2], [], wT I R) o w := by
  unfold x154
  rcases hP with rfl | rfl
  all_goals
    refine D.run 2 rfl ?_
    refine D.ce rfl rfl rfl rfl (x133_ok _) ?_
    refine D.run 3 rfl ?_
    refine D.ce rfl rfl rfl rfl (x134_ok _) ?_
    refine D.run 4 rfl ?_
    refine D.call rfl rfl rfl rfl (fun q h => x148_ok (by decide) h68_6 h) (fun q1 => ?_)
    show _ → Rn E 154 (19, [.ref 68, .int a1, .int a2, .int (x133 I 1), .int (x134 I 1), us], [.int q1], wT I R) o w
    refine D.run 2 rfl ?_
    refine D.br rfl (by decide) rfl (fun hc => ?_) (fun hc => ?_)
    · refine D.run 6 rfl ?_
      refine D.ce rfl rfl rfl rfl (x133_ok _) ?_
      refine D.run 2 rfl ?_
      refine D.ce rfl rfl rfl rfl (x134_ok _) ?_
      refine D.run 3 rfl ?_
      refine D.ce rfl rfl rfl rfl (x153_ok _ _) ?_
      show _ → Rn E 154 (64, [.ref 68, .int a1, .int a2, .int (x133 I 1), .int (x134 I 1), .int q1], [.int (x153 I 4 (x134 I 1)), .int (x134 I 0), .int (x133 I 0), .int a2, .int (x133 I 1), .ref 69], wT I R) o w
      refine D.run 1 rfl ?_
      refine D.call rfl rfl rfl rfl (fun q h => x146_ok h) (fun q2 => ?_)
      refine D.run 2 rfl ?_
      refine D.call rfl rfl rfl rfl (fun q h => x135_ok h) (fun q3 => ?_)
      exact fun h => by obtain ⟨rfl, rfl⟩ := hT _ (D.some h); exact Rn.ret rfl rfl rfl
    · refine D.run 5 rfl ?_
      refine D.ce rfl rfl rfl rfl (x134_ok _) ?_
      refine D.run 1 rfl ?_
      refine D.call rfl rfl rfl rfl (fun q h => x138_ok h) (fun q4 => ?_)
      exact fun h => by obtain ⟨rfl, rfl⟩ := hT _ (D.some h); exact Rn.ret rfl rfl rfl
set_option maxRecDepth 20000 in
theorem x154_ok {E : Xe} {R : Nat → Nat → Option Nat} {P : Nat} {I : St} (hP : P = 3 ∨ P = 18) (h68_6 : R 68 6 = some P) {a1 a2 : Int32} {q : St} (h : x154 P I a1 a2 = some q) : Rn E 154 (0, loc0 154 [.ref 68, .int a1, .int a2], [], wT I R) (.returned none) (wT q R) := x154_D hP h68_6 _ _ (T := fun r => r = q) (by rintro r rfl; exact ⟨rfl, rfl⟩) ⟨_, h, rfl⟩
/-- TaintHouse$Machine.makeArray(I)V -/
def x156 (I : St) (a1 : Int32) : Option (St) := if 0 ≤ (x133 I 0) then (x139 I a1 (x133 I 0) (x134 I 0)).bind fun q1 => if q1.1 = (-1) then some (up2 q1.2 68 14 6) else (x136 q1.2 1 q1.1 0).bind fun q2 => some q2 else (x138 I 4 (x134 I 0)).bind fun q3 => some q3
set_option maxRecDepth 20000 in
theorem x156_D {E : Xe} {R : Nat → Nat → Option Nat} {o : Outcome} {w : Wd} {T : (St) → Prop} {I : St} (a1 : Int32) (hT : ∀ r, T r → o = .returned none ∧ w = wT r R) : Dq (x156 I a1) T → Rn E 156 (0, loc0 156 [.ref 68, .int a1], [], wT I R) o w := by
  unfold x156
  refine D.run 2 rfl ?_
  refine D.ce rfl rfl rfl rfl (x133_ok _) ?_
  refine D.run 3 rfl ?_
  refine D.ce rfl rfl rfl rfl (x134_ok _) ?_
  refine D.run 2 rfl ?_
  refine D.br rfl (by decide) rfl (fun hc => ?_) (fun hc => ?_)
  · refine D.run 5 rfl ?_
    refine D.call rfl rfl rfl rfl (fun q h => x139_ok h) (fun q1 => ?_)
    refine D.run 3 rfl ?_
    refine D.br rfl (by decide) rfl (fun hc => ?_) (fun hc => ?_)
    · refine D.run 3 rfl ?_
      exact fun h => by obtain ⟨rfl, rfl⟩ := hT _ (D.some h); exact Rn.ret rfl rfl rfl
    · refine D.run 4 rfl ?_
      refine D.call rfl rfl rfl rfl (fun q h => x136_ok h) (fun q2 => ?_)
      exact fun h => by obtain ⟨rfl, rfl⟩ := hT _ (D.some h); exact Rn.ret rfl rfl rfl
  · refine D.run 3 rfl ?_
    refine D.call rfl rfl rfl rfl (fun q h => x138_ok h) (fun q3 => ?_)
    exact fun h => by obtain ⟨rfl, rfl⟩ := hT _ (D.some h); exact Rn.ret rfl rfl rfl
set_option maxRecDepth 20000 in
theorem x156_ok {E : Xe} {R : Nat → Nat → Option Nat} {I : St} {a1 : Int32} {q : St} (h : x156 I a1 = some q) : Rn E 156 (0, loc0 156 [.ref 68, .int a1], [], wT I R) (.returned none) (wT q R) := x156_D  _ (T := fun r => r = q) (by rintro r rfl; exact ⟨rfl, rfl⟩) ⟨_, h, rfl⟩
/-- TaintHouse$Machine.elementFault(III)I -/
def x158 (I : St) (a1 a2 a3 : Int32) : Int32 := if a1 = (-1) then 2 else if (x149 I a1) = a2 then if a3 < 0 then 3 else if a3 < (x159 I a1) then 0 else 3 else 6
set_option maxRecDepth 20000 in
theorem x158_ok {E : Xe} {R : Nat → Nat → Option Nat} {I : St} (a1 a2 a3 : Int32) : Rn E 158 (0, loc0 158 [.ref 68, .int a1, .int a2, .int a3], [], wT I R) (.returned (some (.int (x158 I a1 a2 a3)))) (wT I R) := by
  have H : ∀ (o : Outcome) (w : Wd) (T : Int32 → Prop), (∀ r, T r → o = .returned (some (.int r)) ∧ w = wT I R) → Dq (some (x158 I a1 a2 a3)) T → Rn E 158 (0, loc0 158 [.ref 68, .int a1, .int a2, .int a3], [], wT I R) o w := by
    intro o w T hT
    unfold x158
    refine D.run 2 rfl ?_
    refine D.brp rfl (by decide) rfl (fun hc => ?_) (fun hc => ?_)
    · refine D.run 1 rfl ?_
      exact fun h => by obtain ⟨rfl, rfl⟩ := hT _ (D.some h); exact Rn.ret rfl rfl rfl
    · refine D.run 3 rfl ?_
      refine D.ce rfl rfl rfl rfl (x149_ok _) ?_
      refine D.run 1 rfl ?_
      refine D.brp rfl (by decide) rfl (fun hc => ?_) (fun hc => ?_)
      · refine D.run 1 rfl ?_
        refine D.brp rfl (by decide) rfl (fun hc => ?_) (fun hc => ?_)
        · refine D.run 2 rfl ?_
          exact fun h => by obtain ⟨rfl, rfl⟩ := hT _ (D.some h); exact Rn.ret rfl rfl rfl
        · refine D.run 4 rfl ?_
          refine D.ce rfl rfl rfl rfl (x159_ok _) ?_
          refine D.brp rfl (by decide) rfl (fun hc => ?_) (fun hc => ?_)
          · refine D.run 1 rfl ?_
            exact fun h => by obtain ⟨rfl, rfl⟩ := hT _ (D.some h); exact Rn.ret rfl rfl rfl
          · refine D.run 2 rfl ?_
            exact fun h => by obtain ⟨rfl, rfl⟩ := hT _ (D.some h); exact Rn.ret rfl rfl rfl
      · refine D.run 1 rfl ?_
        exact fun h => by obtain ⟨rfl, rfl⟩ := hT _ (D.some h); exact Rn.ret rfl rfl rfl
  exact H _ _ (fun r => r = x158 I a1 a2 a3) (by rintro r rfl; exact ⟨rfl, rfl⟩) ⟨_, rfl, rfl⟩
/-- TaintHouse$Machine.putElement(I)V -/
def x160 (I : St) (a1 : Int32) : Option (St) := if (x158 I (x133 I 2) a1 (x133 I 1)) = 0 then (x146 I (x133 I 2) (x133 I 1) (x133 I 0) ((x134 I 0) ||| ((x153 I 4 (x134 I 2)) ||| (x153 I 1 (x134 I 1))))).bind fun q1 => (x135 q1 3).bind fun q2 => some q2 else (x138 I (x158 I (x133 I 2) a1 (x133 I 1)) (((x134 I 2) ||| (x134 I 1)) ||| (x134 I 0))).bind fun q3 => some q3
set_option maxRecDepth 20000 in
theorem x160_D {E : Xe} {R : Nat → Nat → Option Nat} {o : Outcome} {w : Wd} {T : (St) → Prop} {I : St} (a1 : Int32) (hT : ∀ r, T r → o = .returned none ∧ w = wT r R) : Dq (x160 I a1) T → Rn E 160 (0, loc0 160 [.ref 68, .int a1], [], wT I R) o w := by
  unfold x160
  refine D.run 2 rfl ?_
  refine D.ce rfl rfl rfl rfl (x133_ok _) ?_
  refine D.run 3 rfl ?_
  refine D.ce rfl rfl rfl rfl (x133_ok _) ?_
  refine D.run 5 rfl ?_
  refine D.ce rfl rfl rfl rfl (x158_ok _ _ _) ?_
  show _ → Rn E 160 (19, [.ref 68, .int a1, .int (x133 I 2), .int (x133 I 1), us, us], [.int (x158 I (x133 I 2) a1 (x133 I 1))], wT I R) o w
  refine D.run 2 rfl ?_
  refine D.br rfl (by decide) rfl (fun hc => ?_) (fun hc => ?_)
  · refine D.run 4 rfl ?_
    refine D.ce rfl rfl rfl rfl (x134_ok _) ?_
    refine D.ce rfl rfl rfl rfl (x153_ok _ _) ?_
    refine D.run 4 rfl ?_
    refine D.ce rfl rfl rfl rfl (x134_ok _) ?_
    show _ → Rn E 160 (67, [.ref 68, .int a1, .int (x133 I 2), .int (x133 I 1), .int (x158 I (x133 I 2) a1 (x133 I 1)), us], [.int (x134 I 1), .int 1, .ref 68, .int (x153 I 4 (x134 I 2))], wT I R) o w
    refine D.ce rfl rfl rfl rfl (x153_ok _ _) ?_
    refine D.run 8 rfl ?_
    refine D.ce rfl rfl rfl rfl (x133_ok _) ?_
    refine D.run 2 rfl ?_
    refine D.ce rfl rfl rfl rfl (x134_ok _) ?_
    show _ → Rn E 160 (89, [.ref 68, .int a1, .int (x133 I 2), .int (x133 I 1), .int (x158 I (x133 I 2) a1 (x133 I 1)), .int ((x153 I 4 (x134 I 2)) ||| (x153 I 1 (x134 I 1)))], [.int (x134 I 0), .int (x133 I 0), .int (x133 I 1), .int (x133 I 2), .ref 69], wT I R) o w
    refine D.run 2 rfl ?_
    refine D.call rfl rfl rfl rfl (fun q h => x146_ok h) (fun q1 => ?_)
    refine D.run 2 rfl ?_
    refine D.call rfl rfl rfl rfl (fun q h => x135_ok h) (fun q2 => ?_)
    exact fun h => by obtain ⟨rfl, rfl⟩ := hT _ (D.some h); exact Rn.ret rfl rfl rfl
  · refine D.run 4 rfl ?_
    refine D.ce rfl rfl rfl rfl (x134_ok _) ?_
    refine D.run 2 rfl ?_
    refine D.ce rfl rfl rfl rfl (x134_ok _) ?_
    refine D.run 3 rfl ?_
    refine D.ce rfl rfl rfl rfl (x134_ok _) ?_
    show _ → Rn E 160 (45, [.ref 68, .int a1, .int (x133 I 2), .int (x133 I 1), .int (x158 I (x133 I 2) a1 (x133 I 1)), us], [.int (x134 I 0), .int ((x134 I 2) ||| (x134 I 1)), .int (x158 I (x133 I 2) a1 (x133 I 1)), .ref 68], wT I R) o w
    refine D.run 1 rfl ?_
    refine D.call rfl rfl rfl rfl (fun q h => x138_ok h) (fun q3 => ?_)
    exact fun h => by obtain ⟨rfl, rfl⟩ := hT _ (D.some h); exact Rn.ret rfl rfl rfl
set_option maxRecDepth 20000 in
theorem x160_ok {E : Xe} {R : Nat → Nat → Option Nat} {I : St} {a1 : Int32} {q : St} (h : x160 I a1 = some q) : Rn E 160 (0, loc0 160 [.ref 68, .int a1], [], wT I R) (.returned none) (wT q R) := x160_D  _ (T := fun r => r = q) (by rintro r rfl; exact ⟨rfl, rfl⟩) ⟨_, h, rfl⟩
/-- TaintHouse$Machine.getLength()V -/
def x161 (I : St) : Option (St) := if (x133 I 0) = (-1) then (x138 I 2 (x134 I 0)).bind fun q1 => some q1 else if (x149 I (x133 I 0)) < 0 then (x136 I 1 (x159 I (x133 I 0)) ((x162 I (x133 I 0)) ||| (x153 I 2 (x134 I 0)))).bind fun q2 => some q2 else (x138 I 6 (x134 I 0)).bind fun q3 => some q3
set_option maxRecDepth 20000 in
theorem x161_D {E : Xe} {R : Nat → Nat → Option Nat} {o : Outcome} {w : Wd} {T : (St) → Prop} {I : St} (hT : ∀ r, T r → o = .returned none ∧ w = wT r R) : Dq (x161 I) T → Rn E 161 (0, loc0 161 [.ref 68], [], wT I R) o w := by
  unfold x161
  refine D.run 2 rfl ?_
  refine D.ce rfl rfl rfl rfl (x133_ok _) ?_
  refine D.run 3 rfl ?_
  refine D.ce rfl rfl rfl rfl (x134_ok _) ?_
  refine D.run 3 rfl ?_
  refine D.br rfl (by decide) rfl (fun hc => ?_) (fun hc => ?_)
  · refine D.run 3 rfl ?_
    refine D.call rfl rfl rfl rfl (fun q h => x138_ok h) (fun q1 => ?_)
    refine D.run 1 rfl ?_
    exact fun h => by obtain ⟨rfl, rfl⟩ := hT _ (D.some h); exact Rn.ret rfl rfl rfl
  · refine D.run 3 rfl ?_
    refine D.ce rfl rfl rfl rfl (x149_ok _) ?_
    refine D.br rfl (by decide) rfl (fun hc => ?_) (fun hc => ?_)
    · refine D.run 5 rfl ?_
      refine D.ce rfl rfl rfl rfl (x159_ok _) ?_
      refine D.run 3 rfl ?_
      refine D.ce rfl rfl rfl rfl (x162_ok _) ?_
      refine D.run 3 rfl ?_
      refine D.ce rfl rfl rfl rfl (x153_ok _ _) ?_
      show _ → Rn E 161 (71, [.ref 68, .int (x133 I 0), .int (x134 I 0)], [.int (x153 I 2 (x134 I 0)), .int (x162 I (x133 I 0)), .int (x159 I (x133 I 0)), .int 1, .ref 68], wT I R) o w
      refine D.run 1 rfl ?_
      refine D.call rfl rfl rfl rfl (fun q h => x136_ok h) (fun q2 => ?_)
      exact fun h => by obtain ⟨rfl, rfl⟩ := hT _ (D.some h); exact Rn.ret rfl rfl rfl
    · refine D.run 3 rfl ?_
      refine D.call rfl rfl rfl rfl (fun q h => x138_ok h) (fun q3 => ?_)
      refine D.run 1 rfl ?_
      exact fun h => by obtain ⟨rfl, rfl⟩ := hT _ (D.some h); exact Rn.ret rfl rfl rfl
set_option maxRecDepth 20000 in
theorem x161_ok {E : Xe} {R : Nat → Nat → Option Nat} {I : St} {q : St} (h : x161 I = some q) : Rn E 161 (0, loc0 161 [.ref 68], [], wT I R) (.returned none) (wT q R) := x161_D  (T := fun r => r = q) (by rintro r rfl; exact ⟨rfl, rfl⟩) ⟨_, h, rfl⟩
/-- TaintHouse$Machine.callVirtual(II)V -/
def l165_44 (P : Nat) (b3 : Int32) (b5 : Int32) : Nat → Int32 → Int32 → St → Option (Int32)
  | 0, _, _, _ => none
  | n + 1, b6, b7, I => if b3 ≤ b7 then some b6 else l165_44 P b3 b5 n (b6 ||| (x134 I b7)) (b7 + 1) I
set_option maxRecDepth 20000 in
theorem l165_44_ok {E : Xe} {R : Nat → Nat → Option Nat} {P : Nat} {I0 : St} {o : Outcome} {w : Wd} {T : (Int32) → Prop} {b3 : Int32} {b5 : Int32} (hP : P = 3 ∨ P = 18) (h68_6 : R 68 6 = some P) (K : ∀ (q : Int32) (e1 : Value) (_ : is1 e1 = true) (e2 : Value) (_ : is1 e2 = true) (e3 : Value) (_ : is1 e3 = true) (e4 : Value) (_ : is1 e4 = true) (e7 : Value) (_ : is1 e7 = true), T q → Rn E 165 (67, [.ref 68, e1, e2, e3, e4, .int b5, .int q, e7], [], wT I0 R) o w) : ∀ (n : Nat) (b6 : Int32) (b7 : Int32) (d1 : Value) (d2 : Value) (d4 : Value), is1 d1 = true → is1 d2 = true → is1 d4 = true → Dq (l165_44 P b3 b5 n b6 b7 I0) T → Rn E 165 (44, [.ref 68, d1, d2, .int b3, d4, .int b5, .int b6, .int b7], [], wT I0 R) o w := by
  rcases hP with rfl | rfl
  all_goals
    intro n
    induction n with
    | zero => intro b6 b7 d1 d2 d4 hd1 hd2 hd4; exact D.none
    | succ n ih =>
      intro b6 b7 d1 d2 d4 hd1 hd2 hd4
      rw [l165_44]
      refine D.run 2 rfl ?_
      refine D.br rfl (by decide) rfl (fun hc => ?_) (fun hc => ?_)
      · exact fun h => D.to h (K _ _ (by first | rfl | assumption) _ (by first | rfl | assumption) _ (by first | rfl | assumption) _ (by first | rfl | assumption) _ (by first | rfl | assumption))
      · refine D.run 3 rfl ?_
        refine D.ce rfl rfl rfl rfl (x134_ok _) ?_
        refine D.run 4 rfl ?_
        exact ih _ _ _ _ _  (by first | rfl | assumption) (by first | rfl | assumption) (by first | rfl | assumption)
def x165 (P : Nat) (I : St) (a1 a2 : Int32) : Option (St) := (x148 P I (x133 I (((tget I (P + 7) a2 4) + 1) - 1)) a1).bind fun q1 => if q1 = 0 then (x164 I (tget I (P + 13) (x149 I (x133 I (((tget I (P + 7) a2 4) + 1) - 1))) a2) ((tget I (P + 7) a2 4) + 1)).bind fun q2 => some q2 else (l165_44 P ((tget I (P + 7) a2 4) + 1) q1 100000 0 0 I).bind fun q3 => (x138 I q1 q3).bind fun q9 => some q9
set_option maxRecDepth 20000 in
theorem x165_D {E : Xe} {R : Nat → Nat → Option Nat} {P : Nat} {o : Outcome} {w : Wd} {T : (St) → Prop} {I : St} (hP : P = 3 ∨ P = 18) (h68_6 : R 68 6 = some P) (a1 a2 : Int32) (hT : ∀ r, T r → o = .returned none ∧ w = wT r R) : Dq (x165 P I a1 a2) T → Rn E 165 (0, loc0 165 [.ref 68, .int a1, .int a2], [], wT I R) o w := by
  unfold x165
  rcases hP with rfl | rfl
  · refine D.run 1 rfl ?_
    refine D.st rfl (by decide) (gf_1 h68_6) ?_
    refine D.run 3 rfl ?_
    refine D.ce rfl rfl rfl rfl (tget_ok (by decide) (by first | rfl | decide) _ _) ?_
    refine D.run 7 rfl ?_
    refine D.ce rfl rfl rfl rfl (x133_ok _) ?_
    show _ → Rn E 165 (22, [.ref 68, .int a1, .int a2, .int ((tget I (3 + 7) a2 4) + 1), us, us, us, us], [.int (x133 I (((tget I (3 + 7) a2 4) + 1) - 1))], wT I R) o w
    refine D.run 4 rfl ?_
    refine D.call rfl rfl rfl rfl (fun q h => x148_ok (by decide) h68_6 h) (fun q1 => ?_)
    refine D.run 2 rfl ?_
    refine D.br rfl (by decide) rfl (fun hc => ?_) (fun hc => ?_)
    · refine D.run 2 rfl ?_
      refine D.st rfl (by decide) (gf_1 h68_6) ?_
      refine D.run 4 rfl ?_
      refine D.ce rfl rfl rfl rfl (x149_ok _) ?_
      refine D.run 1 rfl ?_
      refine D.ce rfl rfl rfl rfl (tget_ok (by decide) (by first | rfl | decide) _ _) ?_
      show _ → Rn E 165 (97, [.ref 68, .int a1, .int a2, .int ((tget I (3 + 7) a2 4) + 1), .int (x133 I (((tget I (3 + 7) a2 4) + 1) - 1)), .int q1, us, us], [.int (tget I (3 + 13) (x149 I (x133 I (((tget I (3 + 7) a2 4) + 1) - 1))) a2), .ref 68], wT I R) o w
      refine D.run 1 rfl ?_
      refine D.call rfl rfl rfl rfl (fun q h => x164_ok h) (fun q2 => ?_)
      exact fun h => by obtain ⟨rfl, rfl⟩ := hT _ (D.some h); exact Rn.ret rfl rfl rfl
    · refine D.run 4 rfl ?_
      refine D.bind (l165_44_ok (by decide) h68_6 (fun q3 e4 he4 e5 he5 e6 he6 e7 he7 e8 he8 => ?_) 100000 _ _ _ _ _  (by first | rfl | assumption) (by first | rfl | assumption) (by first | rfl | assumption))
      refine D.run 3 rfl ?_
      refine D.call rfl rfl rfl rfl (fun q h => x138_ok h) (fun q9 => ?_)
      exact fun h => by obtain ⟨rfl, rfl⟩ := hT _ (D.some h); exact Rn.ret rfl rfl rfl
  · refine D.run 1 rfl ?_
    refine D.st rfl (by decide) (gf_1 h68_6) ?_
    refine D.run 3 rfl ?_
    refine D.ce rfl rfl rfl rfl (tget_ok (by decide) (by first | rfl | decide) _ _) ?_
    refine D.run 7 rfl ?_
    refine D.ce rfl rfl rfl rfl (x133_ok _) ?_
    show _ → Rn E 165 (22, [.ref 68, .int a1, .int a2, .int ((tget I (18 + 7) a2 4) + 1), us, us, us, us], [.int (x133 I (((tget I (18 + 7) a2 4) + 1) - 1))], wT I R) o w
    refine D.run 4 rfl ?_
    refine D.call rfl rfl rfl rfl (fun q h => x148_ok (by decide) h68_6 h) (fun q1 => ?_)
    refine D.run 2 rfl ?_
    refine D.br rfl (by decide) rfl (fun hc => ?_) (fun hc => ?_)
    · refine D.run 2 rfl ?_
      refine D.st rfl (by decide) (gf_1 h68_6) ?_
      refine D.run 4 rfl ?_
      refine D.ce rfl rfl rfl rfl (x149_ok _) ?_
      refine D.run 1 rfl ?_
      refine D.ce rfl rfl rfl rfl (tget_ok (by decide) (by first | rfl | decide) _ _) ?_
      show _ → Rn E 165 (97, [.ref 68, .int a1, .int a2, .int ((tget I (18 + 7) a2 4) + 1), .int (x133 I (((tget I (18 + 7) a2 4) + 1) - 1)), .int q1, us, us], [.int (tget I (18 + 13) (x149 I (x133 I (((tget I (18 + 7) a2 4) + 1) - 1))) a2), .ref 68], wT I R) o w
      refine D.run 1 rfl ?_
      refine D.call rfl rfl rfl rfl (fun q h => x164_ok h) (fun q2 => ?_)
      exact fun h => by obtain ⟨rfl, rfl⟩ := hT _ (D.some h); exact Rn.ret rfl rfl rfl
    · refine D.run 4 rfl ?_
      refine D.bind (l165_44_ok (by decide) h68_6 (fun q3 e4 he4 e5 he5 e6 he6 e7 he7 e8 he8 => ?_) 100000 _ _ _ _ _  (by first | rfl | assumption) (by first | rfl | assumption) (by first | rfl | assumption))
      refine D.run 3 rfl ?_
      refine D.call rfl rfl rfl rfl (fun q h => x138_ok h) (fun q9 => ?_)
      exact fun h => by obtain ⟨rfl, rfl⟩ := hT _ (D.some h); exact Rn.ret rfl rfl rfl
set_option maxRecDepth 20000 in
theorem x165_ok {E : Xe} {R : Nat → Nat → Option Nat} {P : Nat} {I : St} (hP : P = 3 ∨ P = 18) (h68_6 : R 68 6 = some P) {a1 a2 : Int32} {q : St} (h : x165 P I a1 a2 = some q) : Rn E 165 (0, loc0 165 [.ref 68, .int a1, .int a2], [], wT I R) (.returned none) (wT q R) := x165_D hP h68_6 _ _ (T := fun r => r = q) (by rintro r rfl; exact ⟨rfl, rfl⟩) ⟨_, h, rfl⟩
/-- TaintHouse$Machine.leave()V -/
def x166 (P : Nat) (I : St) : Option (St) := if (I 68 7) = 0 then some (up2 (up2 (up2 I 68 14 (tget I (P + 7) (I 68 8) 3)) 68 15 (x133 I 0)) 68 16 (x134 I 0)) else (x167 I).bind fun q1 => if (tget I (P + 7) (I 68 8) 3) = 0 then some (up2 q1 68 10 ((q1 68 9) + 1)) else (x131 (up2 q1 68 10 ((q1 68 9) + 1)) (x133 I 0) (x134 I 0)).bind fun q2 => some q2
set_option maxRecDepth 20000 in
theorem x166_D {E : Xe} {R : Nat → Nat → Option Nat} {P : Nat} {o : Outcome} {w : Wd} {T : (St) → Prop} {I : St} (hP : P = 3 ∨ P = 18) (h68_6 : R 68 6 = some P) (hT : ∀ r, T r → o = .returned none ∧ w = wT r R) : Dq (x166 P I) T → Rn E 166 (0, loc0 166 [.ref 68], [], wT I R) o w := by
  unfold x166
  rcases hP with rfl | rfl
  · refine D.run 1 rfl ?_
    refine D.st rfl (by decide) (gf_1 h68_6) ?_
    refine D.run 4 rfl ?_
    refine D.ce rfl rfl rfl rfl (tget_ok (by decide) (by first | rfl | decide) _ _) ?_
    refine D.run 3 rfl ?_
    refine D.ce rfl rfl rfl rfl (x133_ok _) ?_
    show _ → Rn E 166 (21, [.ref 68, .int (tget I (3 + 7) (I 68 8) 3), us, us], [.int (x133 I 0)], wT I R) o w
    refine D.run 3 rfl ?_
    refine D.ce rfl rfl rfl rfl (x134_ok _) ?_
    refine D.run 3 rfl ?_
    refine D.br rfl (by decide) rfl (fun hc => ?_) (fun hc => ?_)
    · refine D.run 9 rfl ?_
      exact fun h => by obtain ⟨rfl, rfl⟩ := hT _ (D.some h); exact Rn.ret rfl rfl rfl
    · refine D.run 1 rfl ?_
      refine D.call rfl rfl rfl rfl (fun q h => x167_ok h) (fun q1 => ?_)
      refine D.run 7 rfl ?_
      refine D.br rfl (by decide) rfl (fun hc => ?_) (fun hc => ?_)
      · exact fun h => by obtain ⟨rfl, rfl⟩ := hT _ (D.some h); exact Rn.ret rfl rfl rfl
      · refine D.run 3 rfl ?_
        refine D.call rfl rfl rfl rfl (fun q h => x131_ok h) (fun q2 => ?_)
        exact fun h => by obtain ⟨rfl, rfl⟩ := hT _ (D.some h); exact Rn.ret rfl rfl rfl
  · refine D.run 1 rfl ?_
    refine D.st rfl (by decide) (gf_1 h68_6) ?_
    refine D.run 4 rfl ?_
    refine D.ce rfl rfl rfl rfl (tget_ok (by decide) (by first | rfl | decide) _ _) ?_
    refine D.run 3 rfl ?_
    refine D.ce rfl rfl rfl rfl (x133_ok _) ?_
    show _ → Rn E 166 (21, [.ref 68, .int (tget I (18 + 7) (I 68 8) 3), us, us], [.int (x133 I 0)], wT I R) o w
    refine D.run 3 rfl ?_
    refine D.ce rfl rfl rfl rfl (x134_ok _) ?_
    refine D.run 3 rfl ?_
    refine D.br rfl (by decide) rfl (fun hc => ?_) (fun hc => ?_)
    · refine D.run 9 rfl ?_
      exact fun h => by obtain ⟨rfl, rfl⟩ := hT _ (D.some h); exact Rn.ret rfl rfl rfl
    · refine D.run 1 rfl ?_
      refine D.call rfl rfl rfl rfl (fun q h => x167_ok h) (fun q1 => ?_)
      refine D.run 7 rfl ?_
      refine D.br rfl (by decide) rfl (fun hc => ?_) (fun hc => ?_)
      · exact fun h => by obtain ⟨rfl, rfl⟩ := hT _ (D.some h); exact Rn.ret rfl rfl rfl
      · refine D.run 3 rfl ?_
        refine D.call rfl rfl rfl rfl (fun q h => x131_ok h) (fun q2 => ?_)
        exact fun h => by obtain ⟨rfl, rfl⟩ := hT _ (D.some h); exact Rn.ret rfl rfl rfl
set_option maxRecDepth 20000 in
theorem x166_ok {E : Xe} {R : Nat → Nat → Option Nat} {P : Nat} {I : St} (hP : P = 3 ∨ P = 18) (h68_6 : R 68 6 = some P) {q : St} (h : x166 P I = some q) : Rn E 166 (0, loc0 166 [.ref 68], [], wT I R) (.returned none) (wT q R) := x166_D hP h68_6 (T := fun r => r = q) (by rintro r rfl; exact ⟨rfl, rfl⟩) ⟨_, h, rfl⟩
/-- TaintHouse$Machine.doMarks(II)V -/
def x168 (P : Nat) (I : St) (a1 a2 : Int32) : Option (St) := if a1 = 53 then (if (x133 I 0) = (-1) then some 0 else (x150 P I (x149 I (x133 I 0)) a2).bind fun q1 => if q1 = 0 then some 0 else some 1).bind fun (q2 : Int32) => (x136 I 1 q2 (x134 I 0)).bind fun q3 => some q3 else if a1 = 54 then if (x133 I 0) = (-1) then some I else (x150 P I (x149 I (x133 I 0)) a2).bind fun q4 => if q4 = 0 then (x138 I 6 (x134 I 0)).bind fun q5 => some q5 else some I else if a1 = 55 then (x131 I (tget I 64 a2 0) (1 <<< (a2 &&& 31))).bind fun q6 => some q6 else if a1 = 56 then (x169 I a2 (x133 I 0) (x134 I 0)).bind fun q7 => (x135 q7 1).bind fun q8 => some q8 else if a1 = 57 then (x136 I 1 (x133 I 0) ((x134 I 0) &&& (a2 ^^^ (-1)))).bind fun q9 => some q9 else (x136 I 1 (x133 I 0) ((x134 I 0) ||| a2)).bind fun q10 => some q10
set_option maxRecDepth 20000 in
theorem x168_D {E : Xe} {R : Nat → Nat → Option Nat} {P : Nat} {o : Outcome} {w : Wd} {T : (St) → Prop} {I : St} (hP : P = 3 ∨ P = 18) (h68_6 : R 68 6 = some P) (a1 a2 : Int32) (hT : ∀ r, T r → o = .returned none ∧ w = wT r R) : Dq (x168 P I a1 a2) T → Rn E 168 (0, loc0 168 [.ref 68, .int a1, .int a2], [], wT I R) o w := by
  unfold x168
  rcases hP with rfl | rfl
  · refine D.run 1 rfl ?_
    refine D.sw rfl (by decide) rfl ?_
    show _ → Rn E 168 (swT [(53, 36), (54, 86), (55, 132), (56, 154), (57, 177)] 199 _, _, _, _) _ _
    refine D.swc (fun hc => ?_) (fun hc => ?_)
    · refine D.run 4 rfl ?_
      refine D.ce rfl rfl rfl rfl (x133_ok _) ?_
      refine D.run 1 rfl ?_
      have Kj75 : ∀ (q2 : Int32), Dq ((x136 I 1 q2 (x134 I 0)).bind fun q3 => some q3) T → Rn E 168 (75, [.ref 68, .int a1, .int a2], [.int q2, .int 1, .ref 68], wT I R) o w := by
        intro q2
        refine D.run 2 rfl ?_
        refine D.ce rfl rfl rfl rfl (x134_ok _) ?_
        refine D.call rfl rfl rfl rfl (fun q h => x136_ok h) (fun q3 => ?_)
        refine D.run 1 rfl ?_
        exact fun h => by obtain ⟨rfl, rfl⟩ := hT _ (D.some h); exact Rn.ret rfl rfl rfl
      refine D.jn (fun T75 c75 => ?_)
      refine D.br rfl (by decide) rfl (fun hc => ?_) (fun hc => ?_)
      · refine D.run 1 rfl ?_
        exact fun h => Kj75 _   (c75 _ (D.some h))
      · refine D.run 1 rfl ?_
        refine D.st rfl (by decide) (gf_1 h68_6) ?_
        refine D.run 4 rfl ?_
        refine D.ce rfl rfl rfl rfl (x133_ok _) ?_
        refine D.ce rfl rfl rfl rfl (x149_ok _) ?_
        show _ → Rn E 168 (63, [.ref 68, .int a1, .int a2], [.int (x149 I (x133 I 0)), .ref 3, .int 1, .ref 68], wT I R) o w
        refine D.run 1 rfl ?_
        refine D.call rfl rfl rfl rfl (fun q h => x150_ok (by decide) h) (fun q1 => ?_)
        refine D.br rfl (by decide) rfl (fun hc => ?_) (fun hc => ?_)
        · refine D.run 1 rfl ?_
          exact fun h => Kj75 _   (c75 _ (D.some h))
        · refine D.run 2 rfl ?_
          exact fun h => Kj75 _   (c75 _ (D.some h))
    · refine D.swc (fun hc => ?_) (fun hc => ?_)
      · refine D.run 2 rfl ?_
        refine D.ce rfl rfl rfl rfl (x133_ok _) ?_
        refine D.run 1 rfl ?_
        refine D.br rfl (by decide) rfl (fun hc => ?_) (fun hc => ?_)
        · exact fun h => by obtain ⟨rfl, rfl⟩ := hT _ (D.some h); exact Rn.ret rfl rfl rfl
        · refine D.run 1 rfl ?_
          refine D.st rfl (by decide) (gf_1 h68_6) ?_
          refine D.run 4 rfl ?_
          refine D.ce rfl rfl rfl rfl (x133_ok _) ?_
          refine D.ce rfl rfl rfl rfl (x149_ok _) ?_
          show _ → Rn E 168 (111, [.ref 68, .int a1, .int a2], [.int (x149 I (x133 I 0)), .ref 3], wT I R) o w
          refine D.run 1 rfl ?_
          refine D.call rfl rfl rfl rfl (fun q h => x150_ok (by decide) h) (fun q4 => ?_)
          refine D.br rfl (by decide) rfl (fun hc => ?_) (fun hc => ?_)
          · refine D.run 4 rfl ?_
            refine D.ce rfl rfl rfl rfl (x134_ok _) ?_
            refine D.call rfl rfl rfl rfl (fun q h => x138_ok h) (fun q5 => ?_)
            refine D.run 1 rfl ?_
            exact fun h => by obtain ⟨rfl, rfl⟩ := hT _ (D.some h); exact Rn.ret rfl rfl rfl
          · exact fun h => by obtain ⟨rfl, rfl⟩ := hT _ (D.some h); exact Rn.ret rfl rfl rfl
      · refine D.swc (fun hc => ?_) (fun hc => ?_)
        · refine D.run 6 rfl ?_
          refine D.ce rfl rfl rfl rfl (tget_ok (by decide) (by first | rfl | decide) _ _) ?_
          refine D.run 3 rfl ?_
          refine D.call rfl rfl rfl rfl (fun q h => x131_ok h) (fun q6 => ?_)
          refine D.run 1 rfl ?_
          exact fun h => by obtain ⟨rfl, rfl⟩ := hT _ (D.some h); exact Rn.ret rfl rfl rfl
        · refine D.swc (fun hc => ?_) (fun hc => ?_)
          · refine D.run 4 rfl ?_
            refine D.ce rfl rfl rfl rfl (x133_ok _) ?_
            refine D.run 2 rfl ?_
            refine D.ce rfl rfl rfl rfl (x134_ok _) ?_
            refine D.call rfl rfl rfl rfl (fun q h => x169_ok h) (fun q7 => ?_)
            show _ → Rn E 168 (169, [.ref 68, .int a1, .int a2], [], wT q7 R) o w
            refine D.run 2 rfl ?_
            refine D.call rfl rfl rfl rfl (fun q h => x135_ok h) (fun q8 => ?_)
            refine D.run 1 rfl ?_
            exact fun h => by obtain ⟨rfl, rfl⟩ := hT _ (D.some h); exact Rn.ret rfl rfl rfl
          · refine D.swc (fun hc => ?_) (fun hc => ?_)
            · refine D.run 4 rfl ?_
              refine D.ce rfl rfl rfl rfl (x133_ok _) ?_
              refine D.run 2 rfl ?_
              refine D.ce rfl rfl rfl rfl (x134_ok _) ?_
              refine D.run 4 rfl ?_
              refine D.call rfl rfl rfl rfl (fun q h => x136_ok h) (fun q9 => ?_)
              show _ → Rn E 168 (196, [.ref 68, .int a1, .int a2], [], wT q9 R) o w
              refine D.run 1 rfl ?_
              exact fun h => by obtain ⟨rfl, rfl⟩ := hT _ (D.some h); exact Rn.ret rfl rfl rfl
            · refine D.run 4 rfl ?_
              refine D.ce rfl rfl rfl rfl (x133_ok _) ?_
              refine D.run 2 rfl ?_
              refine D.ce rfl rfl rfl rfl (x134_ok _) ?_
              refine D.run 2 rfl ?_
              refine D.call rfl rfl rfl rfl (fun q h => x136_ok h) (fun q10 => ?_)
              show _ → Rn E 168 (216, [.ref 68, .int a1, .int a2], [], wT q10 R) o w
              exact fun h => by obtain ⟨rfl, rfl⟩ := hT _ (D.some h); exact Rn.ret rfl rfl rfl
  · refine D.run 1 rfl ?_
    refine D.sw rfl (by decide) rfl ?_
    show _ → Rn E 168 (swT [(53, 36), (54, 86), (55, 132), (56, 154), (57, 177)] 199 _, _, _, _) _ _
    refine D.swc (fun hc => ?_) (fun hc => ?_)
    · refine D.run 4 rfl ?_
      refine D.ce rfl rfl rfl rfl (x133_ok _) ?_
      refine D.run 1 rfl ?_
      have Kj75 : ∀ (q2 : Int32), Dq ((x136 I 1 q2 (x134 I 0)).bind fun q3 => some q3) T → Rn E 168 (75, [.ref 68, .int a1, .int a2], [.int q2, .int 1, .ref 68], wT I R) o w := by
        intro q2
        refine D.run 2 rfl ?_
        refine D.ce rfl rfl rfl rfl (x134_ok _) ?_
        refine D.call rfl rfl rfl rfl (fun q h => x136_ok h) (fun q3 => ?_)
        refine D.run 1 rfl ?_
        exact fun h => by obtain ⟨rfl, rfl⟩ := hT _ (D.some h); exact Rn.ret rfl rfl rfl
      refine D.jn (fun T75 c75 => ?_)
      refine D.br rfl (by decide) rfl (fun hc => ?_) (fun hc => ?_)
      · refine D.run 1 rfl ?_
        exact fun h => Kj75 _   (c75 _ (D.some h))
      · refine D.run 1 rfl ?_
        refine D.st rfl (by decide) (gf_1 h68_6) ?_
        refine D.run 4 rfl ?_
        refine D.ce rfl rfl rfl rfl (x133_ok _) ?_
        refine D.ce rfl rfl rfl rfl (x149_ok _) ?_
        show _ → Rn E 168 (63, [.ref 68, .int a1, .int a2], [.int (x149 I (x133 I 0)), .ref 18, .int 1, .ref 68], wT I R) o w
        refine D.run 1 rfl ?_
        refine D.call rfl rfl rfl rfl (fun q h => x150_ok (by decide) h) (fun q1 => ?_)
        refine D.br rfl (by decide) rfl (fun hc => ?_) (fun hc => ?_)
        · refine D.run 1 rfl ?_
          exact fun h => Kj75 _   (c75 _ (D.some h))
        · refine D.run 2 rfl ?_
          exact fun h => Kj75 _   (c75 _ (D.some h))
    · refine D.swc (fun hc => ?_) (fun hc => ?_)
      · refine D.run 2 rfl ?_
        refine D.ce rfl rfl rfl rfl (x133_ok _) ?_
        refine D.run 1 rfl ?_
        refine D.br rfl (by decide) rfl (fun hc => ?_) (fun hc => ?_)
        · exact fun h => by obtain ⟨rfl, rfl⟩ := hT _ (D.some h); exact Rn.ret rfl rfl rfl
        · refine D.run 1 rfl ?_
          refine D.st rfl (by decide) (gf_1 h68_6) ?_
          refine D.run 4 rfl ?_
          refine D.ce rfl rfl rfl rfl (x133_ok _) ?_
          refine D.ce rfl rfl rfl rfl (x149_ok _) ?_
          show _ → Rn E 168 (111, [.ref 68, .int a1, .int a2], [.int (x149 I (x133 I 0)), .ref 18], wT I R) o w
          refine D.run 1 rfl ?_
          refine D.call rfl rfl rfl rfl (fun q h => x150_ok (by decide) h) (fun q4 => ?_)
          refine D.br rfl (by decide) rfl (fun hc => ?_) (fun hc => ?_)
          · refine D.run 4 rfl ?_
            refine D.ce rfl rfl rfl rfl (x134_ok _) ?_
            refine D.call rfl rfl rfl rfl (fun q h => x138_ok h) (fun q5 => ?_)
            refine D.run 1 rfl ?_
            exact fun h => by obtain ⟨rfl, rfl⟩ := hT _ (D.some h); exact Rn.ret rfl rfl rfl
          · exact fun h => by obtain ⟨rfl, rfl⟩ := hT _ (D.some h); exact Rn.ret rfl rfl rfl
      · refine D.swc (fun hc => ?_) (fun hc => ?_)
        · refine D.run 6 rfl ?_
          refine D.ce rfl rfl rfl rfl (tget_ok (by decide) (by first | rfl | decide) _ _) ?_
          refine D.run 3 rfl ?_
          refine D.call rfl rfl rfl rfl (fun q h => x131_ok h) (fun q6 => ?_)
          refine D.run 1 rfl ?_
          exact fun h => by obtain ⟨rfl, rfl⟩ := hT _ (D.some h); exact Rn.ret rfl rfl rfl
        · refine D.swc (fun hc => ?_) (fun hc => ?_)
          · refine D.run 4 rfl ?_
            refine D.ce rfl rfl rfl rfl (x133_ok _) ?_
            refine D.run 2 rfl ?_
            refine D.ce rfl rfl rfl rfl (x134_ok _) ?_
            refine D.call rfl rfl rfl rfl (fun q h => x169_ok h) (fun q7 => ?_)
            show _ → Rn E 168 (169, [.ref 68, .int a1, .int a2], [], wT q7 R) o w
            refine D.run 2 rfl ?_
            refine D.call rfl rfl rfl rfl (fun q h => x135_ok h) (fun q8 => ?_)
            refine D.run 1 rfl ?_
            exact fun h => by obtain ⟨rfl, rfl⟩ := hT _ (D.some h); exact Rn.ret rfl rfl rfl
          · refine D.swc (fun hc => ?_) (fun hc => ?_)
            · refine D.run 4 rfl ?_
              refine D.ce rfl rfl rfl rfl (x133_ok _) ?_
              refine D.run 2 rfl ?_
              refine D.ce rfl rfl rfl rfl (x134_ok _) ?_
              refine D.run 4 rfl ?_
              refine D.call rfl rfl rfl rfl (fun q h => x136_ok h) (fun q9 => ?_)
              show _ → Rn E 168 (196, [.ref 68, .int a1, .int a2], [], wT q9 R) o w
              refine D.run 1 rfl ?_
              exact fun h => by obtain ⟨rfl, rfl⟩ := hT _ (D.some h); exact Rn.ret rfl rfl rfl
            · refine D.run 4 rfl ?_
              refine D.ce rfl rfl rfl rfl (x133_ok _) ?_
              refine D.run 2 rfl ?_
              refine D.ce rfl rfl rfl rfl (x134_ok _) ?_
              refine D.run 2 rfl ?_
              refine D.call rfl rfl rfl rfl (fun q h => x136_ok h) (fun q10 => ?_)
              show _ → Rn E 168 (216, [.ref 68, .int a1, .int a2], [], wT q10 R) o w
              exact fun h => by obtain ⟨rfl, rfl⟩ := hT _ (D.some h); exact Rn.ret rfl rfl rfl
set_option maxRecDepth 20000 in
theorem x168_ok {E : Xe} {R : Nat → Nat → Option Nat} {P : Nat} {I : St} (hP : P = 3 ∨ P = 18) (h68_6 : R 68 6 = some P) {a1 a2 : Int32} {q : St} (h : x168 P I a1 a2 = some q) : Rn E 168 (0, loc0 168 [.ref 68, .int a1, .int a2], [], wT I R) (.returned none) (wT q R) := x168_D hP h68_6 _ _ (T := fun r => r = q) (by rintro r rfl; exact ⟨rfl, rfl⟩) ⟨_, h, rfl⟩
