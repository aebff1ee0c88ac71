/-! FUNCTIONS OF METHODS, by program (wip/gen/all.py): 25 63 71 81 108 144 155 -/
/-- TaintHouse$Lexer.scan()V -/
def l25_27 (b1 : Int32) : Nat → Int32 → Int32 → St → Option (St)
  | 0, _, _, _ => none
  | n + 1, b2, b3, I => if b1 ≤ b3 then some I else if b1 ≤ b2 then some I else if (x40 I (x39 I b2)) = 0 then if (x39 I b2) = 35 then (x41 I b2 b1).bind fun q2 => l25_27 b1 n q2 (b3 + 1) I else if (x42 I (x39 I b2)) = 0 then if (x44 I (x39 I b2)) = 0 then (if (x47 I (x39 I b2)) = 0 then some 7 else some 6).bind fun (q3 : Int32) => (x45 I q3 b2 (x39 I b2)).bind fun q4 => l25_27 b1 n (b2 + 1) (b3 + 1) q4 else (x46 I b2 b1).bind fun q5 => l25_27 b1 n q5.1 (b3 + 1) q5.2 else (x43 I b2 b1).bind fun q6 => l25_27 b1 n q6.1 (b3 + 1) q6.2 else l25_27 b1 n (b2 + 1) (b3 + 1) I
set_option maxRecDepth 20000 in
set_option maxHeartbeats 30000000 in
theorem l25_27_ok {E : Xe} {R : Nat → Nat → Option Nat} {o : Outcome} {w : Wd} {T : (St) → Prop} {b1 : Int32} (K : ∀ (q : St) (e2 : Value) (_ : is1 e2 = true) (e3 : Value) (_ : is1 e3 = true) (e4 : Value) (_ : is1 e4 = true), T q → Rn E 25 (142, [.ref 33, .int b1, e2, e3, e4], [], wT q R) o w) : ∀ (n : Nat) (b2 : Int32) (b3 : Int32) (d4 : Value) (I : St), is1 d4 = true → Dq (l25_27 b1 n b2 b3 I) T → Rn E 25 (27, [.ref 33, .int b1, .int b2, .int b3, d4], [], wT I R) o w := by
  intro n
  induction n with
  | zero => intro b2 b3 d4 I hd4; exact D.none
  | succ n ih =>
    intro b2 b3 d4 I hd4
    rw [l25_27]
    refine D.run 2 rfl ?_
    refine D.br rfl (by decide) rfl (fun hc => ?_) (fun hc => ?_)
    · exact fun h => D.to h (K _ _ (by first | rfl | assumption) _ (by first | rfl | assumption) _ (by first | rfl | assumption))
    · refine D.run 2 rfl ?_
      refine D.br rfl (by decide) rfl (fun hc => ?_) (fun hc => ?_)
      · exact fun h => D.to h (K _ _ (by first | rfl | assumption) _ (by first | rfl | assumption) _ (by first | rfl | assumption))
      · refine D.run 2 rfl ?_
        refine D.ce rfl rfl rfl rfl (x39_ok _) ?_
        refine D.run 2 rfl ?_
        refine D.ce rfl rfl rfl rfl (x40_ok _) ?_
        refine D.br rfl (by decide) rfl (fun hc => ?_) (fun hc => ?_)
        · refine D.run 2 rfl ?_
          refine D.br rfl (by decide) rfl (fun hc => ?_) (fun hc => ?_)
          · refine D.run 3 rfl ?_
            refine D.call rfl rfl rfl rfl (fun q h => x41_ok h) (fun q2 => ?_)
            refine D.run 4 rfl ?_
            exact ih _ _ _ _ (by first | rfl | assumption)
          · refine D.run 1 rfl ?_
            refine D.ce rfl rfl rfl rfl (x42_ok _) ?_
            refine D.br rfl (by decide) rfl (fun hc => ?_) (fun hc => ?_)
            · refine D.run 1 rfl ?_
              refine D.ce rfl rfl rfl rfl (x44_ok _) ?_
              refine D.br rfl (by decide) rfl (fun hc => ?_) (fun hc => ?_)
              · refine D.run 2 rfl ?_
                refine D.ce rfl rfl rfl rfl (x47_ok _) ?_
                have Kj127 : ∀ (q3 : Int32), Dq ((x45 I q3 b2 (x39 I b2)).bind fun q4 => l25_27 b1 n (b2 + 1) (b3 + 1) q4) T → Rn E 25 (127, [.ref 33, .int b1, .int b2, .int b3, .int (x39 I b2)], [.int q3, .ref 33], wT I R) o w := by
                  intro q3
                  refine D.run 2 rfl ?_
                  refine D.call rfl rfl rfl rfl (fun q h => x45_ok h) (fun q4 => ?_)
                  refine D.run 3 rfl ?_
                  exact ih _ _ _ _ (by first | rfl | assumption)
                refine D.jn (fun T127 c127 => ?_)
                refine D.br rfl (by decide) rfl (fun hc => ?_) (fun hc => ?_)
                · refine D.run 1 rfl ?_
                  exact fun h => Kj127 _   (c127 _ (D.some h))
                · refine D.run 2 rfl ?_
                  exact fun h => Kj127 _   (c127 _ (D.some h))
              · refine D.run 3 rfl ?_
                refine D.call rfl rfl rfl rfl (fun q h => x46_ok h) (fun q5 => ?_)
                refine D.run 4 rfl ?_
                exact ih _ _ _ _ (by first | rfl | assumption)
            · refine D.run 3 rfl ?_
              refine D.call rfl rfl rfl rfl (fun q h => x43_ok h) (fun q6 => ?_)
              refine D.run 4 rfl ?_
              exact ih _ _ _ _ (by first | rfl | assumption)
        · refine D.run 4 rfl ?_
          exact ih _ _ _ _ (by first | rfl | assumption)
def x25 (I : St) : Option (St) := (x26 (tresize I 34 0)).bind fun q1 => (l25_27 (q1 1 3) 100000 0 0 q1).bind fun q7 => (x45 q7 0 (q1 1 3) 0).bind fun q11 => some q11
set_option maxRecDepth 20000 in
set_option maxHeartbeats 30000000 in
theorem x25_D {E : Xe} {R : Nat → Nat → Option Nat} {o : Outcome} {w : Wd} {T : (St) → Prop} {I : St} (hT : ∀ r, T r → o = .returned none ∧ w = wT r R) : Dq (x25 I) T → Rn E 25 (0, loc0 25 [.ref 33], [], wT I R) o w := by
  unfold x25
  refine D.run 3 rfl ?_
  refine D.ce rfl rfl rfl rfl (tresize_ok (by decide) (by first | rfl | decide) _) ?_
  refine D.run 2 rfl ?_
  refine D.call rfl rfl rfl rfl (fun q h => x26_ok h) (fun q1 => ?_)
  refine D.run 2 rfl ?_
  refine D.ce rfl rfl rfl rfl (tsize_ok (by decide) (by first | rfl | decide)) ?_
  show _ → Rn E 25 (22, [.ref 33, us, us, us, us], [.int (q1 1 3)], wT q1 R) o w
  refine D.run 5 rfl ?_
  refine D.bind (l25_27_ok  (fun q7 e8 he8 e9 he9 e10 he10 => ?_) 100000 _ _ _ _ (by first | rfl | assumption))
  refine D.run 4 rfl ?_
  refine D.call rfl rfl rfl rfl (fun q h => x45_ok h) (fun q11 => ?_)
  exact fun h => by obtain ⟨rfl, rfl⟩ := hT _ (D.some h); exact Rn.ret rfl rfl rfl
set_option maxRecDepth 20000 in
set_option maxHeartbeats 30000000 in
theorem x25_ok {E : Xe} {R : Nat → Nat → Option Nat} {I : St} {q : St} (h : x25 I = some q) : Rn E 25 (0, loc0 25 [.ref 33], [], wT I R) (.returned none) (wT q R) := x25_D  (T := fun r => r = q) (by rintro r rfl; exact ⟨rfl, rfl⟩) ⟨_, h, rfl⟩
/-- TaintHouse$Parser.readMember()V -/
def x63 (P : Nat) (I : St) : Option (St) := if (x61 I 125) = 0 then if (x57 I 60) = 0 then if (x57 I 61) = 0 then if (x57 I 62) = 0 then if (x57 I 63) = 0 then (x58 I).bind fun q1 => some q1 else (x69 P I 1).bind fun q2 => some q2 else (x69 P I 0).bind fun q3 => some q3 else (x68 P I).bind fun q4 => some q4 else (x64 P I).bind fun q5 => some q5 else some (up2 (up2 I 56 3 ((I 56 3) + 1)) 56 4 0)
set_option maxRecDepth 20000 in
set_option maxHeartbeats 30000000 in
theorem x63_D {E : Xe} {R : Nat → Nat → Option Nat} {P : Nat} {o : Outcome} {w : Wd} {T : (St) → Prop} {I : St} (hP : P = 3 ∨ P = 18) (h56_2 : R 56 2 = some P) (hT : ∀ r, T r → o = .returned none ∧ w = wT r R) : Dq (x63 P I) T → Rn E 63 (0, loc0 63 [.ref 56], [], wT I R) o w := by
  unfold x63
  rcases hP with rfl | rfl
  all_goals
    refine D.run 2 rfl ?_
    refine D.ce rfl rfl rfl rfl (x61_ok _) ?_
    refine D.br rfl (by decide) rfl (fun hc => ?_) (fun hc => ?_)
    · refine D.run 2 rfl ?_
      refine D.ce rfl rfl rfl rfl (x57_ok _) ?_
      refine D.br rfl (by decide) rfl (fun hc => ?_) (fun hc => ?_)
      · refine D.run 2 rfl ?_
        refine D.ce rfl rfl rfl rfl (x57_ok _) ?_
        refine D.br rfl (by decide) rfl (fun hc => ?_) (fun hc => ?_)
        · refine D.run 2 rfl ?_
          refine D.ce rfl rfl rfl rfl (x57_ok _) ?_
          refine D.br rfl (by decide) rfl (fun hc => ?_) (fun hc => ?_)
          · refine D.run 2 rfl ?_
            refine D.ce rfl rfl rfl rfl (x57_ok _) ?_
            refine D.br rfl (by decide) rfl (fun hc => ?_) (fun hc => ?_)
            · refine D.run 1 rfl ?_
              refine D.call rfl rfl rfl rfl (fun q h => x58_ok h) (fun q1 => ?_)
              exact fun h => by obtain ⟨rfl, rfl⟩ := hT _ (D.some h); exact Rn.ret rfl rfl rfl
            · refine D.run 2 rfl ?_
              refine D.call rfl rfl rfl rfl (fun q h => x69_ok (by decide) h56_2 h) (fun q2 => ?_)
              refine D.run 1 rfl ?_
              exact fun h => by obtain ⟨rfl, rfl⟩ := hT _ (D.some h); exact Rn.ret rfl rfl rfl
          · refine D.run 2 rfl ?_
            refine D.call rfl rfl rfl rfl (fun q h => x69_ok (by decide) h56_2 h) (fun q3 => ?_)
            refine D.run 1 rfl ?_
            exact fun h => by obtain ⟨rfl, rfl⟩ := hT _ (D.some h); exact Rn.ret rfl rfl rfl
        · refine D.run 1 rfl ?_
          refine D.call rfl rfl rfl rfl (fun q h => x68_ok (by decide) h56_2 h) (fun q4 => ?_)
          refine D.run 1 rfl ?_
          exact fun h => by obtain ⟨rfl, rfl⟩ := hT _ (D.some h); exact Rn.ret rfl rfl rfl
      · refine D.run 1 rfl ?_
        refine D.call rfl rfl rfl rfl (fun q h => x64_ok (by decide) h56_2 h) (fun q5 => ?_)
        refine D.run 1 rfl ?_
        exact fun h => by obtain ⟨rfl, rfl⟩ := hT _ (D.some h); exact Rn.ret rfl rfl rfl
    · refine D.run 10 rfl ?_
      exact fun h => by obtain ⟨rfl, rfl⟩ := hT _ (D.some h); exact Rn.ret rfl rfl rfl
set_option maxRecDepth 20000 in
set_option maxHeartbeats 30000000 in
theorem x63_ok {E : Xe} {R : Nat → Nat → Option Nat} {P : Nat} {I : St} (hP : P = 3 ∨ P = 18) (h56_2 : R 56 2 = some P) {q : St} (h : x63 P I = some q) : Rn E 63 (0, loc0 63 [.ref 56], [], wT I R) (.returned none) (wT q R) := x63_D hP h56_2 (T := fun r => r = q) (by rintro r rfl; exact ⟨rfl, rfl⟩) ⟨_, h, rfl⟩
/-- TaintHouse$Parser.readItem()V -/
def x71 (P : Nat) (I : St) : Option (St) := if (x61 I 125) = 0 then if (x57 I 67) = 0 then if (x56 I) = 3 then if 59 ≤ (x74 I) then (x80 P I).bind fun q1 => some q1 else (x75 P I (x74 I)).bind fun q2 => some q2 else (x80 P I).bind fun q3 => some q3 else (x73 P I).bind fun q4 => some q4 else Lt (up2 (up2 (tset I 48 (x72 P I) 1 (x60 I)) 56 3 (((tset I 48 (x72 P I) 1 (x60 I)) 56 3) + 1)) 56 4 1) fun J5 => some J5
set_option maxRecDepth 20000 in
set_option maxHeartbeats 30000000 in
theorem x71_D {E : Xe} {R : Nat → Nat → Option Nat} {P : Nat} {o : Outcome} {w : Wd} {T : (St) → Prop} {I : St} (hP : P = 3 ∨ P = 18) (h56_2 : R 56 2 = some P) (hT : ∀ r, T r → o = .returned none ∧ w = wT r R) : Dq (x71 P I) T → Rn E 71 (0, loc0 71 [.ref 56], [], wT I R) o w := by
  unfold x71
  rcases hP with rfl | rfl
  · refine D.run 2 rfl ?_
    refine D.ce rfl rfl rfl rfl (x61_ok _) ?_
    refine D.br rfl (by decide) rfl (fun hc => ?_) (fun hc => ?_)
    · refine D.run 2 rfl ?_
      refine D.ce rfl rfl rfl rfl (x57_ok _) ?_
      refine D.br rfl (by decide) rfl (fun hc => ?_) (fun hc => ?_)
      · refine D.run 1 rfl ?_
        refine D.ce rfl rfl rfl rfl (x56_ok) ?_
        refine D.run 1 rfl ?_
        refine D.br rfl (by decide) rfl (fun hc => ?_) (fun hc => ?_)
        · refine D.run 1 rfl ?_
          refine D.ce rfl rfl rfl rfl (x74_ok) ?_
          refine D.run 1 rfl ?_
          refine D.br rfl (by decide) rfl (fun hc => ?_) (fun hc => ?_)
          · refine D.run 1 rfl ?_
            refine D.call rfl rfl rfl rfl (fun q h => x80_ok (by decide) h56_2 h) (fun q1 => ?_)
            exact fun h => by obtain ⟨rfl, rfl⟩ := hT _ (D.some h); exact Rn.ret rfl rfl rfl
          · refine D.run 2 rfl ?_
            refine D.ce rfl rfl rfl rfl (x74_ok) ?_
            refine D.call rfl rfl rfl rfl (fun q h => x75_ok (by decide) h56_2 h) (fun q2 => ?_)
            refine D.run 1 rfl ?_
            exact fun h => by obtain ⟨rfl, rfl⟩ := hT _ (D.some h); exact Rn.ret rfl rfl rfl
        · refine D.run 1 rfl ?_
          refine D.call rfl rfl rfl rfl (fun q h => x80_ok (by decide) h56_2 h) (fun q3 => ?_)
          exact fun h => by obtain ⟨rfl, rfl⟩ := hT _ (D.some h); exact Rn.ret rfl rfl rfl
      · refine D.run 1 rfl ?_
        refine D.call rfl rfl rfl rfl (fun q h => x73_ok (by decide) h56_2 h) (fun q4 => ?_)
        refine D.run 1 rfl ?_
        exact fun h => by obtain ⟨rfl, rfl⟩ := hT _ (D.some h); exact Rn.ret rfl rfl rfl
    · refine D.run 4 rfl ?_
      refine D.ce rfl rfl rfl rfl (x72_ok (by decide) h56_2) ?_
      refine D.run 2 rfl ?_
      refine D.ce rfl rfl rfl rfl (x60_ok) ?_
      refine D.ce rfl rfl rfl rfl (tset_ok (by decide) (by first | rfl | decide) _ _ _) ?_
      show _ → Rn E 71 (28, [.ref 56], [], wT (tset I 48 (x72 3 I) 1 (x60 I)) R) o w
      refine D.run 9 rfl ?_
      refine D.letS (fun J5 => ?_)
      refine D.run 1 rfl ?_
      exact fun h => by obtain ⟨rfl, rfl⟩ := hT _ (D.some h); exact Rn.ret rfl rfl rfl
  · refine D.run 2 rfl ?_
    refine D.ce rfl rfl rfl rfl (x61_ok _) ?_
    refine D.br rfl (by decide) rfl (fun hc => ?_) (fun hc => ?_)
    · refine D.run 2 rfl ?_
      refine D.ce rfl rfl rfl rfl (x57_ok _) ?_
      refine D.br rfl (by decide) rfl (fun hc => ?_) (fun hc => ?_)
      · refine D.run 1 rfl ?_
        refine D.ce rfl rfl rfl rfl (x56_ok) ?_
        refine D.run 1 rfl ?_
        refine D.br rfl (by decide) rfl (fun hc => ?_) (fun hc => ?_)
        · refine D.run 1 rfl ?_
          refine D.ce rfl rfl rfl rfl (x74_ok) ?_
          refine D.run 1 rfl ?_
          refine D.br rfl (by decide) rfl (fun hc => ?_) (fun hc => ?_)
          · refine D.run 1 rfl ?_
            refine D.call rfl rfl rfl rfl (fun q h => x80_ok (by decide) h56_2 h) (fun q1 => ?_)
            exact fun h => by obtain ⟨rfl, rfl⟩ := hT _ (D.some h); exact Rn.ret rfl rfl rfl
          · refine D.run 2 rfl ?_
            refine D.ce rfl rfl rfl rfl (x74_ok) ?_
            refine D.call rfl rfl rfl rfl (fun q h => x75_ok (by decide) h56_2 h) (fun q2 => ?_)
            refine D.run 1 rfl ?_
            exact fun h => by obtain ⟨rfl, rfl⟩ := hT _ (D.some h); exact Rn.ret rfl rfl rfl
        · refine D.run 1 rfl ?_
          refine D.call rfl rfl rfl rfl (fun q h => x80_ok (by decide) h56_2 h) (fun q3 => ?_)
          exact fun h => by obtain ⟨rfl, rfl⟩ := hT _ (D.some h); exact Rn.ret rfl rfl rfl
      · refine D.run 1 rfl ?_
        refine D.call rfl rfl rfl rfl (fun q h => x73_ok (by decide) h56_2 h) (fun q4 => ?_)
        refine D.run 1 rfl ?_
        exact fun h => by obtain ⟨rfl, rfl⟩ := hT _ (D.some h); exact Rn.ret rfl rfl rfl
    · refine D.run 4 rfl ?_
      refine D.ce rfl rfl rfl rfl (x72_ok (by decide) h56_2) ?_
      refine D.run 2 rfl ?_
      refine D.ce rfl rfl rfl rfl (x60_ok) ?_
      refine D.ce rfl rfl rfl rfl (tset_ok (by decide) (by first | rfl | decide) _ _ _) ?_
      show _ → Rn E 71 (28, [.ref 56], [], wT (tset I 48 (x72 18 I) 1 (x60 I)) R) o w
      refine D.run 9 rfl ?_
      refine D.letS (fun J5 => ?_)
      refine D.run 1 rfl ?_
      exact fun h => by obtain ⟨rfl, rfl⟩ := hT _ (D.some h); exact Rn.ret rfl rfl rfl
set_option maxRecDepth 20000 in
set_option maxHeartbeats 30000000 in
theorem x71_ok {E : Xe} {R : Nat → Nat → Option Nat} {P : Nat} {I : St} (hP : P = 3 ∨ P = 18) (h56_2 : R 56 2 = some P) {q : St} (h : x71 P I = some q) : Rn E 71 (0, loc0 71 [.ref 56], [], wT I R) (.returned none) (wT q R) := x71_D hP h56_2 (T := fun r => r = q) (by rintro r rfl; exact ⟨rfl, rfl⟩) ⟨_, h, rfl⟩
/-- TaintHouse$Linker.link(LTaintHouse$Program;)I -/
def l81_17 (P : Nat) : Nat → Int32 → St → Option (St)
  | 0, _, _ => none
  | n + 1, b2, I => if (I (P + 1) 3) ≤ b2 then some I else (x82 P I b2).bind fun q1 => l81_17 P n (b2 + 1) q1
set_option maxRecDepth 20000 in
set_option maxHeartbeats 30000000 in
theorem l81_17_ok {E : Xe} {R : Nat → Nat → Option Nat} {P : Nat} {o : Outcome} {w : Wd} {T : (St) → Prop} (hP : P = 3 ∨ P = 18) (h57_2 : R 57 2 = some P) (K : ∀ (q : St) (e2 : Value) (_ : is1 e2 = true), T q → Rn E 81 (42, [.ref 57, .ref P, e2], [], wT q R) o w) : ∀ (n : Nat) (b2 : Int32) (I : St), Dq (l81_17 P n b2 I) T → Rn E 81 (17, [.ref 57, .ref P, .int b2], [], wT I R) o w := by
  rcases hP with rfl | rfl
  all_goals
    intro n
    induction n with
    | zero => intro b2 I; exact D.none
    | succ n ih =>
      intro b2 I
      rw [l81_17]
      refine D.run 2 rfl ?_
      refine D.st rfl (by decide) (gf_1 h57_2) ?_
      refine D.run 1 rfl ?_
      refine D.ce rfl rfl rfl rfl (tsize_ok (by decide) (by first | rfl | decide)) ?_
      refine D.br rfl (by decide) rfl (fun hc => ?_) (fun hc => ?_)
      · exact fun h => D.to h (K _ _ (by first | rfl | assumption))
      · refine D.run 2 rfl ?_
        refine D.call rfl rfl rfl rfl (fun q h => x82_ok (by decide) h57_2 h) (fun q1 => ?_)
        refine D.run 2 rfl ?_
        exact ih _ _ 
def l81_52 (P : Nat) : Nat → Int32 → St → Option (St)
  | 0, _, _ => none
  | n + 1, b2, I => if (I (P + 7) 3) ≤ b2 then some I else (x86 P I b2).bind fun q6 => (x90 q6 b2).bind fun q7 => (x91 P q7 b2).bind fun q8 => (x94 P q8 b2).bind fun q9 => l81_52 P n (b2 + 1) q9
set_option maxRecDepth 20000 in
set_option maxHeartbeats 30000000 in
theorem l81_52_ok {E : Xe} {R : Nat → Nat → Option Nat} {P : Nat} {o : Outcome} {w : Wd} {T : (St) → Prop} (hP : P = 3 ∨ P = 18) (h57_2 : R 57 2 = some P) (K : ∀ (q : St) (e2 : Value) (_ : is1 e2 = true), T q → Rn E 81 (92, [.ref 57, .ref P, e2], [], wT q R) o w) : ∀ (n : Nat) (b2 : Int32) (I : St), Dq (l81_52 P n b2 I) T → Rn E 81 (52, [.ref 57, .ref P, .int b2], [], wT I R) o w := by
  rcases hP with rfl | rfl
  · intro n
    induction n with
    | zero => intro b2 I; exact D.none
    | succ n ih =>
      intro b2 I
      rw [l81_52]
      refine D.run 2 rfl ?_
      refine D.st rfl (by decide) (gf_1 h57_2) ?_
      refine D.run 1 rfl ?_
      refine D.ce rfl rfl rfl rfl (tsize_ok (by decide) (by first | rfl | decide)) ?_
      refine D.br rfl (by decide) rfl (fun hc => ?_) (fun hc => ?_)
      · exact fun h => D.to h (K _ _ (by first | rfl | assumption))
      · refine D.run 2 rfl ?_
        refine D.call rfl rfl rfl rfl (fun q h => x86_ok (by decide) h57_2 h) (fun q6 => ?_)
        refine D.run 2 rfl ?_
        refine D.call rfl rfl rfl rfl (fun q h => x90_ok h) (fun q7 => ?_)
        refine D.run 2 rfl ?_
        refine D.call rfl rfl rfl rfl (fun q h => x91_ok (by decide) h57_2 h) (fun q8 => ?_)
        show _ → Rn E 81 (81, [.ref 57, .ref 3, .int b2], [], wT q8 R) o w
        refine D.run 2 rfl ?_
        refine D.call rfl rfl rfl rfl (fun q h => x94_ok (by decide) h57_2 h) (fun q9 => ?_)
        refine D.run 2 rfl ?_
        exact ih _ _ 
  · intro n
    induction n with
    | zero => intro b2 I; exact D.none
    | succ n ih =>
      intro b2 I
      rw [l81_52]
      refine D.run 2 rfl ?_
      refine D.st rfl (by decide) (gf_1 h57_2) ?_
      refine D.run 1 rfl ?_
      refine D.ce rfl rfl rfl rfl (tsize_ok (by decide) (by first | rfl | decide)) ?_
      refine D.br rfl (by decide) rfl (fun hc => ?_) (fun hc => ?_)
      · exact fun h => D.to h (K _ _ (by first | rfl | assumption))
      · refine D.run 2 rfl ?_
        refine D.call rfl rfl rfl rfl (fun q h => x86_ok (by decide) h57_2 h) (fun q6 => ?_)
        refine D.run 2 rfl ?_
        refine D.call rfl rfl rfl rfl (fun q h => x90_ok h) (fun q7 => ?_)
        refine D.run 2 rfl ?_
        refine D.call rfl rfl rfl rfl (fun q h => x91_ok (by decide) h57_2 h) (fun q8 => ?_)
        show _ → Rn E 81 (81, [.ref 57, .ref 18, .int b2], [], wT q8 R) o w
        refine D.run 2 rfl ?_
        refine D.call rfl rfl rfl rfl (fun q h => x94_ok (by decide) h57_2 h) (fun q9 => ?_)
        refine D.run 2 rfl ?_
        exact ih _ _ 
def x81 (P : Nat) (I : St) : Option (Int32 × St) := (l81_17 P 100000 0 (up2 (up2 I 57 3 0) 57 4 (-1))).bind fun q2 => (x84 P q2).bind fun q4 => (x85 q4).bind fun q5 => (l81_52 P 100000 0 q5).bind fun q10 => if (q10 57 3) = 0 then (x96 P q10).bind fun q12 => some ((q12 57 3), q12) else some ((q10 57 3), q10)
set_option maxRecDepth 20000 in
set_option maxHeartbeats 30000000 in
theorem x81_D {E : Xe} {R : Nat → Nat → Option Nat} {P : Nat} {o : Outcome} {w : Wd} {T : (Int32 × St) → Prop} {I : St} (hP : P = 3 ∨ P = 18) (h57_2 : R 57 2 = some P) (hT : ∀ r, T r → o = .returned (some (.int r.1)) ∧ w = wT r.2 (up2 R 57 2 (some P))) : Dq (x81 P I) T → Rn E 81 (0, loc0 81 [.ref 57, .ref P], [], wT I R) o w := by
  unfold x81
  rcases hP with rfl | rfl
  all_goals
    refine D.run 11 rfl ?_
    refine D.bind (l81_17_ok (by decide) rfl (fun q2 e3 he3 => ?_) 100000 _  _ )
    refine D.run 1 rfl ?_
    refine D.call rfl rfl rfl rfl (fun q h => x84_ok (by decide) rfl h) (fun q4 => ?_)
    refine D.run 1 rfl ?_
    refine D.call rfl rfl rfl rfl (fun q h => x85_ok h) (fun q5 => ?_)
    refine D.run 2 rfl ?_
    refine D.bind (l81_52_ok (by decide) rfl (fun q10 e11 he11 => ?_) 100000 _  _ )
    refine D.run 2 rfl ?_
    refine D.br rfl (by decide) rfl (fun hc => ?_) (fun hc => ?_)
    · refine D.run 1 rfl ?_
      refine D.call rfl rfl rfl rfl (fun q h => x96_ok (by decide) rfl h) (fun q12 => ?_)
      refine D.run 2 rfl ?_
      exact fun h => by obtain ⟨rfl, rfl⟩ := hT _ (D.some h); exact Rn.ret rfl rfl rfl
    · refine D.run 2 rfl ?_
      exact fun h => by obtain ⟨rfl, rfl⟩ := hT _ (D.some h); exact Rn.ret rfl rfl rfl
set_option maxRecDepth 20000 in
set_option maxHeartbeats 30000000 in
theorem x81_ok {E : Xe} {R : Nat → Nat → Option Nat} {P : Nat} {I : St} (hP : P = 3 ∨ P = 18) (h57_2 : R 57 2 = some P) {q : Int32 × St} (h : x81 P I = some q) : Rn E 81 (0, loc0 81 [.ref 57, .ref P], [], wT I R) (.returned (some (.int q.1))) (wT q.2 (up2 R 57 2 (some P))) := x81_D hP h57_2 (T := fun r => r = q) (by rintro r rfl; exact ⟨rfl, rfl⟩) ⟨_, h, rfl⟩
/-- TaintHouse$Verifier.apply(III)Z -/
def x108 (P : Nat) (I : St) (a1 a2 a3 : Int32) : Option (Int32 × St) := if a1 = 2 then (x110 I (x109 I a2)).bind fun q1 => if (x109 I a2) = 0 then some (0, q1) else some (1, q1) else if a1 = 3 then (x111 I).bind fun q2 => (x100 q2.2 a2 q2.1).bind fun q3 => if q2.1 = 0 then some (0, q3) else some (1, q3) else if a1 = 4 then if (x109 I a2) = 1 then some (1, I) else some (0, I) else if a1 = 5 then (x111 I).bind fun q4 => (x110 q4.2 q4.1).bind fun q5 => (x110 q5 q4.1).bind fun q6 => if q4.1 = 0 then some (0, q6) else some (1, q6) else if a1 = 6 then (x111 I).bind fun q7 => if q7.1 = 0 then some (0, q7.2) else some (1, q7.2) else if a1 = 7 then (x111 I).bind fun q8 => (x111 q8.2).bind fun q9 => (x110 q9.2 q8.1).bind fun q10 => (x110 q10 q9.1).bind fun q11 => if q9.1 = 0 then some (0, q11) else some (1, q11) else if a1 = 51 then if (tget I (P + 7) (I 58 3) 3) = 0 then some (1, I) else (x111 I).bind fun q12 => if q12.1 = (tget I (P + 7) (I 58 3) 3) then some (1, q12.2) else some (0, q12.2) else (x112 P I a1 a3).bind fun q13 => if q13.1 = 0 ∨ q13.1 = 1 then some (q13.1, q13.2) else none
set_option maxRecDepth 20000 in
set_option maxHeartbeats 30000000 in
theorem x108_D {E : Xe} {R : Nat → Nat → Option Nat} {P : Nat} {o : Outcome} {w : Wd} {T : (Int32 × St) → Prop} {I : St} (hP : P = 3 ∨ P = 18) (h58_2 : R 58 2 = some P) (a1 a2 a3 : Int32) (hT : ∀ r, T r → o = .returned (some (.int r.1)) ∧ w = wT r.2 R) : Dq (x108 P I a1 a2 a3) T → Rn E 108 (0, loc0 108 [.ref 58, .int a1, .int a2, .int a3], [], wT I R) o w := by
  unfold x108
  rcases hP with rfl | rfl
  all_goals
    refine D.run 1 rfl ?_
    refine D.sw rfl (by decide) rfl ?_
    show _ → Rn E 108 (swT [(2, 68), (3, 92), (4, 116), (5, 131), (6, 160), (7, 173), (51, 208)] 245 _, _, _, _) _ _
    refine D.swc (fun hc => ?_) (fun hc => ?_)
    · refine D.run 2 rfl ?_
      refine D.ce rfl rfl rfl rfl (x109_ok _) ?_
      refine D.run 3 rfl ?_
      refine D.call rfl rfl rfl rfl (fun q h => x110_ok h) (fun q1 => ?_)
      refine D.run 1 rfl ?_
      refine D.br rfl (by decide) rfl (fun hc => ?_) (fun hc => ?_)
      · refine D.run 1 rfl ?_
        exact fun h => by obtain ⟨rfl, rfl⟩ := hT _ (D.some h); exact Rn.ret rfl rfl (by first | rfl | (simp [rt1, rt]; done) | decide)
      · refine D.run 2 rfl ?_
        exact fun h => by obtain ⟨rfl, rfl⟩ := hT _ (D.some h); exact Rn.ret rfl rfl (by first | rfl | (simp [rt1, rt]; done) | decide)
    · refine D.swc (fun hc => ?_) (fun hc => ?_)
      · refine D.run 1 rfl ?_
        refine D.call rfl rfl rfl rfl (fun q h => x111_ok h) (fun q2 => ?_)
        refine D.run 4 rfl ?_
        refine D.call rfl rfl rfl rfl (fun q h => x100_ok h) (fun q3 => ?_)
        refine D.run 1 rfl ?_
        refine D.br rfl (by decide) rfl (fun hc => ?_) (fun hc => ?_)
        · refine D.run 1 rfl ?_
          exact fun h => by obtain ⟨rfl, rfl⟩ := hT _ (D.some h); exact Rn.ret rfl rfl (by first | rfl | (simp [rt1, rt]; done) | decide)
        · refine D.run 2 rfl ?_
          exact fun h => by obtain ⟨rfl, rfl⟩ := hT _ (D.some h); exact Rn.ret rfl rfl (by first | rfl | (simp [rt1, rt]; done) | decide)
      · refine D.swc (fun hc => ?_) (fun hc => ?_)
        · refine D.run 2 rfl ?_
          refine D.ce rfl rfl rfl rfl (x109_ok _) ?_
          refine D.run 1 rfl ?_
          refine D.br rfl (by decide) rfl (fun hc => ?_) (fun hc => ?_)
          · refine D.run 2 rfl ?_
            exact fun h => by obtain ⟨rfl, rfl⟩ := hT _ (D.some h); exact Rn.ret rfl rfl (by first | rfl | (simp [rt1, rt]; done) | decide)
          · refine D.run 1 rfl ?_
            exact fun h => by obtain ⟨rfl, rfl⟩ := hT _ (D.some h); exact Rn.ret rfl rfl (by first | rfl | (simp [rt1, rt]; done) | decide)
        · refine D.swc (fun hc => ?_) (fun hc => ?_)
          · refine D.run 1 rfl ?_
            refine D.call rfl rfl rfl rfl (fun q h => x111_ok h) (fun q4 => ?_)
            refine D.run 3 rfl ?_
            refine D.call rfl rfl rfl rfl (fun q h => x110_ok h) (fun q5 => ?_)
            refine D.run 2 rfl ?_
            refine D.call rfl rfl rfl rfl (fun q h => x110_ok h) (fun q6 => ?_)
            show _ → Rn E 108 (149, [.ref 58, .int a1, .int a2, .int a3, .int q4.1, us], [], wT q6 R) o w
            refine D.run 1 rfl ?_
            refine D.br rfl (by decide) rfl (fun hc => ?_) (fun hc => ?_)
            · refine D.run 1 rfl ?_
              exact fun h => by obtain ⟨rfl, rfl⟩ := hT _ (D.some h); exact Rn.ret rfl rfl (by first | rfl | (simp [rt1, rt]; done) | decide)
            · refine D.run 2 rfl ?_
              exact fun h => by obtain ⟨rfl, rfl⟩ := hT _ (D.some h); exact Rn.ret rfl rfl (by first | rfl | (simp [rt1, rt]; done) | decide)
          · refine D.swc (fun hc => ?_) (fun hc => ?_)
            · refine D.run 1 rfl ?_
              refine D.call rfl rfl rfl rfl (fun q h => x111_ok h) (fun q7 => ?_)
              refine D.br rfl (by decide) rfl (fun hc => ?_) (fun hc => ?_)
              · refine D.run 1 rfl ?_
                exact fun h => by obtain ⟨rfl, rfl⟩ := hT _ (D.some h); exact Rn.ret rfl rfl (by first | rfl | (simp [rt1, rt]; done) | decide)
              · refine D.run 2 rfl ?_
                exact fun h => by obtain ⟨rfl, rfl⟩ := hT _ (D.some h); exact Rn.ret rfl rfl (by first | rfl | (simp [rt1, rt]; done) | decide)
            · refine D.swc (fun hc => ?_) (fun hc => ?_)
              · refine D.run 1 rfl ?_
                refine D.call rfl rfl rfl rfl (fun q h => x111_ok h) (fun q8 => ?_)
                refine D.run 2 rfl ?_
                refine D.call rfl rfl rfl rfl (fun q h => x111_ok h) (fun q9 => ?_)
                refine D.run 3 rfl ?_
                refine D.call rfl rfl rfl rfl (fun q h => x110_ok h) (fun q10 => ?_)
                show _ → Rn E 108 (191, [.ref 58, .int a1, .int a2, .int a3, .int q8.1, .int q9.1], [], wT q10 R) o w
                refine D.run 2 rfl ?_
                refine D.call rfl rfl rfl rfl (fun q h => x110_ok h) (fun q11 => ?_)
                refine D.run 1 rfl ?_
                refine D.br rfl (by decide) rfl (fun hc => ?_) (fun hc => ?_)
                · refine D.run 1 rfl ?_
                  exact fun h => by obtain ⟨rfl, rfl⟩ := hT _ (D.some h); exact Rn.ret rfl rfl (by first | rfl | (simp [rt1, rt]; done) | decide)
                · refine D.run 2 rfl ?_
                  exact fun h => by obtain ⟨rfl, rfl⟩ := hT _ (D.some h); exact Rn.ret rfl rfl (by first | rfl | (simp [rt1, rt]; done) | decide)
              · refine D.swc (fun hc => ?_) (fun hc => ?_)
                · refine D.run 1 rfl ?_
                  refine D.st rfl (by decide) (gf_1 h58_2) ?_
                  refine D.run 4 rfl ?_
                  refine D.ce rfl rfl rfl rfl (tget_ok (by decide) (by first | rfl | decide) _ _) ?_
                  refine D.run 2 rfl ?_
                  refine D.br rfl (by decide) rfl (fun hc => ?_) (fun hc => ?_)
                  · refine D.run 2 rfl ?_
                    exact fun h => by obtain ⟨rfl, rfl⟩ := hT _ (D.some h); exact Rn.ret rfl rfl (by first | rfl | (simp [rt1, rt]; done) | decide)
                  · refine D.run 1 rfl ?_
                    refine D.call rfl rfl rfl rfl (fun q h => x111_ok h) (fun q12 => ?_)
                    refine D.run 1 rfl ?_
                    refine D.br rfl (by decide) rfl (fun hc => ?_) (fun hc => ?_)
                    · refine D.run 2 rfl ?_
                      exact fun h => by obtain ⟨rfl, rfl⟩ := hT _ (D.some h); exact Rn.ret rfl rfl (by first | rfl | (simp [rt1, rt]; done) | decide)
                    · refine D.run 1 rfl ?_
                      exact fun h => by obtain ⟨rfl, rfl⟩ := hT _ (D.some h); exact Rn.ret rfl rfl (by first | rfl | (simp [rt1, rt]; done) | decide)
                · refine D.run 3 rfl ?_
                  refine D.call rfl rfl rfl rfl (fun q h => x112_ok (by decide) h58_2 h) (fun q13 => ?_)
                  refine D.gd fun hg => ?_
                  exact fun h => by obtain ⟨rfl, rfl⟩ := hT _ (D.some h); exact Rn.ret rfl rfl (if_pos hg)
set_option maxRecDepth 20000 in
set_option maxHeartbeats 30000000 in
theorem x108_ok {E : Xe} {R : Nat → Nat → Option Nat} {P : Nat} {I : St} (hP : P = 3 ∨ P = 18) (h58_2 : R 58 2 = some P) {a1 a2 a3 : Int32} {q : Int32 × St} (h : x108 P I a1 a2 a3 = some q) : Rn E 108 (0, loc0 108 [.ref 58, .int a1, .int a2, .int a3], [], wT I R) (.returned (some (.int q.1))) (wT q.2 R) := x108_D hP h58_2 _ _ _ (T := fun r => r = q) (by rintro r rfl; exact ⟨rfl, rfl⟩) ⟨_, h, rfl⟩
/-- TaintHouse$Machine.doField(III)V -/
def x144 (P : Nat) (I : St) (a1 a2 a3 : Int32) : Option (St) := if a1 = 37 then (x145 P I a2).bind fun q1 => some q1 else if a1 = 38 then (x147 P I a2 (tget I (P + 3) a3 4)).bind fun q2 => some q2 else if a1 = 39 then (x154 P I a2 (tget I (P + 3) a3 4)).bind fun q3 => some q3 else if a1 = 40 then (x131 I (tget I 74 a3 0) (tget I 74 a3 1)).bind fun q4 => some q4 else (x135 (tset2 I 74 a3 (x133 I 0) (x134 I 0)) 1).bind fun q5 => some q5
set_option maxRecDepth 20000 in
set_option maxHeartbeats 30000000 in
theorem x144_D {E : Xe} {R : Nat → Nat → Option Nat} {P : Nat} {o : Outcome} {w : Wd} {T : (St) → Prop} {I : St} (hP : P = 3 ∨ P = 18) (h68_6 : R 68 6 = some P) (a1 a2 a3 : Int32) (hT : ∀ r, T r → o = .returned none ∧ w = wT r R) : Dq (x144 P I a1 a2 a3) T → Rn E 144 (0, loc0 144 [.ref 68, .int a1, .int a2, .int a3], [], wT I R) o w := by
  unfold x144
  rcases hP with rfl | rfl
  all_goals
    refine D.run 1 rfl ?_
    refine D.sw rfl (by decide) rfl ?_
    show _ → Rn E 144 (swT [(37, 32), (38, 40), (39, 60), (40, 80)] 105 _, _, _, _) _ _
    refine D.swc (fun hc => ?_) (fun hc => ?_)
    · refine D.run 2 rfl ?_
      refine D.call rfl rfl rfl rfl (fun q h => x145_ok (by decide) h68_6 h) (fun q1 => ?_)
      refine D.run 1 rfl ?_
      exact fun h => by obtain ⟨rfl, rfl⟩ := hT _ (D.some h); exact Rn.ret rfl rfl rfl
    · refine D.swc (fun hc => ?_) (fun hc => ?_)
      · refine D.run 3 rfl ?_
        refine D.st rfl (by decide) (gf_1 h68_6) ?_
        refine D.run 3 rfl ?_
        refine D.ce rfl rfl rfl rfl (tget_ok (by decide) (by first | rfl | decide) _ _) ?_
        refine D.call rfl rfl rfl rfl (fun q h => x147_ok (by decide) h68_6 h) (fun q2 => ?_)
        show _ → Rn E 144 (57, [.ref 68, .int a1, .int a2, .int a3], [], wT q2 R) o w
        refine D.run 1 rfl ?_
        exact fun h => by obtain ⟨rfl, rfl⟩ := hT _ (D.some h); exact Rn.ret rfl rfl rfl
      · refine D.swc (fun hc => ?_) (fun hc => ?_)
        · refine D.run 3 rfl ?_
          refine D.st rfl (by decide) (gf_1 h68_6) ?_
          refine D.run 3 rfl ?_
          refine D.ce rfl rfl rfl rfl (tget_ok (by decide) (by first | rfl | decide) _ _) ?_
          refine D.call rfl rfl rfl rfl (fun q h => x154_ok (by decide) h68_6 h) (fun q3 => ?_)
          show _ → Rn E 144 (77, [.ref 68, .int a1, .int a2, .int a3], [], wT q3 R) o w
          refine D.run 1 rfl ?_
          exact fun h => by obtain ⟨rfl, rfl⟩ := hT _ (D.some h); exact Rn.ret rfl rfl rfl
        · refine D.swc (fun hc => ?_) (fun hc => ?_)
          · refine D.run 5 rfl ?_
            refine D.ce rfl rfl rfl rfl (tget_ok (by decide) (by first | rfl | decide) _ _) ?_
            refine D.run 4 rfl ?_
            refine D.ce rfl rfl rfl rfl (tget_ok (by decide) (by first | rfl | decide) _ _) ?_
            refine D.call rfl rfl rfl rfl (fun q h => x131_ok h) (fun q4 => ?_)
            show _ → Rn E 144 (102, [.ref 68, .int a1, .int a2, .int a3], [], wT q4 R) o w
            refine D.run 1 rfl ?_
            exact fun h => by obtain ⟨rfl, rfl⟩ := hT _ (D.some h); exact Rn.ret rfl rfl rfl
          · refine D.run 5 rfl ?_
            refine D.ce rfl rfl rfl rfl (x133_ok _) ?_
            refine D.run 2 rfl ?_
            refine D.ce rfl rfl rfl rfl (x134_ok _) ?_
            refine D.ce rfl rfl rfl rfl (tsetP_ok (by decide) (by first | rfl | decide) (by decide) _ _ _) ?_
            show _ → Rn E 144 (123, [.ref 68, .int a1, .int a2, .int a3], [], wT (tset2 I 74 a3 (x133 I 0) (x134 I 0)) R) o w
            refine D.run 2 rfl ?_
            refine D.call rfl rfl rfl rfl (fun q h => x135_ok h) (fun q5 => ?_)
            exact fun h => by obtain ⟨rfl, rfl⟩ := hT _ (D.some h); exact Rn.ret rfl rfl rfl
set_option maxRecDepth 20000 in
set_option maxHeartbeats 30000000 in
theorem x144_ok {E : Xe} {R : Nat → Nat → Option Nat} {P : Nat} {I : St} (hP : P = 3 ∨ P = 18) (h68_6 : R 68 6 = some P) {a1 a2 a3 : Int32} {q : St} (h : x144 P I a1 a2 a3 = some q) : Rn E 144 (0, loc0 144 [.ref 68, .int a1, .int a2, .int a3], [], wT I R) (.returned none) (wT q R) := x144_D hP h68_6 _ _ _ (T := fun r => r = q) (by rintro r rfl; exact ⟨rfl, rfl⟩) ⟨_, h, rfl⟩
/-- TaintHouse$Machine.doArray(I)V -/
def x155 (I : St) (a1 : Int32) : Option (St) := if a1 = 42 then (x156 I (-2)).bind fun q1 => some q1 else if a1 = 43 then (x156 I (-3)).bind fun q2 => some q2 else if a1 = 44 then (x157 I (-2)).bind fun q3 => some q3 else if a1 = 45 then (x160 I (-2)).bind fun q4 => some q4 else if a1 = 46 then (x157 I (-3)).bind fun q5 => some q5 else if a1 = 47 then (x160 I (-3)).bind fun q6 => some q6 else (x161 I).bind fun q7 => some q7
set_option maxRecDepth 20000 in
set_option maxHeartbeats 30000000 in
theorem x155_D {E : Xe} {R : Nat → Nat → Option Nat} {o : Outcome} {w : Wd} {T : (St) → Prop} {I : St} (a1 : Int32) (hT : ∀ r, T r → o = .returned none ∧ w = wT r R) : Dq (x155 I a1) T → Rn E 155 (0, loc0 155 [.ref 68, .int a1], [], wT I R) o w := by
  unfold x155
  refine D.run 1 rfl ?_
  refine D.sw rfl (by decide) rfl ?_
  show _ → Rn E 155 (swT [(42, 40), (43, 49), (44, 58), (45, 76), (46, 67), (47, 85)] 94 _, _, _, _) _ _
  refine D.swc (fun hc => ?_) (fun hc => ?_)
  · refine D.run 2 rfl ?_
    refine D.call rfl rfl rfl rfl (fun q h => x156_ok h) (fun q1 => ?_)
    refine D.run 1 rfl ?_
    exact fun h => by obtain ⟨rfl, rfl⟩ := hT _ (D.some h); exact Rn.ret rfl rfl rfl
  · refine D.swc (fun hc => ?_) (fun hc => ?_)
    · refine D.run 2 rfl ?_
      refine D.call rfl rfl rfl rfl (fun q h => x156_ok h) (fun q2 => ?_)
      refine D.run 1 rfl ?_
      exact fun h => by obtain ⟨rfl, rfl⟩ := hT _ (D.some h); exact Rn.ret rfl rfl rfl
    · refine D.swc (fun hc => ?_) (fun hc => ?_)
      · refine D.run 2 rfl ?_
        refine D.call rfl rfl rfl rfl (fun q h => x157_ok h) (fun q3 => ?_)
        refine D.run 1 rfl ?_
        exact fun h => by obtain ⟨rfl, rfl⟩ := hT _ (D.some h); exact Rn.ret rfl rfl rfl
      · refine D.swc (fun hc => ?_) (fun hc => ?_)
        · refine D.run 2 rfl ?_
          refine D.call rfl rfl rfl rfl (fun q h => x160_ok h) (fun q4 => ?_)
          refine D.run 1 rfl ?_
          exact fun h => by obtain ⟨rfl, rfl⟩ := hT _ (D.some h); exact Rn.ret rfl rfl rfl
        · refine D.swc (fun hc => ?_) (fun hc => ?_)
          · refine D.run 2 rfl ?_
            refine D.call rfl rfl rfl rfl (fun q h => x157_ok h) (fun q5 => ?_)
            refine D.run 1 rfl ?_
            exact fun h => by obtain ⟨rfl, rfl⟩ := hT _ (D.some h); exact Rn.ret rfl rfl rfl
          · refine D.swc (fun hc => ?_) (fun hc => ?_)
            · refine D.run 2 rfl ?_
              refine D.call rfl rfl rfl rfl (fun q h => x160_ok h) (fun q6 => ?_)
              refine D.run 1 rfl ?_
              exact fun h => by obtain ⟨rfl, rfl⟩ := hT _ (D.some h); exact Rn.ret rfl rfl rfl
            · refine D.run 1 rfl ?_
              refine D.call rfl rfl rfl rfl (fun q h => x161_ok h) (fun q7 => ?_)
              exact fun h => by obtain ⟨rfl, rfl⟩ := hT _ (D.some h); exact Rn.ret rfl rfl rfl
set_option maxRecDepth 20000 in
set_option maxHeartbeats 30000000 in
theorem x155_ok {E : Xe} {R : Nat → Nat → Option Nat} {I : St} {a1 : Int32} {q : St} (h : x155 I a1 = some q) : Rn E 155 (0, loc0 155 [.ref 68, .int a1], [], wT I R) (.returned none) (wT q R) := x155_D  _ (T := fun r => r = q) (by rintro r rfl; exact ⟨rfl, rfl⟩) ⟨_, h, rfl⟩
