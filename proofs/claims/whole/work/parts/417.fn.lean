/-! FUNCTIONS OF METHODS, by program (wip/gen/all.py): 125 198 225 237 97 -/
/-- TaintHouse$Machine.play(LTaintHouse$Program;I)I -/
def l125_8 (P : Nat) : Nat → Int32 → St → Option (St)
  | 0, _, _ => none
  | n + 1, b3, I => if 20000 < b3 then some I else if (I 68 14) = (-1) then if (I 68 17) < 20000 then (x129 P (up2 I 68 10 ((I 68 9) + 1)) (tget (up2 I 68 10 ((I 68 9) + 1)) (P + 9) ((tget I (P + 7) (I 68 8) 5) + (I 68 9)) 0) (tget (up2 I 68 10 ((I 68 9) + 1)) (P + 9) ((tget I (P + 7) (I 68 8) 5) + (I 68 9)) 1) (tget (up2 I 68 10 ((I 68 9) + 1)) (P + 9) ((tget I (P + 7) (I 68 8) 5) + (I 68 9)) 2)).bind fun q2 => (if 4 ≤ (q2 68 14) then some q2 else some (up2 q2 68 17 ((q2 68 17) + 1))).bind fun (q3 : St) => if (q3 68 12) = 0 then l125_8 P n (b3 + 1) (up2 q3 68 9 (q3 68 10)) else if (q3 68 14) = (-1) then (x170 P q3).bind fun q4 => l125_8 P n (b3 + 1) (up2 q4 68 9 (q4 68 10)) else l125_8 P n (b3 + 1) (up2 q3 68 9 (q3 68 10)) else some (up2 I 68 14 4) else some I
set_option maxRecDepth 20000 in
set_option maxHeartbeats 30000000 in
theorem l125_8_ok {E : Xe} {R : Nat → Nat → Option Nat} {P : Nat} {o : Outcome} {w : Wd} {T : (St) → Prop} (hP : P = 3 ∨ P = 18) (h68_6 : R 68 6 = some P) (K : ∀ (q : St) (e2 : Value) (_ : is1 e2 = true) (e3 : Value) (_ : is1 e3 = true) (e4 : Value) (_ : is1 e4 = true), T q → Rn E 125 (167, [.ref 68, .ref P, e2, e3, e4], [], wT q R) o w) : ∀ (n : Nat) (b3 : Int32) (d2 : Value) (d4 : Value) (I : St), is1 d2 = true → is1 d4 = true → Dq (l125_8 P n b3 I) T → Rn E 125 (8, [.ref 68, .ref P, d2, .int b3, d4], [], wT I R) o w := by
  rcases hP with rfl | rfl
  · intro n
    induction n with
    | zero => intro b3 d2 d4 I hd2 hd4; exact D.none
    | succ n ih =>
      intro b3 d2 d4 I hd2 hd4
      rw [l125_8]
      refine D.run 2 rfl ?_
      refine D.br rfl (by decide) rfl (fun hc => ?_) (fun hc => ?_)
      · exact fun h => D.to h (K _ _ (by first | rfl | assumption) _ (by first | rfl | assumption) _ (by first | rfl | assumption))
      · refine D.run 3 rfl ?_
        refine D.br rfl (by decide) rfl (fun hc => ?_) (fun hc => ?_)
        · refine D.run 3 rfl ?_
          refine D.br rfl (by decide) rfl (fun hc => ?_) (fun hc => ?_)
          · refine D.run 1 rfl ?_
            refine D.st rfl (by decide) (gf_1 h68_6) ?_
            refine D.run 4 rfl ?_
            refine D.ce rfl rfl rfl rfl (tget_ok (by decide) (by first | rfl | decide) _ _) ?_
            refine D.run 12 rfl ?_
            refine D.st rfl (by decide) (gf_1 h68_6) ?_
            show _ → Rn E 125 (78, [.ref 68, .ref 3, d2, .int b3, .int ((tget I (3 + 7) (I 68 8) 5) + (I 68 9))], [.ref 3, .ref 68], wT (up2 I 68 10 ((I 68 9) + 1)) R) o w
            refine D.run 3 rfl ?_
            refine D.ce rfl rfl rfl rfl (tget_ok (by decide) (by first | rfl | decide) _ _) ?_
            refine D.run 1 rfl ?_
            refine D.st rfl (by decide) (gf_1 h68_6) ?_
            refine D.run 3 rfl ?_
            refine D.ce rfl rfl rfl rfl (tget_ok (by decide) (by first | rfl | decide) _ _) ?_
            show _ → Rn E 125 (100, [.ref 68, .ref 3, d2, .int b3, .int ((tget I (3 + 7) (I 68 8) 5) + (I 68 9))], [.int (tget (up2 I 68 10 ((I 68 9) + 1)) (3 + 9) ((tget I (3 + 7) (I 68 8) 5) + (I 68 9)) 1), .int (tget (up2 I 68 10 ((I 68 9) + 1)) (3 + 9) ((tget I (3 + 7) (I 68 8) 5) + (I 68 9)) 0), .ref 68], wT (up2 I 68 10 ((I 68 9) + 1)) R) o w
            refine D.run 1 rfl ?_
            refine D.st rfl (by decide) (gf_1 h68_6) ?_
            refine D.run 3 rfl ?_
            refine D.ce rfl rfl rfl rfl (tget_ok (by decide) (by first | rfl | decide) _ _) ?_
            refine D.call rfl rfl rfl rfl (fun q h => x129_ok (by decide) h68_6 h) (fun q2 => ?_)
            show _ → Rn E 125 (116, [.ref 68, .ref 3, d2, .int b3, .int ((tget I (3 + 7) (I 68 8) 5) + (I 68 9))], [], wT q2 R) o w
            refine D.run 3 rfl ?_
            have Kj134 : ∀ (q3 : St), Dq (if (q3 68 12) = 0 then l125_8 3 n (b3 + 1) (up2 q3 68 9 (q3 68 10)) else if (q3 68 14) = (-1) then (x170 3 q3).bind fun q4 => l125_8 3 n (b3 + 1) (up2 q4 68 9 (q4 68 10)) else l125_8 3 n (b3 + 1) (up2 q3 68 9 (q3 68 10))) T → Rn E 125 (134, [.ref 68, .ref 3, d2, .int b3, .int ((tget I (3 + 7) (I 68 8) 5) + (I 68 9))], [], wT q3 R) o w := by
              intro q3
              refine D.run 2 rfl ?_
              refine D.br rfl (by decide) rfl (fun hc => ?_) (fun hc => ?_)
              · refine D.run 4 rfl ?_
                refine D.st rfl (by decide) (iinc_d rfl rfl (by first | rfl | assumption) rfl) ?_
                refine D.run 1 rfl ?_
                exact ih _ _ _ _ (by first | rfl | assumption) (by first | rfl | assumption)
              · refine D.run 3 rfl ?_
                refine D.br rfl (by decide) rfl (fun hc => ?_) (fun hc => ?_)
                · refine D.run 1 rfl ?_
                  refine D.call rfl rfl rfl rfl (fun q h => x170_ok (by decide) h68_6 h) (fun q4 => ?_)
                  refine D.run 4 rfl ?_
                  refine D.st rfl (by decide) (iinc_d rfl rfl (by first | rfl | assumption) rfl) ?_
                  refine D.run 1 rfl ?_
                  exact ih _ _ _ _ (by first | rfl | assumption) (by first | rfl | assumption)
                · refine D.run 4 rfl ?_
                  refine D.st rfl (by decide) (iinc_d rfl rfl (by first | rfl | assumption) rfl) ?_
                  refine D.run 1 rfl ?_
                  exact ih _ _ _ _ (by first | rfl | assumption) (by first | rfl | assumption)
            refine D.jn (fun T134 c134 => ?_)
            refine D.br rfl (by decide) rfl (fun hc => ?_) (fun hc => ?_)
            · exact fun h => Kj134 _   (c134 _ (D.some h))
            · refine D.run 6 rfl ?_
              exact fun h => Kj134 _   (c134 _ (D.some h))
          · refine D.run 4 rfl ?_
            exact fun h => D.to h (K _ _ (by first | rfl | assumption) _ (by first | rfl | assumption) _ (by first | rfl | assumption))
        · exact fun h => D.to h (K _ _ (by first | rfl | assumption) _ (by first | rfl | assumption) _ (by first | rfl | assumption))
  · intro n
    induction n with
    | zero => intro b3 d2 d4 I hd2 hd4; exact D.none
    | succ n ih =>
      intro b3 d2 d4 I hd2 hd4
      rw [l125_8]
      refine D.run 2 rfl ?_
      refine D.br rfl (by decide) rfl (fun hc => ?_) (fun hc => ?_)
      · exact fun h => D.to h (K _ _ (by first | rfl | assumption) _ (by first | rfl | assumption) _ (by first | rfl | assumption))
      · refine D.run 3 rfl ?_
        refine D.br rfl (by decide) rfl (fun hc => ?_) (fun hc => ?_)
        · refine D.run 3 rfl ?_
          refine D.br rfl (by decide) rfl (fun hc => ?_) (fun hc => ?_)
          · refine D.run 1 rfl ?_
            refine D.st rfl (by decide) (gf_1 h68_6) ?_
            refine D.run 4 rfl ?_
            refine D.ce rfl rfl rfl rfl (tget_ok (by decide) (by first | rfl | decide) _ _) ?_
            refine D.run 12 rfl ?_
            refine D.st rfl (by decide) (gf_1 h68_6) ?_
            show _ → Rn E 125 (78, [.ref 68, .ref 18, d2, .int b3, .int ((tget I (18 + 7) (I 68 8) 5) + (I 68 9))], [.ref 18, .ref 68], wT (up2 I 68 10 ((I 68 9) + 1)) R) o w
            refine D.run 3 rfl ?_
            refine D.ce rfl rfl rfl rfl (tget_ok (by decide) (by first | rfl | decide) _ _) ?_
            refine D.run 1 rfl ?_
            refine D.st rfl (by decide) (gf_1 h68_6) ?_
            refine D.run 3 rfl ?_
            refine D.ce rfl rfl rfl rfl (tget_ok (by decide) (by first | rfl | decide) _ _) ?_
            show _ → Rn E 125 (100, [.ref 68, .ref 18, d2, .int b3, .int ((tget I (18 + 7) (I 68 8) 5) + (I 68 9))], [.int (tget (up2 I 68 10 ((I 68 9) + 1)) (18 + 9) ((tget I (18 + 7) (I 68 8) 5) + (I 68 9)) 1), .int (tget (up2 I 68 10 ((I 68 9) + 1)) (18 + 9) ((tget I (18 + 7) (I 68 8) 5) + (I 68 9)) 0), .ref 68], wT (up2 I 68 10 ((I 68 9) + 1)) R) o w
            refine D.run 1 rfl ?_
            refine D.st rfl (by decide) (gf_1 h68_6) ?_
            refine D.run 3 rfl ?_
            refine D.ce rfl rfl rfl rfl (tget_ok (by decide) (by first | rfl | decide) _ _) ?_
            refine D.call rfl rfl rfl rfl (fun q h => x129_ok (by decide) h68_6 h) (fun q2 => ?_)
            show _ → Rn E 125 (116, [.ref 68, .ref 18, d2, .int b3, .int ((tget I (18 + 7) (I 68 8) 5) + (I 68 9))], [], wT q2 R) o w
            refine D.run 3 rfl ?_
            have Kj134 : ∀ (q3 : St), Dq (if (q3 68 12) = 0 then l125_8 18 n (b3 + 1) (up2 q3 68 9 (q3 68 10)) else if (q3 68 14) = (-1) then (x170 18 q3).bind fun q4 => l125_8 18 n (b3 + 1) (up2 q4 68 9 (q4 68 10)) else l125_8 18 n (b3 + 1) (up2 q3 68 9 (q3 68 10))) T → Rn E 125 (134, [.ref 68, .ref 18, d2, .int b3, .int ((tget I (18 + 7) (I 68 8) 5) + (I 68 9))], [], wT q3 R) o w := by
              intro q3
              refine D.run 2 rfl ?_
              refine D.br rfl (by decide) rfl (fun hc => ?_) (fun hc => ?_)
              · refine D.run 4 rfl ?_
                refine D.st rfl (by decide) (iinc_d rfl rfl (by first | rfl | assumption) rfl) ?_
                refine D.run 1 rfl ?_
                exact ih _ _ _ _ (by first | rfl | assumption) (by first | rfl | assumption)
              · refine D.run 3 rfl ?_
                refine D.br rfl (by decide) rfl (fun hc => ?_) (fun hc => ?_)
                · refine D.run 1 rfl ?_
                  refine D.call rfl rfl rfl rfl (fun q h => x170_ok (by decide) h68_6 h) (fun q4 => ?_)
                  refine D.run 4 rfl ?_
                  refine D.st rfl (by decide) (iinc_d rfl rfl (by first | rfl | assumption) rfl) ?_
                  refine D.run 1 rfl ?_
                  exact ih _ _ _ _ (by first | rfl | assumption) (by first | rfl | assumption)
                · refine D.run 4 rfl ?_
                  refine D.st rfl (by decide) (iinc_d rfl rfl (by first | rfl | assumption) rfl) ?_
                  refine D.run 1 rfl ?_
                  exact ih _ _ _ _ (by first | rfl | assumption) (by first | rfl | assumption)
            refine D.jn (fun T134 c134 => ?_)
            refine D.br rfl (by decide) rfl (fun hc => ?_) (fun hc => ?_)
            · exact fun h => Kj134 _   (c134 _ (D.some h))
            · refine D.run 6 rfl ?_
              exact fun h => Kj134 _   (c134 _ (D.some h))
          · refine D.run 4 rfl ?_
            exact fun h => D.to h (K _ _ (by first | rfl | assumption) _ (by first | rfl | assumption) _ (by first | rfl | assumption))
        · exact fun h => D.to h (K _ _ (by first | rfl | assumption) _ (by first | rfl | assumption) _ (by first | rfl | assumption))
def x125 (P : Nat) (I : St) (a2 : Int32) : Option (Int32 × St) := (x126 P I a2).bind fun q1 => (l125_8 P 100000 0 q1).bind fun q5 => if (q5 68 14) = 0 then some ((q5 68 14), (up2 (up2 q5 68 15 0) 68 16 0)) else if (q5 68 14) ≤ 3 then some ((q5 68 14), q5) else some ((q5 68 14), (up2 (up2 q5 68 15 0) 68 16 0))
set_option maxRecDepth 20000 in
set_option maxHeartbeats 30000000 in
theorem x125_D {E : Xe} {R : Nat → Nat → Option Nat} {P : Nat} {o : Outcome} {w : Wd} {T : (Int32 × St) → Prop} {I : St} (hP : P = 3 ∨ P = 18) (h68_6 : R 68 6 = some P) (a2 : Int32) (hT : ∀ r, T r → o = .returned (some (.int r.1)) ∧ w = wT r.2 (up2 R 68 6 (some P))) : Dq (x125 P I a2) T → Rn E 125 (0, loc0 125 [.ref 68, .ref P, .int a2], [], wT I R) o w := by
  unfold x125
  rcases hP with rfl | rfl
  all_goals
    refine D.run 3 rfl ?_
    refine D.call rfl rfl rfl rfl (fun q h => x126_ok (by decide) h68_6 h) (fun q1 => ?_)
    refine D.run 2 rfl ?_
    refine D.bind (l125_8_ok (by decide) rfl (fun q5 e6 he6 e7 he7 e8 he8 => ?_) 100000 _ _ _ _ (by first | rfl | assumption) (by first | rfl | assumption))
    refine D.run 2 rfl ?_
    refine D.br rfl (by decide) rfl (fun hc => ?_) (fun hc => ?_)
    · refine D.run 8 rfl ?_
      exact fun h => by obtain ⟨rfl, rfl⟩ := hT _ (D.some h); exact Rn.ret rfl rfl rfl
    · refine D.run 3 rfl ?_
      refine D.br rfl (by decide) rfl (fun hc => ?_) (fun hc => ?_)
      · refine D.run 2 rfl ?_
        exact fun h => by obtain ⟨rfl, rfl⟩ := hT _ (D.some h); exact Rn.ret rfl rfl rfl
      · refine D.run 8 rfl ?_
        exact fun h => by obtain ⟨rfl, rfl⟩ := hT _ (D.some h); exact Rn.ret rfl rfl rfl
set_option maxRecDepth 20000 in
set_option maxHeartbeats 30000000 in
theorem x125_ok {E : Xe} {R : Nat → Nat → Option Nat} {P : Nat} {I : St} (hP : P = 3 ∨ P = 18) (h68_6 : R 68 6 = some P) {a2 : Int32} {q : Int32 × St} (h : x125 P I a2 = some q) : Rn E 125 (0, loc0 125 [.ref 68, .ref P, .int a2], [], wT I R) (.returned (some (.int q.1))) (wT q.2 (up2 R 68 6 (some P))) := x125_D hP h68_6 _ (T := fun r => r = q) (by rintro r rfl; exact ⟨rfl, rfl⟩) ⟨_, h, rfl⟩
/-- TaintHouseModel.readClass()V -/
def l198_137 (Z : Nat) (b1 : Int32) : Nat → Int32 → St → Option ((St) ⊕ (St ⊕ (St)))
  | 0, _, _ => none
  | n + 1, b2, I => (x203 I 125).bind fun q9 => if q9 = 0 then (x199 I 1).bind fun q10 => if q10.1 = 0 then (x199 q10.2 2).bind fun q11 => if q11.1 = 0 then (x199 q11.2 3).bind fun q12 => if q12.1 = 0 then (x199 q12.2 4).bind fun q13 => if q13.1 = 0 then some (.inr (.inl (up2 q13.2 84 0 (q13.2 82 13)))) else if (q13.2 Z 8) = 24 then some (.inr (.inl (up2 q13.2 84 0 (q13.2 82 13)))) else (x199 q13.2 4).bind fun q14 => (x209 Z q14.2 b1 q14.1).bind (Sum.elim (fun J => some (.inr (.inl J))) (fun q15 => l198_137 Z b1 n b2 q15)) else if (q12.2 Z 8) = 24 then some (.inr (.inl (up2 q12.2 84 0 (q12.2 82 13)))) else (x199 q12.2 4).bind fun q16 => (x209 Z q16.2 b1 q16.1).bind (Sum.elim (fun J => some (.inr (.inl J))) (fun q17 => l198_137 Z b1 n b2 q17)) else if (q11.2 Z 6) = 16 then some (.inr (.inl (up2 q11.2 84 0 (q11.2 82 13)))) else (x208 Z q11.2 b1).bind (Sum.elim (fun J => some (.inr (.inl J))) (fun q18 => l198_137 Z b1 n b2 q18)) else if b2 = 8 then some (.inr (.inl (up2 q10.2 84 0 (q10.2 82 13)))) else (x205 Z q10.2 b1).bind (Sum.elim (fun J => some (.inr (.inl J))) (fun q19 => l198_137 Z b1 n (b2 + 1) q19)) else some (.inl I)
set_option maxRecDepth 20000 in
set_option maxHeartbeats 30000000 in
theorem l198_137_ok {E : Xe} {R : Nat → Nat → Option Nat} {Z : Nat} {o : Outcome} {w : Wd} {T : ((St) ⊕ (St ⊕ (St))) → Prop} {b1 : Int32} (hZ : Z = 85 ∨ Z = 126) (h82_4 : R 82 4 = some Z) (hT : ∀ r, T (.inr (.inr r)) → o = .returned none ∧ w = wT r R) (hX : ∀ J, T (.inr (.inl J)) → o = .threw 84 ∧ w = wT J R) (K : ∀ (q : St) (e1 : Value) (_ : is1 e1 = true) (e2 : Value) (_ : is1 e2 = true), T (.inl q) → Rn E 198 (276, [.ref 82, e1, e2], [], wT q R) o w) : ∀ (n : Nat) (b2 : Int32) (I : St), Dq (l198_137 Z b1 n b2 I) T → Rn E 198 (137, [.ref 82, .int b1, .int b2], [], wT I R) o w := by
  rcases hZ with rfl | rfl
  all_goals
    intro n
    induction n with
    | zero => intro b2 I; exact D.none
    | succ n ih =>
      intro b2 I
      rw [l198_137]
      refine D.run 2 rfl ?_
      refine D.call rfl rfl rfl rfl (fun q h => x203_ok h) (fun q9 => ?_)
      refine D.br rfl (by decide) rfl (fun hc => ?_) (fun hc => ?_)
      · refine D.run 2 rfl ?_
        refine D.call rfl rfl rfl rfl (fun q h => x199_ok h) (fun q10 => ?_)
        refine D.br rfl (by decide) rfl (fun hc => ?_) (fun hc => ?_)
        · refine D.run 2 rfl ?_
          refine D.call rfl rfl rfl rfl (fun q h => x199_ok h) (fun q11 => ?_)
          refine D.br rfl (by decide) rfl (fun hc => ?_) (fun hc => ?_)
          · refine D.run 2 rfl ?_
            refine D.call rfl rfl rfl rfl (fun q h => x199_ok h) (fun q12 => ?_)
            refine D.br rfl (by decide) rfl (fun hc => ?_) (fun hc => ?_)
            · refine D.run 2 rfl ?_
              refine D.call rfl rfl rfl rfl (fun q h => x199_ok h) (fun q13 => ?_)
              refine D.br rfl (by decide) rfl (fun hc => ?_) (fun hc => ?_)
              · refine D.run 3 rfl ?_
                refine D.ce rfl rfl rfl rfl (fail_ok _) ?_
                exact fun h => by obtain ⟨rfl, rfl⟩ := hX _ (D.some h); exact Rn.thr rfl rfl rfl
              · refine D.run 1 rfl ?_
                refine D.st rfl (by decide) (gf_1 h82_4) ?_
                refine D.run 2 rfl ?_
                refine D.br rfl (by decide) rfl (fun hc => ?_) (fun hc => ?_)
                · refine D.run 3 rfl ?_
                  refine D.ce rfl rfl rfl rfl (fail_ok _) ?_
                  exact fun h => by obtain ⟨rfl, rfl⟩ := hX _ (D.some h); exact Rn.thr rfl rfl rfl
                · refine D.run 4 rfl ?_
                  refine D.call rfl rfl rfl rfl (fun q h => x199_ok h) (fun q14 => ?_)
                  refine D.ct rfl rfl rfl rfl rfl (fun q h => x209_ok (by decide) h82_4 h) (fun J h => x209_thr (by decide) h82_4 h) (fun J h => hX _ (D.some h)) (fun q15 => ?_)
                  refine D.run 1 rfl ?_
                  exact ih _ _ 
            · refine D.run 1 rfl ?_
              refine D.st rfl (by decide) (gf_1 h82_4) ?_
              refine D.run 2 rfl ?_
              refine D.br rfl (by decide) rfl (fun hc => ?_) (fun hc => ?_)
              · refine D.run 3 rfl ?_
                refine D.ce rfl rfl rfl rfl (fail_ok _) ?_
                exact fun h => by obtain ⟨rfl, rfl⟩ := hX _ (D.some h); exact Rn.thr rfl rfl rfl
              · refine D.run 4 rfl ?_
                refine D.call rfl rfl rfl rfl (fun q h => x199_ok h) (fun q16 => ?_)
                refine D.ct rfl rfl rfl rfl rfl (fun q h => x209_ok (by decide) h82_4 h) (fun J h => x209_thr (by decide) h82_4 h) (fun J h => hX _ (D.some h)) (fun q17 => ?_)
                refine D.run 1 rfl ?_
                exact ih _ _ 
          · refine D.run 1 rfl ?_
            refine D.st rfl (by decide) (gf_1 h82_4) ?_
            refine D.run 2 rfl ?_
            refine D.br rfl (by decide) rfl (fun hc => ?_) (fun hc => ?_)
            · refine D.run 3 rfl ?_
              refine D.ce rfl rfl rfl rfl (fail_ok _) ?_
              exact fun h => by obtain ⟨rfl, rfl⟩ := hX _ (D.some h); exact Rn.thr rfl rfl rfl
            · refine D.run 2 rfl ?_
              refine D.ct rfl rfl rfl rfl rfl (fun q h => x208_ok (by decide) h82_4 h) (fun J h => x208_thr (by decide) h82_4 h) (fun J h => hX _ (D.some h)) (fun q18 => ?_)
              refine D.run 1 rfl ?_
              exact ih _ _ 
        · refine D.run 2 rfl ?_
          refine D.br rfl (by decide) rfl (fun hc => ?_) (fun hc => ?_)
          · refine D.run 3 rfl ?_
            refine D.ce rfl rfl rfl rfl (fail_ok _) ?_
            exact fun h => by obtain ⟨rfl, rfl⟩ := hX _ (D.some h); exact Rn.thr rfl rfl rfl
          · refine D.run 3 rfl ?_
            refine D.ct rfl rfl rfl rfl rfl (fun q h => x205_ok (by decide) h82_4 h) (fun J h => x205_thr (by decide) h82_4 h) (fun J h => hX _ (D.some h)) (fun q19 => ?_)
            refine D.run 1 rfl ?_
            exact ih _ _ 
      · exact fun h => D.to h (K _ _ (by first | rfl | assumption) _ (by first | rfl | assumption))
def x198 (Z : Nat) (I : St) : Option (St ⊕ (St)) := (x199 I 0).bind fun q1 => if q1.1 = 0 then some (.inl (up2 q1.2 84 0 (q1.2 82 13))) else if (q1.2 Z 5) = 19 then some (.inl (up2 q1.2 84 0 (q1.2 82 13))) else (x192 q1.2).bind fun q2 => if inb (q2 Z 5) 19 then (x201 Z (up2 q2 (Z + 5) (q2 Z 5).toNatClampNeg (q2 82 13))).bind (Sum.elim (fun J => some (.inl J)) (fun q3 => if inb (q2 Z 5) 19 then if inb (q2 Z 5) 19 then (x203 (up2 (up2 q3.2 (Z + 4) (q2 Z 5).toNatClampNeg q3.1) (Z + 6) (q2 Z 5).toNatClampNeg (-1)) 58).bind fun q4 => (if q4 = 0 then some (.inr (up2 (up2 q3.2 (Z + 4) (q2 Z 5).toNatClampNeg q3.1) (Z + 6) (q2 Z 5).toNatClampNeg (-1))) else (x192 (up2 (up2 q3.2 (Z + 4) (q2 Z 5).toNatClampNeg q3.1) (Z + 6) (q2 Z 5).toNatClampNeg (-1))).bind fun q5 => if inb (q2 Z 5) 19 then (x201 Z (up2 q5 (Z + 7) (q2 Z 5).toNatClampNeg (q5 82 13))).bind (Sum.elim (fun J => some (.inl J)) (fun q6 => if inb (q2 Z 5) 19 then some (.inr (up2 q6.2 (Z + 6) (q2 Z 5).toNatClampNeg q6.1)) else none)) else none).bind (Sum.elim (fun J => some (.inl J)) (fun (q7 : St) => (x204 (up2 q7 Z 5 ((q7 Z 5) + 1)) 123).bind (Sum.elim (fun J => some (.inl J)) (fun q8 => (l198_137 Z (q2 Z 5) 100000 0 q8).bind (Sum.elim (fun q20 => (x192 q20).bind fun q23 => some (.inr q23)) (fun r => some r)))))) else none else none)) else none
set_option maxRecDepth 20000 in
set_option maxHeartbeats 30000000 in
theorem x198_D {E : Xe} {R : Nat → Nat → Option Nat} {Z : Nat} {o : Outcome} {w : Wd} {T : (St ⊕ (St)) → Prop} {I : St} (hZ : Z = 85 ∨ Z = 126) (h82_4 : R 82 4 = some Z) (hT : ∀ r, T (.inr r) → o = .returned none ∧ w = wT r R) (hX : ∀ J, T (.inl J) → o = .threw 84 ∧ w = wT J R) : Dq (x198 Z I) T → Rn E 198 (0, loc0 198 [.ref 82], [], wT I R) o w := by
  unfold x198
  rcases hZ with rfl | rfl
  · refine D.run 2 rfl ?_
    refine D.call rfl rfl rfl rfl (fun q h => x199_ok h) (fun q1 => ?_)
    refine D.br rfl (by decide) rfl (fun hc => ?_) (fun hc => ?_)
    · refine D.run 3 rfl ?_
      refine D.ce rfl rfl rfl rfl (fail_ok _) ?_
      exact fun h => by obtain ⟨rfl, rfl⟩ := hX _ (D.some h); exact Rn.thr rfl rfl rfl
    · refine D.run 1 rfl ?_
      refine D.st rfl (by decide) (gf_1 h82_4) ?_
      refine D.run 2 rfl ?_
      refine D.br rfl (by decide) rfl (fun hc => ?_) (fun hc => ?_)
      · refine D.run 3 rfl ?_
        refine D.ce rfl rfl rfl rfl (fail_ok _) ?_
        exact fun h => by obtain ⟨rfl, rfl⟩ := hX _ (D.some h); exact Rn.thr rfl rfl rfl
      · refine D.run 1 rfl ?_
        refine D.call rfl rfl rfl rfl (fun q h => x192_ok h) (fun q2 => ?_)
        refine D.run 1 rfl ?_
        refine D.st rfl (by decide) (gf_1 h82_4) ?_
        refine D.run 3 rfl ?_
        refine D.st rfl (by decide) (gf_1 h82_4) ?_
        show _ → Rn E 198 (45, [.ref 82, .int (q2 85 5), us], [.ref 85], wT q2 R) o w
        refine D.run 4 rfl ?_
        refine D.gd fun hg => ?_
        refine D.st rfl (by decide) (as_i (by decide) (by first | rfl | decide) hg.1 hg.2) ?_
        refine D.run 1 rfl ?_
        refine D.st rfl (by decide) (gf_1 h82_4) ?_
        show _ → Rn E 198 (58, [.ref 82, .int (q2 85 5), us], [.ref 85], wT (up2 q2 (85 + 5) (q2 85 5).toNatClampNeg (q2 82 13)) R) o w
        refine D.run 3 rfl ?_
        refine D.ct rfl rfl rfl rfl rfl (fun q h => x201_ok (by decide) h82_4 h) (fun J h => x201_thr (by decide) h82_4 h) (fun J h => hX _ (D.some h)) (fun q3 => ?_)
        refine D.gd fun hg => ?_
        refine D.st rfl (by decide) (as_i (by decide) (by first | rfl | decide) hg.1 hg.2) ?_
        refine D.run 1 rfl ?_
        refine D.st rfl (by decide) (gf_1 h82_4) ?_
        show _ → Rn E 198 (71, [.ref 82, .int (q2 85 5), us], [.ref 85], wT (up2 q3.2 (85 + 4) (q2 85 5).toNatClampNeg q3.1) R) o w
        refine D.run 3 rfl ?_
        refine D.gd fun hg => ?_
        refine D.st rfl (by decide) (as_i (by decide) (by first | rfl | decide) hg.1 hg.2) ?_
        refine D.run 2 rfl ?_
        refine D.call rfl rfl rfl rfl (fun q h => x203_ok h) (fun q4 => ?_)
        show _ → Rn E 198 (83, [.ref 82, .int (q2 85 5), us], [.int q4], wT (up2 (up2 q3.2 (85 + 4) (q2 85 5).toNatClampNeg q3.1) (85 + 6) (q2 85 5).toNatClampNeg (-1)) R) o w
        have Kj116 : ∀ (q7 : St), Dq ((x204 (up2 q7 85 5 ((q7 85 5) + 1)) 123).bind (Sum.elim (fun J => some (.inl J)) (fun q8 => (l198_137 85 (q2 85 5) 100000 0 q8).bind (Sum.elim (fun q20 => (x192 q20).bind fun q23 => some (.inr q23)) (fun r => some r))))) T → Rn E 198 (116, [.ref 82, .int (q2 85 5), us], [], wT q7 R) o w := by
          intro q7
          refine D.run 1 rfl ?_
          refine D.st rfl (by decide) (gf_1 h82_4) ?_
          refine D.run 7 rfl ?_
          refine D.ct rfl rfl rfl rfl rfl (fun q h => x204_ok h) (fun J h => x204_thr h) (fun J h => hX _ (D.some h)) (fun q8 => ?_)
          refine D.run 2 rfl ?_
          refine D.bind (l198_137_ok (by decide) h82_4 (fun r h => hT _ (D.some h)) (fun r h => hX _ (D.some h)) (fun q20 e21 he21 e22 he22 => ?_) 100000 _  _ )
          refine D.inl ?_
          refine D.run 1 rfl ?_
          refine D.call rfl rfl rfl rfl (fun q h => x192_ok h) (fun q23 => ?_)
          exact fun h => by obtain ⟨rfl, rfl⟩ := hT _ (D.some h); exact Rn.ret rfl rfl rfl
        refine D.jn (fun T116 c116 => ?_)
        refine D.br rfl (by decide) rfl (fun hc => ?_) (fun hc => ?_)
        · exact fun h => Kj116 _   (c116 _ (D.some h))
        · refine D.run 1 rfl ?_
          refine D.call rfl rfl rfl rfl (fun q h => x192_ok h) (fun q5 => ?_)
          refine D.run 1 rfl ?_
          refine D.st rfl (by decide) (gf_1 h82_4) ?_
          refine D.run 4 rfl ?_
          refine D.gd fun hg => ?_
          refine D.st rfl (by decide) (as_i (by decide) (by first | rfl | decide) hg.1 hg.2) ?_
          show _ → Rn E 198 (103, [.ref 82, .int (q2 85 5), us], [], wT (up2 q5 (85 + 7) (q2 85 5).toNatClampNeg (q5 82 13)) R) o w
          refine D.run 1 rfl ?_
          refine D.st rfl (by decide) (gf_1 h82_4) ?_
          refine D.run 3 rfl ?_
          refine D.ct rfl rfl rfl rfl rfl (fun q h => x201_ok (by decide) h82_4 h) (fun J h => x201_thr (by decide) h82_4 h) (fun J h => hX _ (D.some (c116 _ (D.some h)))) (fun q6 => ?_)
          refine D.gd fun hg => ?_
          refine D.st rfl (by decide) (as_i (by decide) (by first | rfl | decide) hg.1 hg.2) ?_
          exact fun h => Kj116 _   (c116 _ (D.some h))
  · refine D.run 2 rfl ?_
    refine D.call rfl rfl rfl rfl (fun q h => x199_ok h) (fun q1 => ?_)
    refine D.br rfl (by decide) rfl (fun hc => ?_) (fun hc => ?_)
    · refine D.run 3 rfl ?_
      refine D.ce rfl rfl rfl rfl (fail_ok _) ?_
      exact fun h => by obtain ⟨rfl, rfl⟩ := hX _ (D.some h); exact Rn.thr rfl rfl rfl
    · refine D.run 1 rfl ?_
      refine D.st rfl (by decide) (gf_1 h82_4) ?_
      refine D.run 2 rfl ?_
      refine D.br rfl (by decide) rfl (fun hc => ?_) (fun hc => ?_)
      · refine D.run 3 rfl ?_
        refine D.ce rfl rfl rfl rfl (fail_ok _) ?_
        exact fun h => by obtain ⟨rfl, rfl⟩ := hX _ (D.some h); exact Rn.thr rfl rfl rfl
      · refine D.run 1 rfl ?_
        refine D.call rfl rfl rfl rfl (fun q h => x192_ok h) (fun q2 => ?_)
        refine D.run 1 rfl ?_
        refine D.st rfl (by decide) (gf_1 h82_4) ?_
        refine D.run 3 rfl ?_
        refine D.st rfl (by decide) (gf_1 h82_4) ?_
        show _ → Rn E 198 (45, [.ref 82, .int (q2 126 5), us], [.ref 126], wT q2 R) o w
        refine D.run 4 rfl ?_
        refine D.gd fun hg => ?_
        refine D.st rfl (by decide) (as_i (by decide) (by first | rfl | decide) hg.1 hg.2) ?_
        refine D.run 1 rfl ?_
        refine D.st rfl (by decide) (gf_1 h82_4) ?_
        show _ → Rn E 198 (58, [.ref 82, .int (q2 126 5), us], [.ref 126], wT (up2 q2 (126 + 5) (q2 126 5).toNatClampNeg (q2 82 13)) R) o w
        refine D.run 3 rfl ?_
        refine D.ct rfl rfl rfl rfl rfl (fun q h => x201_ok (by decide) h82_4 h) (fun J h => x201_thr (by decide) h82_4 h) (fun J h => hX _ (D.some h)) (fun q3 => ?_)
        refine D.gd fun hg => ?_
        refine D.st rfl (by decide) (as_i (by decide) (by first | rfl | decide) hg.1 hg.2) ?_
        refine D.run 1 rfl ?_
        refine D.st rfl (by decide) (gf_1 h82_4) ?_
        show _ → Rn E 198 (71, [.ref 82, .int (q2 126 5), us], [.ref 126], wT (up2 q3.2 (126 + 4) (q2 126 5).toNatClampNeg q3.1) R) o w
        refine D.run 3 rfl ?_
        refine D.gd fun hg => ?_
        refine D.st rfl (by decide) (as_i (by decide) (by first | rfl | decide) hg.1 hg.2) ?_
        refine D.run 2 rfl ?_
        refine D.call rfl rfl rfl rfl (fun q h => x203_ok h) (fun q4 => ?_)
        show _ → Rn E 198 (83, [.ref 82, .int (q2 126 5), us], [.int q4], wT (up2 (up2 q3.2 (126 + 4) (q2 126 5).toNatClampNeg q3.1) (126 + 6) (q2 126 5).toNatClampNeg (-1)) R) o w
        have Kj116 : ∀ (q7 : St), Dq ((x204 (up2 q7 126 5 ((q7 126 5) + 1)) 123).bind (Sum.elim (fun J => some (.inl J)) (fun q8 => (l198_137 126 (q2 126 5) 100000 0 q8).bind (Sum.elim (fun q20 => (x192 q20).bind fun q23 => some (.inr q23)) (fun r => some r))))) T → Rn E 198 (116, [.ref 82, .int (q2 126 5), us], [], wT q7 R) o w := by
          intro q7
          refine D.run 1 rfl ?_
          refine D.st rfl (by decide) (gf_1 h82_4) ?_
          refine D.run 7 rfl ?_
          refine D.ct rfl rfl rfl rfl rfl (fun q h => x204_ok h) (fun J h => x204_thr h) (fun J h => hX _ (D.some h)) (fun q8 => ?_)
          refine D.run 2 rfl ?_
          refine D.bind (l198_137_ok (by decide) h82_4 (fun r h => hT _ (D.some h)) (fun r h => hX _ (D.some h)) (fun q20 e21 he21 e22 he22 => ?_) 100000 _  _ )
          refine D.inl ?_
          refine D.run 1 rfl ?_
          refine D.call rfl rfl rfl rfl (fun q h => x192_ok h) (fun q23 => ?_)
          exact fun h => by obtain ⟨rfl, rfl⟩ := hT _ (D.some h); exact Rn.ret rfl rfl rfl
        refine D.jn (fun T116 c116 => ?_)
        refine D.br rfl (by decide) rfl (fun hc => ?_) (fun hc => ?_)
        · exact fun h => Kj116 _   (c116 _ (D.some h))
        · refine D.run 1 rfl ?_
          refine D.call rfl rfl rfl rfl (fun q h => x192_ok h) (fun q5 => ?_)
          refine D.run 1 rfl ?_
          refine D.st rfl (by decide) (gf_1 h82_4) ?_
          refine D.run 4 rfl ?_
          refine D.gd fun hg => ?_
          refine D.st rfl (by decide) (as_i (by decide) (by first | rfl | decide) hg.1 hg.2) ?_
          show _ → Rn E 198 (103, [.ref 82, .int (q2 126 5), us], [], wT (up2 q5 (126 + 7) (q2 126 5).toNatClampNeg (q5 82 13)) R) o w
          refine D.run 1 rfl ?_
          refine D.st rfl (by decide) (gf_1 h82_4) ?_
          refine D.run 3 rfl ?_
          refine D.ct rfl rfl rfl rfl rfl (fun q h => x201_ok (by decide) h82_4 h) (fun J h => x201_thr (by decide) h82_4 h) (fun J h => hX _ (D.some (c116 _ (D.some h)))) (fun q6 => ?_)
          refine D.gd fun hg => ?_
          refine D.st rfl (by decide) (as_i (by decide) (by first | rfl | decide) hg.1 hg.2) ?_
          exact fun h => Kj116 _   (c116 _ (D.some h))
set_option maxRecDepth 20000 in
set_option maxHeartbeats 30000000 in
theorem x198_ok {E : Xe} {R : Nat → Nat → Option Nat} {Z : Nat} {I : St} (hZ : Z = 85 ∨ Z = 126) (h82_4 : R 82 4 = some Z) {q : St} (h : x198 Z I = some (.inr q)) : Rn E 198 (0, loc0 198 [.ref 82], [], wT I R) (.returned none) (wT q R) := x198_D hZ h82_4 (T := fun r => r = .inr q) (by rintro r h; cases h; exact ⟨rfl, rfl⟩) (by rintro J h; cases h) ⟨_, h, rfl⟩
set_option maxRecDepth 20000 in
set_option maxHeartbeats 30000000 in
theorem x198_thr {E : Xe} {R : Nat → Nat → Option Nat} {Z : Nat} {I : St} (hZ : Z = 85 ∨ Z = 126) (h82_4 : R 82 4 = some Z) {J : St} (h : x198 Z I = some (.inl J)) : Rn E 198 (0, loc0 198 [.ref 82], [], wT I R) (.threw 84) (wT J R) := x198_D hZ h82_4 (T := fun r => r = .inl J) (by rintro r h; cases h) (by rintro K h; cases h; exact ⟨rfl, rfl⟩) ⟨_, h, rfl⟩
/-- TaintHouseModel.code()V -/
def l225_2 (Z : Nat) : Nat → Int32 → St → Option (St)
  | 0, _, _ => none
  | n + 1, b1, I => if (I Z 8) ≤ b1 then some I else if (I 82 22) = 0 then (x226 Z I b1).bind fun q1 => l225_2 Z n (b1 + 1) q1 else some I
set_option maxRecDepth 20000 in
set_option maxHeartbeats 30000000 in
theorem l225_2_ok {E : Xe} {R : Nat → Nat → Option Nat} {Z : Nat} {o : Outcome} {w : Wd} {T : (St) → Prop} (hZ : Z = 85 ∨ Z = 126) (h82_4 : R 82 4 = some Z) (K : ∀ (q : St) (e1 : Value) (_ : is1 e1 = true), T q → Rn E 225 (31, [.ref 82, e1], [], wT q R) o w) : ∀ (n : Nat) (b1 : Int32) (I : St), Dq (l225_2 Z n b1 I) T → Rn E 225 (2, [.ref 82, .int b1], [], wT I R) o w := by
  rcases hZ with rfl | rfl
  all_goals
    intro n
    induction n with
    | zero => intro b1 I; exact D.none
    | succ n ih =>
      intro b1 I
      rw [l225_2]
      refine D.run 2 rfl ?_
      refine D.st rfl (by decide) (gf_1 h82_4) ?_
      refine D.run 1 rfl ?_
      refine D.br rfl (by decide) rfl (fun hc => ?_) (fun hc => ?_)
      · exact fun h => D.to h (K _ _ (by first | rfl | assumption))
      · refine D.run 2 rfl ?_
        refine D.br rfl (by decide) rfl (fun hc => ?_) (fun hc => ?_)
        · refine D.run 2 rfl ?_
          refine D.call rfl rfl rfl rfl (fun q h => x226_ok (by decide) h82_4 h) (fun q1 => ?_)
          refine D.run 2 rfl ?_
          exact ih _ _ 
        · exact fun h => D.to h (K _ _ (by first | rfl | assumption))
def x225 (Z : Nat) (I : St) : Option (St) := (l225_2 Z 100000 0 I).bind fun q2 => some q2
set_option maxRecDepth 20000 in
set_option maxHeartbeats 30000000 in
theorem x225_D {E : Xe} {R : Nat → Nat → Option Nat} {Z : Nat} {o : Outcome} {w : Wd} {T : (St) → Prop} {I : St} (hZ : Z = 85 ∨ Z = 126) (h82_4 : R 82 4 = some Z) (hT : ∀ r, T r → o = .returned none ∧ w = wT r R) : Dq (x225 Z I) T → Rn E 225 (0, loc0 225 [.ref 82], [], wT I R) o w := by
  unfold x225
  rcases hZ with rfl | rfl
  all_goals
    refine D.run 2 rfl ?_
    refine D.bind (l225_2_ok (by decide) h82_4 (fun q2 e3 he3 => ?_) 100000 _  _ )
    exact fun h => by obtain ⟨rfl, rfl⟩ := hT _ (D.some h); exact Rn.ret rfl rfl rfl
set_option maxRecDepth 20000 in
set_option maxHeartbeats 30000000 in
theorem x225_ok {E : Xe} {R : Nat → Nat → Option Nat} {Z : Nat} {I : St} (hZ : Z = 85 ∨ Z = 126) (h82_4 : R 82 4 = some Z) {q : St} (h : x225 Z I = some q) : Rn E 225 (0, loc0 225 [.ref 82], [], wT I R) (.returned none) (wT q R) := x225_D hZ h82_4 (T := fun r => r = q) (by rintro r rfl; exact ⟨rfl, rfl⟩) ⟨_, h, rfl⟩
/-- TaintHouseModel.run(I)I -/
def l237_65 (Q : Nat) (b1 : Int32) : Nat → Int32 → St → Option (St)
  | 0, _, _ => none
  | n + 1, b2, I => if 16 ≤ b2 then some I else if inb b2 16 then if inb b2 16 then l237_65 Q b1 n (b2 + 1) (up2 (up2 I 187 b2.toNatClampNeg 0) 188 b2.toNatClampNeg 0) else none else none
set_option maxRecDepth 20000 in
set_option maxHeartbeats 30000000 in
theorem l237_65_ok {E : Xe} {R : Nat → Nat → Option Nat} {Q : Nat} {o : Outcome} {w : Wd} {T : (St) → Prop} {b1 : Int32} (hQ : Q = 85 ∨ Q = 126) (h82_3 : R 82 3 = some Q) (K : ∀ (q : St) (e2 : Value) (_ : is1 e2 = true) (e3 : Value) (_ : is1 e3 = true) (e4 : Value) (_ : is1 e4 = true), T q → Rn E 237 (91, [.ref 82, .int b1, e2, e3, e4], [], wT q R) o w) : ∀ (n : Nat) (b2 : Int32) (d3 : Value) (d4 : Value) (I : St), is1 d3 = true → is1 d4 = true → Dq (l237_65 Q b1 n b2 I) T → Rn E 237 (65, [.ref 82, .int b1, .int b2, d3, d4], [], wT I R) o w := by
  rcases hQ with rfl | rfl
  all_goals
    intro n
    induction n with
    | zero => intro b2 d3 d4 I hd3 hd4; exact D.none
    | succ n ih =>
      intro b2 d3 d4 I hd3 hd4
      rw [l237_65]
      refine D.run 2 rfl ?_
      refine D.br rfl (by decide) rfl (fun hc => ?_) (fun hc => ?_)
      · exact fun h => D.to h (K _ _ (by first | rfl | assumption) _ (by first | rfl | assumption) _ (by first | rfl | assumption))
      · refine D.run 4 rfl ?_
        refine D.gd fun hg => ?_
        refine D.st rfl (by decide) (as_i (by decide) (by first | rfl | decide) hg.1 hg.2) ?_
        refine D.run 4 rfl ?_
        refine D.gd fun hg => ?_
        refine D.st rfl (by decide) (as_i (by decide) (by first | rfl | decide) hg.1 hg.2) ?_
        show _ → Rn E 237 (85, [.ref 82, .int b1, .int b2, d3, d4], [], wT (up2 (up2 I 187 b2.toNatClampNeg 0) 188 b2.toNatClampNeg 0) R) o w
        refine D.run 2 rfl ?_
        exact ih _ _ _ _ (by first | rfl | assumption) (by first | rfl | assumption)
def l237_145 (Q : Nat) (b2 : Int32) : Nat → Int32 → St → Option (St)
  | 0, _, _ => none
  | n + 1, b3, I => if 16 ≤ b3 then some I else (if b2 = 1 then if b3 = 0 then some 1 else if b3 < b2 then some 0 else if inb (I 82 63) 24 then if ((I (Q + 18) (I 82 63).toNatClampNeg) + b2) ≤ b3 then some 0 else if inb (I 82 63) 24 then if (((I (Q + 19) (I 82 63).toNatClampNeg) >>> ((b3 - b2) &&& 31)) &&& 1) = 1 then some 1 else some 0 else none else none else if b3 < b2 then some 0 else if inb (I 82 63) 24 then if ((I (Q + 18) (I 82 63).toNatClampNeg) + b2) ≤ b3 then some 0 else if inb (I 82 63) 24 then if (((I (Q + 19) (I 82 63).toNatClampNeg) >>> ((b3 - b2) &&& 31)) &&& 1) = 1 then some 1 else some 0 else none else none).bind fun (q8 : Int32) => (if 7 ≤ b3 then some 0 else if q8 = 0 then if inb b3 7 then some (I 169 b3.toNatClampNeg) else none else some 0).bind fun (q9 : Int32) => if inb b3 384 then if 7 ≤ b3 then if inb b3 384 then l237_145 Q b2 n (b3 + 1) (up2 (up2 I 196 b3.toNatClampNeg q9) 197 b3.toNatClampNeg 0) else none else if inb b3 7 then if inb b3 384 then Lt (up2 (up2 I 196 b3.toNatClampNeg q9) 197 b3.toNatClampNeg ((up2 I 196 b3.toNatClampNeg q9) 170 b3.toNatClampNeg)) fun J10 => l237_145 Q b2 n (b3 + 1) J10 else none else none else none
set_option maxRecDepth 20000 in
set_option maxHeartbeats 30000000 in
theorem l237_145_ok {E : Xe} {R : Nat → Nat → Option Nat} {Q : Nat} {o : Outcome} {w : Wd} {T : (St) → Prop} {b2 : Int32} (hQ : Q = 85 ∨ Q = 126) (h82_3 : R 82 3 = some Q) (K : ∀ (q : St) (e1 : Value) (_ : is1 e1 = true) (e2 : Value) (_ : is1 e2 = true) (e3 : Value) (_ : is1 e3 = true) (e4 : Value) (_ : is1 e4 = true), T q → Rn E 237 (267, [.ref 82, e1, e2, e3, e4], [], wT q R) o w) : ∀ (n : Nat) (b3 : Int32) (d1 : Value) (d4 : Value) (I : St), is1 d1 = true → is1 d4 = true → Dq (l237_145 Q b2 n b3 I) T → Rn E 237 (145, [.ref 82, d1, .int b2, .int b3, d4], [], wT I R) o w := by
  rcases hQ with rfl | rfl
  · intro n
    induction n with
    | zero => intro b3 d1 d4 I hd1 hd4; exact D.none
    | succ n ih =>
      intro b3 d1 d4 I hd1 hd4
      rw [l237_145]
      refine D.run 2 rfl ?_
      refine D.br rfl (by decide) rfl (fun hc => ?_) (fun hc => ?_)
      · exact fun h => D.to h (K _ _ (by first | rfl | assumption) _ (by first | rfl | assumption) _ (by first | rfl | assumption) _ (by first | rfl | assumption))
      · refine D.run 2 rfl ?_
        have Kj210 : ∀ (q8 : Int32), Dq ((if 7 ≤ b3 then some 0 else if q8 = 0 then if inb b3 7 then some (I 169 b3.toNatClampNeg) else none else some 0).bind fun (q9 : Int32) => if inb b3 384 then if 7 ≤ b3 then if inb b3 384 then l237_145 85 b2 n (b3 + 1) (up2 (up2 I 196 b3.toNatClampNeg q9) 197 b3.toNatClampNeg 0) else none else if inb b3 7 then if inb b3 384 then Lt (up2 (up2 I 196 b3.toNatClampNeg q9) 197 b3.toNatClampNeg ((up2 I 196 b3.toNatClampNeg q9) 170 b3.toNatClampNeg)) fun J10 => l237_145 85 b2 n (b3 + 1) J10 else none else none else none) T → Rn E 237 (210, [.ref 82, d1, .int b2, .int b3, d4], [.int q8], wT I R) o w := by
          intro q8
          refine D.run 6 rfl ?_
          have Kj238 : ∀ (q9 : Int32), Dq (if inb b3 384 then if 7 ≤ b3 then if inb b3 384 then l237_145 85 b2 n (b3 + 1) (up2 (up2 I 196 b3.toNatClampNeg q9) 197 b3.toNatClampNeg 0) else none else if inb b3 7 then if inb b3 384 then Lt (up2 (up2 I 196 b3.toNatClampNeg q9) 197 b3.toNatClampNeg ((up2 I 196 b3.toNatClampNeg q9) 170 b3.toNatClampNeg)) fun J10 => l237_145 85 b2 n (b3 + 1) J10 else none else none else none) T → Rn E 237 (238, [.ref 82, d1, .int b2, .int b3, .int q8], [.int q9, .int b3, .ref 196], wT I R) o w := by
            intro q9
            refine D.gd fun hg => ?_
            refine D.st rfl (by decide) (as_i (by decide) (by first | rfl | decide) hg.1 hg.2) ?_
            refine D.run 5 rfl ?_
            refine D.br rfl (by decide) rfl (fun hc => ?_) (fun hc => ?_)
            · refine D.run 1 rfl ?_
              refine D.gd fun hg => ?_
              refine D.st rfl (by decide) (as_i (by decide) (by first | rfl | decide) hg.1 hg.2) ?_
              refine D.run 2 rfl ?_
              exact ih _ _ _ _ (by first | rfl | assumption) (by first | rfl | assumption)
            · refine D.run 3 rfl ?_
              refine D.gd fun hg => ?_
              refine D.st rfl (by decide) (al_i (by decide) (by first | rfl | decide) hg.1 hg.2) ?_
              refine D.run 1 rfl ?_
              refine D.gd fun hg => ?_
              refine D.st rfl (by decide) (as_i (by decide) (by first | rfl | decide) hg.1 hg.2) ?_
              refine D.letS (fun J10 => ?_)
              show _ → Rn E 237 (261, [.ref 82, d1, .int b2, .int b3, .int q8], [], wT J10 R) o w
              refine D.run 2 rfl ?_
              exact ih _ _ _ _ (by first | rfl | assumption) (by first | rfl | assumption)
          refine D.jn (fun T238 c238 => ?_)
          refine D.br rfl (by decide) rfl (fun hc => ?_) (fun hc => ?_)
          · refine D.run 1 rfl ?_
            exact fun h => Kj238 _   (c238 _ (D.some h))
          · refine D.run 1 rfl ?_
            refine D.br rfl (by decide) rfl (fun hc => ?_) (fun hc => ?_)
            · refine D.run 3 rfl ?_
              refine D.gd fun hg => ?_
              refine D.st rfl (by decide) (al_i (by decide) (by first | rfl | decide) hg.1 hg.2) ?_
              refine D.run 1 rfl ?_
              exact fun h => Kj238 _   (c238 _ (D.some h))
            · refine D.run 1 rfl ?_
              exact fun h => Kj238 _   (c238 _ (D.some h))
        refine D.jn (fun T210 c210 => ?_)
        refine D.br rfl (by decide) rfl (fun hc => ?_) (fun hc => ?_)
        · refine D.run 1 rfl ?_
          refine D.br rfl (by decide) rfl (fun hc => ?_) (fun hc => ?_)
          · refine D.run 2 rfl ?_
            exact fun h => Kj210 _   (c210 _ (D.some h))
          · refine D.run 2 rfl ?_
            refine D.br rfl (by decide) rfl (fun hc => ?_) (fun hc => ?_)
            · refine D.run 1 rfl ?_
              exact fun h => Kj210 _   (c210 _ (D.some h))
            · refine D.run 2 rfl ?_
              refine D.st rfl (by decide) (gf_1 h82_3) ?_
              refine D.run 3 rfl ?_
              refine D.gd fun hg => ?_
              refine D.st rfl (by decide) (al_i (by decide) (by first | rfl | decide) hg.1 hg.2) ?_
              show _ → Rn E 237 (178, [.ref 82, d1, .int b2, .int b3, d4], [.int (I (85 + 18) (I 82 63).toNatClampNeg), .int b3], wT I R) o w
              refine D.run 2 rfl ?_
              refine D.br rfl (by decide) rfl (fun hc => ?_) (fun hc => ?_)
              · refine D.run 1 rfl ?_
                exact fun h => Kj210 _   (c210 _ (D.some h))
              · refine D.run 1 rfl ?_
                refine D.st rfl (by decide) (gf_1 h82_3) ?_
                refine D.run 3 rfl ?_
                refine D.gd fun hg => ?_
                refine D.st rfl (by decide) (al_i (by decide) (by first | rfl | decide) hg.1 hg.2) ?_
                show _ → Rn E 237 (195, [.ref 82, d1, .int b2, .int b3, d4], [.int (I (85 + 19) (I 82 63).toNatClampNeg)], wT I R) o w
                refine D.run 7 rfl ?_
                refine D.br rfl (by decide) rfl (fun hc => ?_) (fun hc => ?_)
                · refine D.run 2 rfl ?_
                  exact fun h => Kj210 _   (c210 _ (D.some h))
                · refine D.run 1 rfl ?_
                  exact fun h => Kj210 _   (c210 _ (D.some h))
        · refine D.run 2 rfl ?_
          refine D.br rfl (by decide) rfl (fun hc => ?_) (fun hc => ?_)
          · refine D.run 1 rfl ?_
            exact fun h => Kj210 _   (c210 _ (D.some h))
          · refine D.run 2 rfl ?_
            refine D.st rfl (by decide) (gf_1 h82_3) ?_
            refine D.run 3 rfl ?_
            refine D.gd fun hg => ?_
            refine D.st rfl (by decide) (al_i (by decide) (by first | rfl | decide) hg.1 hg.2) ?_
            show _ → Rn E 237 (178, [.ref 82, d1, .int b2, .int b3, d4], [.int (I (85 + 18) (I 82 63).toNatClampNeg), .int b3], wT I R) o w
            refine D.run 2 rfl ?_
            refine D.br rfl (by decide) rfl (fun hc => ?_) (fun hc => ?_)
            · refine D.run 1 rfl ?_
              exact fun h => Kj210 _   (c210 _ (D.some h))
            · refine D.run 1 rfl ?_
              refine D.st rfl (by decide) (gf_1 h82_3) ?_
              refine D.run 3 rfl ?_
              refine D.gd fun hg => ?_
              refine D.st rfl (by decide) (al_i (by decide) (by first | rfl | decide) hg.1 hg.2) ?_
              show _ → Rn E 237 (195, [.ref 82, d1, .int b2, .int b3, d4], [.int (I (85 + 19) (I 82 63).toNatClampNeg)], wT I R) o w
              refine D.run 7 rfl ?_
              refine D.br rfl (by decide) rfl (fun hc => ?_) (fun hc => ?_)
              · refine D.run 2 rfl ?_
                exact fun h => Kj210 _   (c210 _ (D.some h))
              · refine D.run 1 rfl ?_
                exact fun h => Kj210 _   (c210 _ (D.some h))
  · intro n
    induction n with
    | zero => intro b3 d1 d4 I hd1 hd4; exact D.none
    | succ n ih =>
      intro b3 d1 d4 I hd1 hd4
      rw [l237_145]
      refine D.run 2 rfl ?_
      refine D.br rfl (by decide) rfl (fun hc => ?_) (fun hc => ?_)
      · exact fun h => D.to h (K _ _ (by first | rfl | assumption) _ (by first | rfl | assumption) _ (by first | rfl | assumption) _ (by first | rfl | assumption))
      · refine D.run 2 rfl ?_
        have Kj210 : ∀ (q8 : Int32), Dq ((if 7 ≤ b3 then some 0 else if q8 = 0 then if inb b3 7 then some (I 169 b3.toNatClampNeg) else none else some 0).bind fun (q9 : Int32) => if inb b3 384 then if 7 ≤ b3 then if inb b3 384 then l237_145 126 b2 n (b3 + 1) (up2 (up2 I 196 b3.toNatClampNeg q9) 197 b3.toNatClampNeg 0) else none else if inb b3 7 then if inb b3 384 then Lt (up2 (up2 I 196 b3.toNatClampNeg q9) 197 b3.toNatClampNeg ((up2 I 196 b3.toNatClampNeg q9) 170 b3.toNatClampNeg)) fun J10 => l237_145 126 b2 n (b3 + 1) J10 else none else none else none) T → Rn E 237 (210, [.ref 82, d1, .int b2, .int b3, d4], [.int q8], wT I R) o w := by
          intro q8
          refine D.run 6 rfl ?_
          have Kj238 : ∀ (q9 : Int32), Dq (if inb b3 384 then if 7 ≤ b3 then if inb b3 384 then l237_145 126 b2 n (b3 + 1) (up2 (up2 I 196 b3.toNatClampNeg q9) 197 b3.toNatClampNeg 0) else none else if inb b3 7 then if inb b3 384 then Lt (up2 (up2 I 196 b3.toNatClampNeg q9) 197 b3.toNatClampNeg ((up2 I 196 b3.toNatClampNeg q9) 170 b3.toNatClampNeg)) fun J10 => l237_145 126 b2 n (b3 + 1) J10 else none else none else none) T → Rn E 237 (238, [.ref 82, d1, .int b2, .int b3, .int q8], [.int q9, .int b3, .ref 196], wT I R) o w := by
            intro q9
            refine D.gd fun hg => ?_
            refine D.st rfl (by decide) (as_i (by decide) (by first | rfl | decide) hg.1 hg.2) ?_
            refine D.run 5 rfl ?_
            refine D.br rfl (by decide) rfl (fun hc => ?_) (fun hc => ?_)
            · refine D.run 1 rfl ?_
              refine D.gd fun hg => ?_
              refine D.st rfl (by decide) (as_i (by decide) (by first | rfl | decide) hg.1 hg.2) ?_
              refine D.run 2 rfl ?_
              exact ih _ _ _ _ (by first | rfl | assumption) (by first | rfl | assumption)
            · refine D.run 3 rfl ?_
              refine D.gd fun hg => ?_
              refine D.st rfl (by decide) (al_i (by decide) (by first | rfl | decide) hg.1 hg.2) ?_
              refine D.run 1 rfl ?_
              refine D.gd fun hg => ?_
              refine D.st rfl (by decide) (as_i (by decide) (by first | rfl | decide) hg.1 hg.2) ?_
              refine D.letS (fun J10 => ?_)
              show _ → Rn E 237 (261, [.ref 82, d1, .int b2, .int b3, .int q8], [], wT J10 R) o w
              refine D.run 2 rfl ?_
              exact ih _ _ _ _ (by first | rfl | assumption) (by first | rfl | assumption)
          refine D.jn (fun T238 c238 => ?_)
          refine D.br rfl (by decide) rfl (fun hc => ?_) (fun hc => ?_)
          · refine D.run 1 rfl ?_
            exact fun h => Kj238 _   (c238 _ (D.some h))
          · refine D.run 1 rfl ?_
            refine D.br rfl (by decide) rfl (fun hc => ?_) (fun hc => ?_)
            · refine D.run 3 rfl ?_
              refine D.gd fun hg => ?_
              refine D.st rfl (by decide) (al_i (by decide) (by first | rfl | decide) hg.1 hg.2) ?_
              refine D.run 1 rfl ?_
              exact fun h => Kj238 _   (c238 _ (D.some h))
            · refine D.run 1 rfl ?_
              exact fun h => Kj238 _   (c238 _ (D.some h))
        refine D.jn (fun T210 c210 => ?_)
        refine D.br rfl (by decide) rfl (fun hc => ?_) (fun hc => ?_)
        · refine D.run 1 rfl ?_
          refine D.br rfl (by decide) rfl (fun hc => ?_) (fun hc => ?_)
          · refine D.run 2 rfl ?_
            exact fun h => Kj210 _   (c210 _ (D.some h))
          · refine D.run 2 rfl ?_
            refine D.br rfl (by decide) rfl (fun hc => ?_) (fun hc => ?_)
            · refine D.run 1 rfl ?_
              exact fun h => Kj210 _   (c210 _ (D.some h))
            · refine D.run 2 rfl ?_
              refine D.st rfl (by decide) (gf_1 h82_3) ?_
              refine D.run 3 rfl ?_
              refine D.gd fun hg => ?_
              refine D.st rfl (by decide) (al_i (by decide) (by first | rfl | decide) hg.1 hg.2) ?_
              show _ → Rn E 237 (178, [.ref 82, d1, .int b2, .int b3, d4], [.int (I (126 + 18) (I 82 63).toNatClampNeg), .int b3], wT I R) o w
              refine D.run 2 rfl ?_
              refine D.br rfl (by decide) rfl (fun hc => ?_) (fun hc => ?_)
              · refine D.run 1 rfl ?_
                exact fun h => Kj210 _   (c210 _ (D.some h))
              · refine D.run 1 rfl ?_
                refine D.st rfl (by decide) (gf_1 h82_3) ?_
                refine D.run 3 rfl ?_
                refine D.gd fun hg => ?_
                refine D.st rfl (by decide) (al_i (by decide) (by first | rfl | decide) hg.1 hg.2) ?_
                show _ → Rn E 237 (195, [.ref 82, d1, .int b2, .int b3, d4], [.int (I (126 + 19) (I 82 63).toNatClampNeg)], wT I R) o w
                refine D.run 7 rfl ?_
                refine D.br rfl (by decide) rfl (fun hc => ?_) (fun hc => ?_)
                · refine D.run 2 rfl ?_
                  exact fun h => Kj210 _   (c210 _ (D.some h))
                · refine D.run 1 rfl ?_
                  exact fun h => Kj210 _   (c210 _ (D.some h))
        · refine D.run 2 rfl ?_
          refine D.br rfl (by decide) rfl (fun hc => ?_) (fun hc => ?_)
          · refine D.run 1 rfl ?_
            exact fun h => Kj210 _   (c210 _ (D.some h))
          · refine D.run 2 rfl ?_
            refine D.st rfl (by decide) (gf_1 h82_3) ?_
            refine D.run 3 rfl ?_
            refine D.gd fun hg => ?_
            refine D.st rfl (by decide) (al_i (by decide) (by first | rfl | decide) hg.1 hg.2) ?_
            show _ → Rn E 237 (178, [.ref 82, d1, .int b2, .int b3, d4], [.int (I (126 + 18) (I 82 63).toNatClampNeg), .int b3], wT I R) o w
            refine D.run 2 rfl ?_
            refine D.br rfl (by decide) rfl (fun hc => ?_) (fun hc => ?_)
            · refine D.run 1 rfl ?_
              exact fun h => Kj210 _   (c210 _ (D.some h))
            · refine D.run 1 rfl ?_
              refine D.st rfl (by decide) (gf_1 h82_3) ?_
              refine D.run 3 rfl ?_
              refine D.gd fun hg => ?_
              refine D.st rfl (by decide) (al_i (by decide) (by first | rfl | decide) hg.1 hg.2) ?_
              show _ → Rn E 237 (195, [.ref 82, d1, .int b2, .int b3, d4], [.int (I (126 + 19) (I 82 63).toNatClampNeg)], wT I R) o w
              refine D.run 7 rfl ?_
              refine D.br rfl (by decide) rfl (fun hc => ?_) (fun hc => ?_)
              · refine D.run 2 rfl ?_
                exact fun h => Kj210 _   (c210 _ (D.some h))
              · refine D.run 1 rfl ?_
                exact fun h => Kj210 _   (c210 _ (D.some h))
def l237_272 (Q : Nat) : Nat → St → Option (St)
  | 0, _ => none
  | n + 1, I => if (I 82 34) = (-1) then if (I 82 37) = 20000 then l237_272 Q n (up2 I 82 34 4) else (x238 Q I).bind fun q16 => if 4 ≤ (q16 82 34) then l237_272 Q n q16 else l237_272 Q n (up2 q16 82 37 ((q16 82 37) + 1)) else some I
set_option maxRecDepth 20000 in
set_option maxHeartbeats 30000000 in
theorem l237_272_ok {E : Xe} {R : Nat → Nat → Option Nat} {Q : Nat} {o : Outcome} {w : Wd} {T : (St) → Prop} (hQ : Q = 85 ∨ Q = 126) (h82_3 : R 82 3 = some Q) (K : ∀ (q : St) (e1 : Value) (_ : is1 e1 = true) (e2 : Value) (_ : is1 e2 = true) (e3 : Value) (_ : is1 e3 = true) (e4 : Value) (_ : is1 e4 = true), T q → Rn E 237 (323, [.ref 82, e1, e2, e3, e4], [], wT q R) o w) : ∀ (n : Nat) (d1 : Value) (d2 : Value) (d3 : Value) (d4 : Value) (I : St), is1 d1 = true → is1 d2 = true → is1 d3 = true → is1 d4 = true → Dq (l237_272 Q n I) T → Rn E 237 (272, [.ref 82, d1, d2, d3, d4], [], wT I R) o w := by
  rcases hQ with rfl | rfl
  all_goals
    intro n
    induction n with
    | zero => intro d1 d2 d3 d4 I hd1 hd2 hd3 hd4; exact D.none
    | succ n ih =>
      intro d1 d2 d3 d4 I hd1 hd2 hd3 hd4
      rw [l237_272]
      refine D.run 3 rfl ?_
      refine D.br rfl (by decide) rfl (fun hc => ?_) (fun hc => ?_)
      · refine D.run 3 rfl ?_
        refine D.br rfl (by decide) rfl (fun hc => ?_) (fun hc => ?_)
        · refine D.run 4 rfl ?_
          exact ih _ _ _ _ _ (by first | rfl | assumption) (by first | rfl | assumption) (by first | rfl | assumption) (by first | rfl | assumption)
        · refine D.run 1 rfl ?_
          refine D.call rfl rfl rfl rfl (fun q h => x238_ok (by decide) h82_3 h) (fun q16 => ?_)
          refine D.run 3 rfl ?_
          refine D.br rfl (by decide) rfl (fun hc => ?_) (fun hc => ?_)
          · exact ih _ _ _ _ _ (by first | rfl | assumption) (by first | rfl | assumption) (by first | rfl | assumption) (by first | rfl | assumption)
          · refine D.run 7 rfl ?_
            exact ih _ _ _ _ _ (by first | rfl | assumption) (by first | rfl | assumption) (by first | rfl | assumption) (by first | rfl | assumption)
      · exact fun h => D.to h (K _ _ (by first | rfl | assumption) _ (by first | rfl | assumption) _ (by first | rfl | assumption) _ (by first | rfl | assumption))
def x237 (Q : Nat) (I : St) (a1 : Int32) : Option (Int32 × St) := if a1 < 0 then some ((-10), I) else if a1 < (I Q 8) then Lt (up2 (up2 (up2 (up2 (up2 (up2 (up2 I 82 33 1) 82 37 0) 82 38 0) 82 39 0) 82 40 0) 82 41 0) 82 48 0) fun J1 => (l237_65 Q a1 100000 0 (up2 (up2 J1 82 35 0) 82 36 0)).bind fun q2 => if inb a1 24 then Lt (up2 (up2 (up2 q2 82 55 0) 82 63 a1) 82 64 ((up2 (up2 q2 82 55 0) 82 63 a1) (Q + 21) a1.toNatClampNeg)) fun J6 => if inb (J6 82 63) 24 then (if ((up2 J6 82 65 0) (Q + 25) (J6 82 63).toNatClampNeg) = 0 then some 0 else some 1).bind fun (q7 : Int32) => (l237_145 Q q7 100000 0 (up2 J6 82 65 0)).bind fun q11 => (l237_272 Q 100000 (up2 q11 82 34 (-1))).bind fun q17 => some ((q17 82 34), q17) else none else none else some ((-10), I)
set_option maxRecDepth 20000 in
set_option maxHeartbeats 30000000 in
theorem x237_D {E : Xe} {R : Nat → Nat → Option Nat} {Q : Nat} {o : Outcome} {w : Wd} {T : (Int32 × St) → Prop} {I : St} (hQ : Q = 85 ∨ Q = 126) (h82_3 : R 82 3 = some Q) (a1 : Int32) (hT : ∀ r, T r → o = .returned (some (.int r.1)) ∧ w = wT r.2 R) : Dq (x237 Q I a1) T → Rn E 237 (0, loc0 237 [.ref 82, .int a1], [], wT I R) o w := by
  unfold x237
  rcases hQ with rfl | rfl
  · refine D.run 1 rfl ?_
    refine D.br rfl (by decide) rfl (fun hc => ?_) (fun hc => ?_)
    · refine D.run 1 rfl ?_
      exact fun h => by obtain ⟨rfl, rfl⟩ := hT _ (D.some h); exact Rn.ret rfl rfl rfl
    · refine D.run 2 rfl ?_
      refine D.st rfl (by decide) (gf_1 h82_3) ?_
      refine D.run 1 rfl ?_
      refine D.br rfl (by decide) rfl (fun hc => ?_) (fun hc => ?_)
      · refine D.run 21 rfl ?_
        refine D.letS (fun J1 => ?_)
        refine D.run 8 rfl ?_
        refine D.bind (l237_65_ok (by decide) h82_3 (fun q2 e3 he3 e4 he4 e5 he5 => ?_) 100000 _ _ _ _ (by first | rfl | assumption) (by first | rfl | assumption))
        refine D.run 8 rfl ?_
        refine D.st rfl (by decide) (gf_1 h82_3) ?_
        refine D.run 3 rfl ?_
        refine D.gd fun hg => ?_
        refine D.st rfl (by decide) (al_i (by decide) (by first | rfl | decide) hg.1 hg.2) ?_
        show _ → Rn E 237 (114, [.ref 82, .int a1, e3, e4, e5], [.int ((up2 (up2 q2 82 55 0) 82 63 a1) (85 + 21) a1.toNatClampNeg), .ref 82], wT (up2 (up2 q2 82 55 0) 82 63 a1) R) o w
        refine D.run 1 rfl ?_
        refine D.letS (fun J6 => ?_)
        refine D.run 4 rfl ?_
        refine D.st rfl (by decide) (gf_1 h82_3) ?_
        refine D.run 3 rfl ?_
        refine D.gd fun hg => ?_
        refine D.st rfl (by decide) (al_b (by decide) (by first | rfl | decide) hg.1 hg.2) ?_
        show _ → Rn E 237 (134, [.ref 82, .int a1, e3, e4, e5], [.int ((up2 J6 82 65 0) (85 + 25) (J6 82 63).toNatClampNeg)], wT (up2 J6 82 65 0) R) o w
        have Kj142 : ∀ (q7 : Int32), Dq ((l237_145 85 q7 100000 0 (up2 J6 82 65 0)).bind fun q11 => (l237_272 85 100000 (up2 q11 82 34 (-1))).bind fun q17 => some ((q17 82 34), q17)) T → Rn E 237 (142, [.ref 82, .int a1, e3, e4, e5], [.int q7], wT (up2 J6 82 65 0) R) o w := by
          intro q7
          refine D.run 3 rfl ?_
          refine D.bind (l237_145_ok (by decide) h82_3 (fun q11 e12 he12 e13 he13 e14 he14 e15 he15 => ?_) 100000 _ _ _ _ (by first | rfl | assumption) (by first | rfl | assumption))
          refine D.run 3 rfl ?_
          refine D.bind (l237_272_ok (by decide) h82_3 (fun q17 e18 he18 e19 he19 e20 he20 e21 he21 => ?_) 100000  _ _ _ _ _ (by first | rfl | assumption) (by first | rfl | assumption) (by first | rfl | assumption) (by first | rfl | assumption))
          refine D.run 2 rfl ?_
          exact fun h => by obtain ⟨rfl, rfl⟩ := hT _ (D.some h); exact Rn.ret rfl rfl rfl
        refine D.jn (fun T142 c142 => ?_)
        refine D.br rfl (by decide) rfl (fun hc => ?_) (fun hc => ?_)
        · refine D.run 1 rfl ?_
          exact fun h => Kj142 _   (c142 _ (D.some h))
        · refine D.run 2 rfl ?_
          exact fun h => Kj142 _   (c142 _ (D.some h))
      · refine D.run 1 rfl ?_
        exact fun h => by obtain ⟨rfl, rfl⟩ := hT _ (D.some h); exact Rn.ret rfl rfl rfl
  · refine D.run 1 rfl ?_
    refine D.br rfl (by decide) rfl (fun hc => ?_) (fun hc => ?_)
    · refine D.run 1 rfl ?_
      exact fun h => by obtain ⟨rfl, rfl⟩ := hT _ (D.some h); exact Rn.ret rfl rfl rfl
    · refine D.run 2 rfl ?_
      refine D.st rfl (by decide) (gf_1 h82_3) ?_
      refine D.run 1 rfl ?_
      refine D.br rfl (by decide) rfl (fun hc => ?_) (fun hc => ?_)
      · refine D.run 21 rfl ?_
        refine D.letS (fun J1 => ?_)
        refine D.run 8 rfl ?_
        refine D.bind (l237_65_ok (by decide) h82_3 (fun q2 e3 he3 e4 he4 e5 he5 => ?_) 100000 _ _ _ _ (by first | rfl | assumption) (by first | rfl | assumption))
        refine D.run 8 rfl ?_
        refine D.st rfl (by decide) (gf_1 h82_3) ?_
        refine D.run 3 rfl ?_
        refine D.gd fun hg => ?_
        refine D.st rfl (by decide) (al_i (by decide) (by first | rfl | decide) hg.1 hg.2) ?_
        show _ → Rn E 237 (114, [.ref 82, .int a1, e3, e4, e5], [.int ((up2 (up2 q2 82 55 0) 82 63 a1) (126 + 21) a1.toNatClampNeg), .ref 82], wT (up2 (up2 q2 82 55 0) 82 63 a1) R) o w
        refine D.run 1 rfl ?_
        refine D.letS (fun J6 => ?_)
        refine D.run 4 rfl ?_
        refine D.st rfl (by decide) (gf_1 h82_3) ?_
        refine D.run 3 rfl ?_
        refine D.gd fun hg => ?_
        refine D.st rfl (by decide) (al_b (by decide) (by first | rfl | decide) hg.1 hg.2) ?_
        show _ → Rn E 237 (134, [.ref 82, .int a1, e3, e4, e5], [.int ((up2 J6 82 65 0) (126 + 25) (J6 82 63).toNatClampNeg)], wT (up2 J6 82 65 0) R) o w
        have Kj142 : ∀ (q7 : Int32), Dq ((l237_145 126 q7 100000 0 (up2 J6 82 65 0)).bind fun q11 => (l237_272 126 100000 (up2 q11 82 34 (-1))).bind fun q17 => some ((q17 82 34), q17)) T → Rn E 237 (142, [.ref 82, .int a1, e3, e4, e5], [.int q7], wT (up2 J6 82 65 0) R) o w := by
          intro q7
          refine D.run 3 rfl ?_
          refine D.bind (l237_145_ok (by decide) h82_3 (fun q11 e12 he12 e13 he13 e14 he14 e15 he15 => ?_) 100000 _ _ _ _ (by first | rfl | assumption) (by first | rfl | assumption))
          refine D.run 3 rfl ?_
          refine D.bind (l237_272_ok (by decide) h82_3 (fun q17 e18 he18 e19 he19 e20 he20 e21 he21 => ?_) 100000  _ _ _ _ _ (by first | rfl | assumption) (by first | rfl | assumption) (by first | rfl | assumption) (by first | rfl | assumption))
          refine D.run 2 rfl ?_
          exact fun h => by obtain ⟨rfl, rfl⟩ := hT _ (D.some h); exact Rn.ret rfl rfl rfl
        refine D.jn (fun T142 c142 => ?_)
        refine D.br rfl (by decide) rfl (fun hc => ?_) (fun hc => ?_)
        · refine D.run 1 rfl ?_
          exact fun h => Kj142 _   (c142 _ (D.some h))
        · refine D.run 2 rfl ?_
          exact fun h => Kj142 _   (c142 _ (D.some h))
      · refine D.run 1 rfl ?_
        exact fun h => by obtain ⟨rfl, rfl⟩ := hT _ (D.some h); exact Rn.ret rfl rfl rfl
set_option maxRecDepth 20000 in
set_option maxHeartbeats 30000000 in
theorem x237_ok {E : Xe} {R : Nat → Nat → Option Nat} {Q : Nat} {I : St} (hQ : Q = 85 ∨ Q = 126) (h82_3 : R 82 3 = some Q) {a1 : Int32} {q : Int32 × St} (h : x237 Q I a1 = some q) : Rn E 237 (0, loc0 237 [.ref 82, .int a1], [], wT I R) (.returned (some (.int q.1))) (wT q.2 R) := x237_D hQ h82_3 _ (T := fun r => r = q) (by rintro r rfl; exact ⟨rfl, rfl⟩) ⟨_, h, rfl⟩
/-- TaintHouse$Verifier.check(LTaintHouse$Program;)I -/
def l97_12 (P : Nat) : Nat → Int32 → St → Option (St)
  | 0, _, _ => none
  | n + 1, b2, I => if (I (P + 7) 3) ≤ b2 then some I else if (I 58 6) = (-1) then (x98 P I b2).bind fun q1 => l97_12 P n (b2 + 1) q1 else some I
set_option maxRecDepth 20000 in
set_option maxHeartbeats 30000000 in
theorem l97_12_ok {E : Xe} {R : Nat → Nat → Option Nat} {P : Nat} {o : Outcome} {w : Wd} {T : (St) → Prop} (hP : P = 3 ∨ P = 18) (h58_2 : R 58 2 = some P) (K : ∀ (q : St) (e2 : Value) (_ : is1 e2 = true), T q → Rn E 97 (45, [.ref 58, .ref P, e2], [], wT q R) o w) : ∀ (n : Nat) (b2 : Int32) (I : St), Dq (l97_12 P n b2 I) T → Rn E 97 (12, [.ref 58, .ref P, .int b2], [], wT I R) o w := by
  rcases hP with rfl | rfl
  all_goals
    intro n
    induction n with
    | zero => intro b2 I; exact D.none
    | succ n ih =>
      intro b2 I
      rw [l97_12]
      refine D.run 2 rfl ?_
      refine D.st rfl (by decide) (gf_1 h58_2) ?_
      refine D.run 1 rfl ?_
      refine D.ce rfl rfl rfl rfl (tsize_ok (by decide) (by first | rfl | decide)) ?_
      refine D.br rfl (by decide) rfl (fun hc => ?_) (fun hc => ?_)
      · exact fun h => D.to h (K _ _ (by first | rfl | assumption))
      · refine D.run 3 rfl ?_
        refine D.br rfl (by decide) rfl (fun hc => ?_) (fun hc => ?_)
        · refine D.run 2 rfl ?_
          refine D.call rfl rfl rfl rfl (fun q h => x98_ok (by decide) h58_2 h) (fun q1 => ?_)
          refine D.run 2 rfl ?_
          exact ih _ _ 
        · exact fun h => D.to h (K _ _ (by first | rfl | assumption))
def x97 (P : Nat) (I : St) : Option (Int32 × St) := (l97_12 P 100000 0 (up2 I 58 6 (-1))).bind fun q2 => some ((q2 58 6), q2)
set_option maxRecDepth 20000 in
set_option maxHeartbeats 30000000 in
theorem x97_D {E : Xe} {R : Nat → Nat → Option Nat} {P : Nat} {o : Outcome} {w : Wd} {T : (Int32 × St) → Prop} {I : St} (hP : P = 3 ∨ P = 18) (h58_2 : R 58 2 = some P) (hT : ∀ r, T r → o = .returned (some (.int r.1)) ∧ w = wT r.2 (up2 R 58 2 (some P))) : Dq (x97 P I) T → Rn E 97 (0, loc0 97 [.ref 58, .ref P], [], wT I R) o w := by
  unfold x97
  rcases hP with rfl | rfl
  all_goals
    refine D.run 8 rfl ?_
    refine D.bind (l97_12_ok (by decide) rfl (fun q2 e3 he3 => ?_) 100000 _  _ )
    refine D.run 2 rfl ?_
    exact fun h => by obtain ⟨rfl, rfl⟩ := hT _ (D.some h); exact Rn.ret rfl rfl rfl
set_option maxRecDepth 20000 in
set_option maxHeartbeats 30000000 in
theorem x97_ok {E : Xe} {R : Nat → Nat → Option Nat} {P : Nat} {I : St} (hP : P = 3 ∨ P = 18) (h58_2 : R 58 2 = some P) {q : Int32 × St} (h : x97 P I = some q) : Rn E 97 (0, loc0 97 [.ref 58, .ref P], [], wT I R) (.returned (some (.int q.1))) (wT q.2 (up2 R 58 2 (some P))) := x97_D hP h58_2 (T := fun r => r = q) (by rintro r rfl; exact ⟨rfl, rfl⟩) ⟨_, h, rfl⟩
