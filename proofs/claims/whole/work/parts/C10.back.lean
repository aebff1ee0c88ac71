/-! RUNS, taken back; the calls that set a program -/
section
variable {E : Xe} {R : Nat → Nat → Option Nat} {o : Outcome} {w w1 w2 : Wd} {m : Nat}
theorem Rn.unst {pc : Nat} {ls st : List Value} {e : En} {g : Fr} (hc : (cdO m)[pc]? = some e) (hn : ¬ (isRt e.1 || (isCl e.1 || isAt e.1)) = true) (h : st1 E e pc ls st w = some g) (K : Rn E m (pc, ls, st, w) o w1) : Rn E m g o w1 := by
  obtain ⟨f, K⟩ := K
  cases f with
  | zero => rw [ex] at K; cases K
  | succ f =>
    refine ⟨f, ?_⟩
    rw [ex_some hc] at K
    simp only [Bool.or_eq_true, not_or] at hn
    unfold exB at K
    rw [if_neg hn.1, if_neg hn.2.1] at K
    split at K
    · rename_i h1
      rw [h1] at hn
      exact absurd rfl hn.2.2
    · rw [h] at K
      exact K
theorem Rn.unrun : ∀ (n : Nat) {fr g : Fr}, sN E m n fr = some g → Rn E m fr o w1 → Rn E m g o w1 := by
  intro n
  induction n with
  | zero => intro fr g h K; cases h; exact K
  | succ n ih =>
    intro fr g h K
    obtain ⟨pc, ls, st, w⟩ := fr
    unfold sN at h
    split at h
    · rename_i e hc
      split at h
      · cases h
      · rename_i hn
        split at h
        · rename_i g' hg
          exact ih h (Rn.unst hc hn hg K)
        · cases h
    · cases h
theorem Rn.uncall {pc j : Nat} {ls st as r : List Value} {e : En} {v : Option Value} (hc : (cdO m)[pc]? = some e) (hn : isCl e.1 = true) (h6 : Nat.ble 6 e.2.2.2.2.1 = false) (h : cl1 e st w = some (j, as, r)) (hj : Rn E j (0, loc0 j as, [], w) (.returned v) w1) (K : Rn E m (pc, ls, st, w) o w2) : Rn E m (pc + 3, ls, v.toList ++ r, w1) o w2 := by
  obtain ⟨f, K⟩ := K
  cases f with
  | zero => rw [ex] at K; cases K
  | succ f =>
    refine ⟨f, ?_⟩
    rw [ex_some hc] at K
    unfold exB at K
    have hr : ¬ isRt e.1 = true := by
      intro z
      revert hn z
      cases e.1 <;> simp [isRt, isCl]
    rw [if_neg hr, if_pos hn, if_neg (by rw [h6]; decide), h] at K
    dsimp only at K
    cases hx : ex E f j (0, loc0 j as, [], w) with
    | none => rw [hx] at K; cases K
    | some q =>
      obtain ⟨oo, ww⟩ := q
      obtain ⟨e1, e2⟩ := Rn.one hj ⟨f, hx⟩
      subst e1
      subst e2
      rw [hx] at K
      exact K
theorem upR (R : Nat → Nat → Option Nat) (a b : Nat) (x : Option Nat) : up2 (up2 R a b x) a b x = up2 R a b x := by
  funext p q
  unfold up2
  split
  · split <;> rfl
  · rfl
theorem x53_any {P : Nat} {I : St} (hP : P = 3 ∨ P = 18) {q : Int32 × St} (h : x53 P I = some q) : Rn E 53 (0, loc0 53 [.ref 56, .ref P], [], wT I R) (.returned (some (.int q.1))) (wT q.2 (up2 R 56 2 (some P))) := by
  have h1 := x53_ok (E := E) (R := up2 R 56 2 (some P)) hP (up2_s _ _ _ _) h
  rcases hP with rfl | rfl
  · have h2 : Rn E 53 (0 + 1 + 1 + 3, loc0 53 [.ref 56, .ref 3], [], wT I (up2 (up2 R 56 2 (some 3)) 56 2 (some 3))) _ _ := Rn.unrun 3 rfl h1
    rw [upR] at h2
    exact Rn.run 3 rfl h2
  · have h2 : Rn E 53 (0 + 1 + 1 + 3, loc0 53 [.ref 56, .ref 18], [], wT I (up2 (up2 R 56 2 (some 18)) 56 2 (some 18))) _ _ := Rn.unrun 3 rfl h1
    rw [upR] at h2
    exact Rn.run 3 rfl h2
theorem x81_any {P : Nat} {I : St} (hP : P = 3 ∨ P = 18) {q : Int32 × St} (h : x81 P I = some q) : Rn E 81 (0, loc0 81 [.ref 57, .ref P], [], wT I R) (.returned (some (.int q.1))) (wT q.2 (up2 R 57 2 (some P))) := by
  have h1 := x81_ok (E := E) (R := up2 R 57 2 (some P)) hP (up2_s _ _ _ _) h
  rcases hP with rfl | rfl
  · have h2 : Rn E 81 (0 + 1 + 1 + 3, loc0 81 [.ref 57, .ref 3], [], wT I (up2 (up2 R 57 2 (some 3)) 57 2 (some 3))) _ _ := Rn.unrun 3 rfl h1
    rw [upR] at h2
    exact Rn.run 3 rfl h2
  · have h2 : Rn E 81 (0 + 1 + 1 + 3, loc0 81 [.ref 57, .ref 18], [], wT I (up2 (up2 R 57 2 (some 18)) 57 2 (some 18))) _ _ := Rn.unrun 3 rfl h1
    rw [upR] at h2
    exact Rn.run 3 rfl h2
theorem x97_any {P : Nat} {I : St} (hP : P = 3 ∨ P = 18) {q : Int32 × St} (h : x97 P I = some q) : Rn E 97 (0, loc0 97 [.ref 58, .ref P], [], wT I R) (.returned (some (.int q.1))) (wT q.2 (up2 R 58 2 (some P))) := by
  have h1 := x97_ok (E := E) (R := up2 R 58 2 (some P)) hP (up2_s _ _ _ _) h
  rcases hP with rfl | rfl
  · have h2 : Rn E 97 (0 + 1 + 1 + 3, loc0 97 [.ref 58, .ref 3], [], wT I (up2 (up2 R 58 2 (some 3)) 58 2 (some 3))) _ _ := Rn.unrun 3 rfl h1
    rw [upR] at h2
    exact Rn.run 3 rfl h2
  · have h2 : Rn E 97 (0 + 1 + 1 + 3, loc0 97 [.ref 58, .ref 18], [], wT I (up2 (up2 R 58 2 (some 18)) 58 2 (some 18))) _ _ := Rn.unrun 3 rfl h1
    rw [upR] at h2
    exact Rn.run 3 rfl h2
theorem x126_any {P : Nat} {I : St} (hP : P = 3 ∨ P = 18) {a : Int32} {q : St} (h : x126 P I a = some q) : Rn E 126 (0, loc0 126 [.ref 68, .ref P, .int a], [], wT I R) (.returned none) (wT q (up2 R 68 6 (some P))) := by
  have h1 := x126_ok (E := E) (R := up2 R 68 6 (some P)) hP (up2_s _ _ _ _) h
  rcases hP with rfl | rfl
  · have h2 : Rn E 126 (0 + 1 + 1 + 3, loc0 126 [.ref 68, .ref 3, .int a], [], wT I (up2 (up2 R 68 6 (some 3)) 68 6 (some 3))) _ _ := Rn.unrun 3 rfl h1
    rw [upR] at h2
    exact Rn.run 3 rfl h2
  · have h2 : Rn E 126 (0 + 1 + 1 + 3, loc0 126 [.ref 68, .ref 18, .int a], [], wT I (up2 (up2 R 68 6 (some 18)) 68 6 (some 18))) _ _ := Rn.unrun 3 rfl h1
    rw [upR] at h2
    exact Rn.run 3 rfl h2
theorem x125_any {P : Nat} {I : St} (hP : P = 3 ∨ P = 18) {a : Int32} {q : Int32 × St} (h : x125 P I a = some q) : Rn E 125 (0, loc0 125 [.ref 68, .ref P, .int a], [], wT I R) (.returned (some (.int q.1))) (wT q.2 (up2 R 68 6 (some P))) := by
  have h1 := x125_ok (E := E) (R := up2 R 68 6 (some P)) hP (up2_s _ _ _ _) h
  obtain ⟨q1, e1, -⟩ : ∃ q1, x126 P I a = some q1 ∧ True := by
    unfold x125 at h
    obtain ⟨q1, w1, -⟩ := Option.bind_eq_some_iff.mp h
    exact ⟨q1, w1, trivial⟩
  have b1 := x126_any (E := E) (R := up2 R 68 6 (some P)) hP e1
  have b2 := x126_any (E := E) (R := R) hP e1
  rw [upR] at h1 b1
  rcases hP with rfl | rfl
  · have h2 := Rn.unrun 3 (g := _) rfl h1
    have h3 := Rn.uncall rfl rfl rfl rfl b1 h2
    exact Rn.run 3 rfl (Rn.call rfl rfl rfl rfl b2 h3)
  · have h2 := Rn.unrun 3 (g := _) rfl h1
    have h3 := Rn.uncall rfl rfl rfl rfl b1 h2
    exact Rn.run 3 rfl (Rn.call rfl rfl rfl rfl b2 h3)
/-- run() of the class: no such method; a method -/
theorem x123_n {P : Nat} {I : St} {a : Int32} (hP : P = 3 ∨ P = 18) (h8 : R 0 8 = some P) (h : thol I (P + 7) a = 0) : Rn E 123 (0, loc0 123 [.ref 0, .int a], [], wT I R) (.returned (some (.int (-10)))) (wT I R) := by
  rcases hP with rfl | rfl
  all_goals
    refine Rn.run 1 rfl ?_
    refine Rn.st rfl (by decide) (gf_1 h8) ?_
    refine Rn.run 2 rfl ?_
    refine Rn.call rfl rfl rfl rfl (tholds_ok (by decide) (by first | rfl | decide) a) ?_
    refine Rn.br rfl (by decide) rfl (fun hc => ?_) (fun hc => ?_)
    · refine Rn.run 1 rfl ?_
      exact Rn.ret rfl rfl rfl
    · exact absurd h hc
theorem x123_y {P : Nat} {I : St} {a : Int32} (hP : P = 3 ∨ P = 18) (h8 : R 0 8 = some P) (h : thol I (P + 7) a = 1) {q : Int32 × St} (hq : x125 P I a = some q) : Rn E 123 (0, loc0 123 [.ref 0, .int a], [], wT I R) (.returned (some (.int q.1))) (wT q.2 (up2 R 68 6 (some P))) := by
  have hx := x125_any (E := E) (R := R) hP hq
  rcases hP with rfl | rfl
  all_goals
    refine Rn.run 1 rfl ?_
    refine Rn.st rfl (by decide) (gf_1 h8) ?_
    refine Rn.run 2 rfl ?_
    refine Rn.call rfl rfl rfl rfl (tholds_ok (by decide) (by first | rfl | decide) a) ?_
    refine Rn.br rfl (by decide) rfl (fun hc => ?_) (fun hc => ?_)
    · exact absurd (h.symm.trans hc) (by decide)
    · refine Rn.run 3 rfl ?_
      refine Rn.st rfl (by decide) (gf_1 h8) ?_
      refine Rn.run 1 rfl ?_
      refine Rn.call rfl rfl rfl rfl hx ?_
      exact Rn.ret rfl rfl rfl
end
