/-! text(): both methods -/
section
variable {E : Xe} {R : Nat → Nat → Option Nat} {o : Outcome} {w w1 w2 : Wd} {m : Nat}
theorem Rn.callC {pc j k h : Nat} {ls st as r : List Value} {e : En} (hc : (cdO m)[pc]? = some e) (hn : isCl e.1 = true) (h6 : Nat.ble 6 e.2.2.2.2.1 = false) (hh : cl1 e st w = some (j, as, r)) (hk : (Nat.beq e.2.2.2.2.1 1 && Nat.blt k w1.1 && isR as) = true) (hd : hnd m pc k = some h) (hj : Rn E j (0, loc0 j as, [], w) (.threw k) w1) (K : Rn E m (h, ls, [.ref k], w1) o w2) : Rn E m (pc, ls, st, w) o w2 := by
  obtain ⟨f, K⟩ := K
  obtain ⟨g, hj⟩ := hj
  refine ⟨max f g + 1, ?_⟩
  rw [ex_some hc]
  unfold exB
  have hr : ¬ isRt e.1 = true := by
    intro z
    revert hn z
    cases e.1 <;> simp [isRt, isCl]
  rw [if_neg hr, if_pos hn, if_neg (by rw [h6]; decide), hh]
  dsimp only
  rw [ex_mono (Nat.le_max_right f g) hj]
  dsimp only
  rw [if_pos hk, hd]
  exact ex_mono (Nat.le_max_left f g) K
theorem Rn.atC {pc k h : Nat} {ls r : List Value} {e2 : Nat × Nat × Nat × Nat × Nat × Int32} (hc : (cdO m)[pc]? = some (.athrow, e2)) (hk : Nat.blt k w.1 = true) (hd : hnd m pc k = some h) (K : Rn E m (h, ls, [.ref k], w) o w2) : Rn E m (pc, ls, .ref k :: r, w) o w2 := by
  obtain ⟨f, K⟩ := K
  refine ⟨f + 1, ?_⟩
  rw [ex_some hc]
  unfold exB
  rw [if_neg (show ¬ isRt Instr.athrow = true by decide), if_neg (show ¬ isCl Instr.athrow = true by decide)]
  dsimp only
  rw [if_pos hk, hd]
  exact K
/-- the class's text(): WRONG -/
theorem x24_w {P : Nat} {I A1 A2 : St} {r : Int32} (hP : P = 3 ∨ P = 18) (h9 : R 0 9 = some P) (e25 : x25 I = some A1) (e53 : x53 P (up2 (tresize A1 1 0) 0 10 (-1)) = some (r, A2)) (hr : r ≠ -1) : Rn E 24 (0, loc0 24 [.ref 0], [], wT I R) (.returned (some (.int (-1 - r)))) (wT A2 (up2 R 56 2 (some P))) := by
  have hx := x53_any (E := E) (R := R) hP e53
  rcases hP with rfl | rfl
  all_goals
    refine Rn.run 2 rfl ?_
    refine Rn.call rfl rfl rfl rfl (x25_ok e25) ?_
    refine Rn.run 3 rfl ?_
    refine Rn.call rfl rfl rfl rfl (tresize_ok (by decide) (by first | rfl | decide) 0) ?_
    refine Rn.run 6 rfl ?_
    refine Rn.st rfl (by decide) (gf_1 h9) ?_
    refine Rn.call rfl rfl rfl rfl hx ?_
    refine Rn.run 3 rfl ?_
    refine Rn.br rfl (by decide) rfl (fun hc => ?_) (fun hc => ?_)
    · exact absurd hc hr
    · refine Rn.run 3 rfl ?_
      exact Rn.ret rfl rfl rfl
/-- .. a FAULT of the linker's -/
theorem x24_f {P : Nat} {I A1 A2 J : St} {r kd : Int32} (hr : r = -1) (hP : P = 3 ∨ P = 18) (h9 : R 0 9 = some P) (e25 : x25 I = some A1) (e53 : x53 P (up2 (tresize A1 1 0) 0 10 (-1)) = some (r, A2)) (e81 : x81 P A2 = some (kd, J)) (hk : kd ≠ 0) : Rn E 24 (0, loc0 24 [.ref 0], [], wT I R) (.returned (some (.int (-5000 - kd)))) (wT (up2 J 0 10 (J 57 4)) (up2 (up2 R 56 2 (some P)) 57 2 (some P))) := by
  have hx := x53_any (E := E) (R := R) hP e53
  have hy := x81_any (E := E) (R := up2 R 56 2 (some P)) hP e81
  rcases hP with rfl | rfl
  all_goals
    refine Rn.run 2 rfl ?_
    refine Rn.call rfl rfl rfl rfl (x25_ok e25) ?_
    refine Rn.run 3 rfl ?_
    refine Rn.call rfl rfl rfl rfl (tresize_ok (by decide) (by first | rfl | decide) 0) ?_
    refine Rn.run 6 rfl ?_
    refine Rn.st rfl (by decide) (gf_1 h9) ?_
    refine Rn.call rfl rfl rfl rfl hx ?_
    refine Rn.run 3 rfl ?_
    refine Rn.br rfl (by decide) rfl (fun hc => ?_) (fun hc => ?_)
    rotate_left
    · exact absurd hr hc
    refine Rn.run 3 rfl ?_
    refine Rn.st rfl (by decide) (gf_1 (R := up2 R 56 2 _) (k := 0) (b := 9) h9) ?_
    refine Rn.call rfl rfl rfl rfl hy ?_
    refine Rn.run 2 rfl ?_
    refine Rn.br rfl (by decide) rfl (fun hc => ?_) (fun hc => ?_)
    · exact absurd hc hk
    · refine Rn.run 8 rfl ?_
      exact Rn.ret rfl rfl rfl
/-- .. a FAULT 5 -/
theorem x24_5 {P : Nat} {I A1 A2 J J2 : St} {r kd q : Int32} (hr : r = -1) (hk : kd = 0) (hP : P = 3 ∨ P = 18) (h9 : R 0 9 = some P) (e25 : x25 I = some A1) (e53 : x53 P (up2 (tresize A1 1 0) 0 10 (-1)) = some (r, A2)) (e81 : x81 P A2 = some (kd, J)) (e97 : x97 P J = some (q, J2)) (hq : q ≠ -1) : Rn E 24 (0, loc0 24 [.ref 0], [], wT I R) (.returned (some (.int (-5005)))) (wT (up2 J2 0 10 q) (up2 (up2 (up2 R 56 2 (some P)) 57 2 (some P)) 58 2 (some P))) := by
  have hx := x53_any (E := E) (R := R) hP e53
  have hy := x81_any (E := E) (R := up2 R 56 2 (some P)) hP e81
  have hz := x97_any (E := E) (R := up2 (up2 R 56 2 (some P)) 57 2 (some P)) hP e97
  rcases hP with rfl | rfl
  all_goals
    refine Rn.run 2 rfl ?_
    refine Rn.call rfl rfl rfl rfl (x25_ok e25) ?_
    refine Rn.run 3 rfl ?_
    refine Rn.call rfl rfl rfl rfl (tresize_ok (by decide) (by first | rfl | decide) 0) ?_
    refine Rn.run 6 rfl ?_
    refine Rn.st rfl (by decide) (gf_1 h9) ?_
    refine Rn.call rfl rfl rfl rfl hx ?_
    refine Rn.run 3 rfl ?_
    refine Rn.br rfl (by decide) rfl (fun hc => ?_) (fun hc => ?_)
    rotate_left
    · exact absurd hr hc
    refine Rn.run 3 rfl ?_
    refine Rn.st rfl (by decide) (gf_1 (R := up2 R 56 2 _) (k := 0) (b := 9) h9) ?_
    refine Rn.call rfl rfl rfl rfl hy ?_
    refine Rn.run 2 rfl ?_
    refine Rn.br rfl (by decide) rfl (fun hc => ?_) (fun hc => ?_)
    rotate_left
    · exact absurd hk hc
    refine Rn.run 4 rfl ?_
    refine Rn.st rfl (by decide) (gf_1 (R := up2 (up2 R 56 2 _) 57 2 _) (k := 0) (b := 9) h9) ?_
    refine Rn.call rfl rfl rfl rfl hz ?_
    refine Rn.run 4 rfl ?_
    refine Rn.br rfl (by decide) rfl (fun hc => ?_) (fun hc => ?_)
    · exact absurd hc hq
    · refine Rn.run 1 rfl ?_
      exact Rn.ret rfl rfl rfl
/-- .. right -/
theorem x24_y {P Q : Nat} {I A1 A2 J J2 J3 : St} {r kd q : Int32} (hr : r = -1) (hk : kd = 0) (hq : q = -1) (hP : P = 3 ∨ P = 18) (hQ : Q = 3 ∨ Q = 18) (h8 : R 0 8 = some Q) (h9 : R 0 9 = some P) (e25 : x25 I = some A1) (e53 : x53 P (up2 (tresize A1 1 0) 0 10 (-1)) = some (r, A2)) (e81 : x81 P A2 = some (kd, J)) (e97 : x97 P J = some (q, J2)) (e116 : x116 Q P (up2 J2 0 10 q) = some J3) : Rn E 24 (0, loc0 24 [.ref 0], [], wT I R) (.returned (some (.int (J3 (P + 7) 3)))) (wT J3 (up2 (up2 (up2 (up2 (up2 R 56 2 (some P)) 57 2 (some P)) 58 2 (some P)) 0 8 (some P)) 0 9 (some Q))) := by
  have hx := x53_any (E := E) (R := R) hP e53
  have hy := x81_any (E := E) (R := up2 R 56 2 (some P)) hP e81
  have hz := x97_any (E := E) (R := up2 (up2 R 56 2 (some P)) 57 2 (some P)) hP e97
  have ht := x116_ok (E := E) (R := up2 (up2 (up2 R 56 2 (some P)) 57 2 (some P)) 58 2 (some P)) hQ hP h8 h9 e116
  rcases hP with rfl | rfl
  all_goals
    refine Rn.run 2 rfl ?_
    refine Rn.call rfl rfl rfl rfl (x25_ok e25) ?_
    refine Rn.run 3 rfl ?_
    refine Rn.call rfl rfl rfl rfl (tresize_ok (by decide) (by first | rfl | decide) 0) ?_
    refine Rn.run 6 rfl ?_
    refine Rn.st rfl (by decide) (gf_1 h9) ?_
    refine Rn.call rfl rfl rfl rfl hx ?_
    refine Rn.run 3 rfl ?_
    refine Rn.br rfl (by decide) rfl (fun hc => ?_) (fun hc => ?_)
    rotate_left
    · exact absurd hr hc
    refine Rn.run 3 rfl ?_
    refine Rn.st rfl (by decide) (gf_1 (R := up2 R 56 2 _) (k := 0) (b := 9) h9) ?_
    refine Rn.call rfl rfl rfl rfl hy ?_
    refine Rn.run 2 rfl ?_
    refine Rn.br rfl (by decide) rfl (fun hc => ?_) (fun hc => ?_)
    rotate_left
    · exact absurd hk hc
    refine Rn.run 4 rfl ?_
    refine Rn.st rfl (by decide) (gf_1 (R := up2 (up2 R 56 2 _) 57 2 _) (k := 0) (b := 9) h9) ?_
    refine Rn.call rfl rfl rfl rfl hz ?_
    refine Rn.run 4 rfl ?_
    refine Rn.br rfl (by decide) rfl (fun hc => ?_) (fun hc => ?_)
    rotate_left
    · exact absurd hq hc
    refine Rn.run 1 rfl ?_
    refine Rn.call rfl rfl rfl rfl ht ?_
    refine Rn.run 1 rfl ?_
    refine Rn.st rfl (by decide) (gf_1 rfl) ?_
    refine Rn.run 1 rfl ?_
    refine Rn.call rfl rfl rfl rfl (tsize_ok (by decide) (by first | rfl | decide)) ?_
    exact Rn.ret rfl rfl rfl
end
