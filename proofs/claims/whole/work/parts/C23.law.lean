/-! THE LAW RUNS: true for every script -/
theorem k_1 : exK 20000 1 (0, loc0 1 [.ref 0], [], wA) = some (.returned none, (82, w1.2.1, w1.2.2.1, w1.2.2.2)) := by
  unfold w1
  exact isOk_of ok_1
theorem k_2 : exK 20000 182 (0, loc0 182 [.ref 82], [], wB) = some (.returned none, (200, w2.2.1, w2.2.2.1, w2.2.2.2)) := by
  unfold w2
  exact isOk_of ok_2
set_option maxRecDepth 20000 in
theorem start_g {E : Xe} {F1 F2 : Nat → Nat → Bool} {I1 I2 : St} {R1 R2 : Nat → Nat → Option Nat} {o : Outcome} {w : Wd} (h1 : Rn E 1 (0, loc0 1 [.ref 0], [], (1, clr (fun _ _ => false) 0 false, clr (fun _ _ => 0) 0 0, clr (fun _ _ => none) 0 none)) (.returned none) (82, F1, I1, R1)) (h2 : Rn E 182 (0, loc0 182 [.ref 82], [], (83, clr F1 82 false, clr I1 82 0, clr R1 82 none)) (.returned none) (200, F2, I2, R2)) (h3 : Rn E 0 (18, lw 0, [], (200, F2, I2, R2)) o w) : Rn E 0 (0, loc0 0 [.retAddr 0], [], wZ) o w := by
  refine Rn.run 2 rfl ?_
  refine Rn.call rfl rfl rfl rfl h1 ?_
  refine Rn.run 3 rfl ?_
  refine Rn.call rfl rfl rfl rfl h2 ?_
  refine Rn.run 3 rfl ?_
  exact h3
theorem law_runs : LawRuns := by
  intro L xs hL
  obtain ⟨hC, ⟨r1, r2, r3, r4⟩, hF⟩ := s0_c
  have h1 : Rn (L, xs) 1 (0, loc0 1 [.ref 0], [], wA) (.returned none) (82, w1.2.1, w1.2.2.1, w1.2.2.2) := ⟨20000, exK_ok _ _ _ _ k_1⟩
  have h2 : Rn (L, xs) 182 (0, loc0 182 [.ref 82], [], wB) (.returned none) (200, w2.2.1, w2.2.2.1, w2.2.2.2) := ⟨20000, exK_ok _ _ _ _ k_2⟩
  unfold wA at h1
  unfold wB at h2
  generalize w2.2.1 = F2 at *
  generalize w2.2.2.1 = I2 at *
  generalize w2.2.2.2 = R2 at *
  generalize w1.2.1 = F1 at *
  generalize w1.2.2.1 = I1 at *
  generalize w1.2.2.2 = R1 at *
  obtain ⟨I9, R9, hg⟩ := law_loop (L := L) (xs := xs) hL 64 0 I2 R2 (by omega) (by omega) ⟨3, 18, 126, 85, Or.inl ⟨rfl, rfl⟩, Or.inr ⟨rfl, rfl⟩, r1, r2, r3, r4, hC⟩
  obtain ⟨F9, -, hf⟩ := Rn.fl (by decide) hF hg
  obtain ⟨f, hf⟩ := start_g h1 h2 hf
  exact ⟨f, _, hf⟩
theorem i_vc : Claimed_1_1 ∧ Claimed_1_2 := i_vc_of law_runs
