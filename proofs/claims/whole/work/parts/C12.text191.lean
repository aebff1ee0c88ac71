/-! the reference's text(), method 191 -/
section
variable {E : Xe} {R : Nat → Nat → Option Nat} {o : Outcome} {w : Wd} {Z : Nat}
theorem l191_ok (hZ : Z = 85 ∨ Z = 126) (h4 : R 82 4 = some Z) : ∀ n (I : St) (q : St ⊕ St), l191 Z n I = some q → (∀ J, q = .inr J → Rn E 191 (71, loc0 191 [.ref 82], [], wT J R) o w) → (∀ J, q = .inl J → Rn E 191 (58, loc0 191 [.ref 82], [.ref 84], wT J R) o w) → Rn E 191 (40, loc0 191 [.ref 82], [], wT I R) o w := by
  intro n
  induction n with
  | zero => intro I q h; rw [l191] at h; cases h
  | succ n ih =>
    intro I q h k1 k2
    rw [l191] at h
    refine Rn.run 3 rfl ?_
    refine Rn.br rfl (by decide) rfl (fun hc => ?_) (fun hc => ?_)
    · have hc : I 82 12 = 4 := hc
      rw [if_pos hc] at h
      cases h
      refine Rn.run 1 rfl ?_
      exact k1 _ rfl
    · have hc : ¬ I 82 12 = 4 := hc
      rw [if_neg hc] at h
      obtain ⟨x, e1, e2⟩ := Option.bind_eq_some_iff.mp h
      refine Rn.run 1 rfl ?_
      cases x with
      | inl J =>
        cases e2
        exact Rn.callC rfl rfl rfl rfl rfl rfl (x198_thr hZ h4 e1) (k2 _ rfl)
      | inr J =>
        refine Rn.call rfl rfl rfl rfl (x198_ok hZ h4 e1) ?_
        refine Rn.run 1 rfl ?_
        exact ih J q e2 k1 k2
/-- to its first class, or wrong at once -/
theorem x191_s (hZ : Z = 85 ∨ Z = 126) (h4 : R 82 4 = some Z) {I B1 B2 : St} (e1 : x185 Z (up2 (up2 (up2 I 82 5 (-1)) 82 11 0) 82 20 0) = some B1) (e2 : x192 B1 = some B2) (k1 : B2 82 12 = 4 → Rn E 191 (58, loc0 191 [.ref 82], [.ref 84], wT (up2 B2 84 0 (B2 82 13)) R) o w) (k2 : B2 82 12 ≠ 4 → Rn E 191 (40, loc0 191 [.ref 82], [], wT B2 R) o w) : Rn E 191 (0, loc0 191 [.ref 82], [], wT I R) o w := by
  refine Rn.run 10 rfl ?_
  refine Rn.call rfl rfl rfl rfl (x185_ok hZ h4 e1) ?_
  refine Rn.run 1 rfl ?_
  refine Rn.call rfl rfl rfl rfl (x192_ok e2) ?_
  refine Rn.run 3 rfl ?_
  refine Rn.br rfl (by decide) rfl (fun hc => ?_) (fun hc => ?_)
  · refine Rn.run 3 rfl ?_
    refine Rn.call rfl rfl rfl rfl (fail_ok _) ?_
    exact Rn.atC rfl rfl rfl (k1 hc)
  · exact k2 hc
theorem x191_c {J : St} : Rn E 191 (58, loc0 191 [.ref 82], [.ref 84], wT J R) (.returned (some (.int (-1 - J 84 0)))) (wT (up2 J 82 1 0) R) := by
  refine Rn.run 8 rfl ?_
  exact Rn.ret rfl rfl rfl
/-- WRONG -/
theorem x191_w (hZ : Z = 85 ∨ Z = 126) (h4 : R 82 4 = some Z) {I B1 B2 B3 : St} (e1 : x185 Z (up2 (up2 (up2 I 82 5 (-1)) 82 11 0) 82 20 0) = some B1) (e2 : x192 B1 = some B2) (hb : (B2 82 12 = 4 ∧ B3 = up2 B2 84 0 (B2 82 13)) ∨ (B2 82 12 ≠ 4 ∧ l191 Z 2000 B2 = some (.inl B3))) : Rn E 191 (0, loc0 191 [.ref 82], [], wT I R) (.returned (some (.int (-1 - B3 84 0)))) (wT (up2 B3 82 1 0) R) := by
  refine x191_s hZ h4 e1 e2 (fun hc => ?_) (fun hc => ?_)
  · rcases hb with ⟨-, hb⟩ | ⟨hb, -⟩
    · subst hb; exact x191_c
    · exact absurd hc hb
  · rcases hb with ⟨hb, -⟩ | ⟨-, hb⟩
    · exact absurd hb hc
    · exact l191_ok hZ h4 2000 B2 _ hb (fun J hJ => by cases hJ) (fun J hJ => by cases hJ; exact x191_c)
def rB (B3 : St) : St := up2 (up2 (up2 B3 82 1 0) 82 22 0) 82 5 4001
/-- a FAULT of the linker's -/
theorem x191_f (hZ : Z = 85 ∨ Z = 126) (h4 : R 82 4 = some Z) {I B1 B2 B3 B4 : St} (e1 : x185 Z (up2 (up2 (up2 I 82 5 (-1)) 82 11 0) 82 20 0) = some B1) (e2 : x192 B1 = some B2) (hb : B2 82 12 ≠ 4) (e3 : l191 Z 2000 B2 = some (.inr B3)) (e4 : x215 Z (rB B3) = some B4) (h22 : B4 82 22 ≠ 0) : Rn E 191 (0, loc0 191 [.ref 82], [], wT I R) (.returned (some (.int (-5000 - B4 82 22)))) (wT B4 R) := by
  refine x191_s hZ h4 e1 e2 (fun hc => absurd hc hb) (fun hc => ?_)
  refine l191_ok hZ h4 2000 B2 _ e3 (fun J hJ => ?_) (fun J hJ => by cases hJ)
  cases hJ
  refine Rn.run 10 rfl ?_
  refine Rn.call rfl rfl rfl rfl (x215_ok hZ h4 e4) ?_
  refine Rn.run 2 rfl ?_
  refine Rn.br rfl (by decide) rfl (fun hc => ?_) (fun hc => ?_)
  · exact absurd hc h22
  · refine Rn.run 2 rfl ?_
    refine Rn.br rfl (by decide) rfl (fun hc => ?_) (fun hc => ?_)
    · exact absurd hc h22
    · refine Rn.run 4 rfl ?_
      exact Rn.ret rfl rfl rfl
/-- a FAULT 5 -/
theorem x191_5 (hZ : Z = 85 ∨ Z = 126) (h4 : R 82 4 = some Z) {I B1 B2 B3 B4 B5 : St} (e1 : x185 Z (up2 (up2 (up2 I 82 5 (-1)) 82 11 0) 82 20 0) = some B1) (e2 : x192 B1 = some B2) (hb : B2 82 12 ≠ 4) (e3 : l191 Z 2000 B2 = some (.inr B3)) (e4 : x215 Z (rB B3) = some B4) (h22 : B4 82 22 = 0) (e5 : x225 Z B4 = some B5) (h23 : B5 82 22 ≠ 0) : Rn E 191 (0, loc0 191 [.ref 82], [], wT I R) (.returned (some (.int (-5000 - B5 82 22)))) (wT B5 R) := by
  refine x191_s hZ h4 e1 e2 (fun hc => absurd hc hb) (fun hc => ?_)
  refine l191_ok hZ h4 2000 B2 _ e3 (fun J hJ => ?_) (fun J hJ => by cases hJ)
  cases hJ
  refine Rn.run 10 rfl ?_
  refine Rn.call rfl rfl rfl rfl (x215_ok hZ h4 e4) ?_
  refine Rn.run 2 rfl ?_
  refine Rn.br rfl (by decide) rfl (fun hc => ?_) (fun hc => ?_)
  · refine Rn.run 1 rfl ?_
    refine Rn.call rfl rfl rfl rfl (x225_ok hZ h4 e5) ?_
    refine Rn.run 2 rfl ?_
    refine Rn.br rfl (by decide) rfl (fun hc => ?_) (fun hc => ?_)
    · exact absurd hc h23
    · refine Rn.run 4 rfl ?_
      exact Rn.ret rfl rfl rfl
  · exact absurd h22 hc
/-- the arguments' rows are emptied from j on -/
def clrA (I : St) : Nat → St
  | 0 => I
  | d + 1 => up2 (up2 (clrA I d) 169 d 0) 170 d 0
theorem clr_ok : ∀ d j (I : St), j + d = 7 → Rn E 191 (161, sto (loc0 191 [.ref 82]) 1 (.int 7), [], wT (clrA I 7) R) o w → Rn E 191 (135, sto (loc0 191 [.ref 82]) 1 (.int (Int32.ofNat j)), [], wT (clrA I j) R) o w := by
  intro d
  induction d with
  | zero =>
    intro j I h1 K
    obtain rfl : j = 7 := by omega
    refine Rn.run 2 rfl ?_
    exact Rn.st rfl (by decide) rfl K
  | succ d ih =>
    intro j I h1 K
    have hj : j < 7 := by omega
    have nx := ih (j + 1) I (by omega) K
    obtain rfl | rfl | rfl | rfl | rfl | rfl | rfl : j = 0 ∨ j = 1 ∨ j = 2 ∨ j = 3 ∨ j = 4 ∨ j = 5 ∨ j = 6 := by omega
    all_goals exact Rn.run 15 rfl nx
/-- the spare is put in place -/
def rY (B5 : St) : St := clrA (up2 (up2 B5 82 5 (-1)) 82 33 0) 7
/-- right -/
theorem x191_y {Q : Nat} (hQ : Q = 85 ∨ Q = 126) (hZ : Z = 85 ∨ Z = 126) (h3 : R 82 3 = some Q) (h4 : R 82 4 = some Z) {I B1 B2 B3 B4 B5 : St} (e1 : x185 Z (up2 (up2 (up2 I 82 5 (-1)) 82 11 0) 82 20 0) = some B1) (e2 : x192 B1 = some B2) (hb : B2 82 12 ≠ 4) (e3 : l191 Z 2000 B2 = some (.inr B3)) (e4 : x215 Z (rB B3) = some B4) (h22 : B4 82 22 = 0) (e5 : x225 Z B4 = some B5) (h23 : B5 82 22 = 0) : Rn E 191 (0, loc0 191 [.ref 82], [], wT I R) (.returned (some (.int (rY B5 Z 8)))) (wT (rY B5) (up2 (up2 R 82 3 (some Z)) 82 4 (some Q))) := by
  refine x191_s hZ h4 e1 e2 (fun hc => absurd hc hb) (fun hc => ?_)
  refine l191_ok hZ h4 2000 B2 _ e3 (fun J hJ => ?_) (fun J hJ => by cases hJ)
  cases hJ
  refine Rn.run 10 rfl ?_
  refine Rn.call rfl rfl rfl rfl (x215_ok hZ h4 e4) ?_
  refine Rn.run 2 rfl ?_
  refine Rn.br rfl (by decide) rfl (fun hc => ?_) (fun hc => ?_)
  rotate_left
  · exact absurd h22 hc
  refine Rn.run 1 rfl ?_
  refine Rn.call rfl rfl rfl rfl (x225_ok hZ h4 e5) ?_
  refine Rn.run 2 rfl ?_
  refine Rn.br rfl (by decide) rfl (fun hc => ?_) (fun hc => ?_)
  rotate_left
  · exact absurd h23 hc
  refine Rn.run 4 rfl ?_
  refine Rn.call rfl rfl rfl rfl (x187_ok hQ hZ h3 h4 (I := up2 B5 82 5 (-1)) rfl) ?_
  refine Rn.run 2 rfl ?_
  refine Rn.st rfl (by decide) (pf_4 (by decide) (by first | rfl | decide) (.inl rfl)) ?_
  refine Rn.run 2 rfl ?_
  refine clr_ok 7 0 (up2 (up2 B5 82 5 (-1)) 82 33 0) rfl ?_
  refine Rn.run 1 rfl ?_
  refine Rn.st rfl (by decide) (gf_1 rfl) ?_
  rcases hZ with rfl | rfl
  · refine Rn.run 1 rfl ?_
    exact Rn.ret rfl rfl rfl
  · refine Rn.run 1 rfl ?_
    exact Rn.ret rfl rfl rfl
end
