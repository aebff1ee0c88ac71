/-! end() in lockstep; a byte -/
theorem sf1 : sf 1 0 = 4000 ∧ sf 1 1 = 1 ∧ sf 1 2 = 2 := by decide
theorem end_l {T : Tp} {A B : St} (hA : TC T A) (hB : TB T B) (a : Int32) : ∃ r A' B' T', x23 A a = some (r, A') ∧ x190 B a = some (r, B') ∧ TC T' A' ∧ TB T' B' ∧ T'.1 ≤ T.1 := by
  obtain ⟨s1, s2, s3⟩ := sf1
  have h12 := hA.2.1
  unfold x23 x190
  rw [hA.1, hB.1]
  by_cases h0 : a < 0
  · rw [if_pos h0, if_pos h0]
    exact ⟨_, _, _, T, rfl, rfl, hA, hB, Nat.le_refl _⟩
  rw [if_neg h0, if_neg h0]
  by_cases h1 : a ≤ Int32.ofNat T.1
  · obtain ⟨k, hk, rfl⟩ := i32_rng (n := T.1 + 1) rfl (by omega) h0 ((le_lt rfl rfl (by omega)).mp h1)
    rw [if_pos h1, if_pos h1, tres_n (by omega) (by omega)]
    refine ⟨_, _, _, (k, T.2), rfl, rfl, ⟨up2_s _ _ _ _, by show k ≤ 1280; omega, fun i hi => ?_⟩, ⟨up2_s _ _ _ _, by show k ≤ 1280; omega, fun i hi => ?_⟩, by show k ≤ T.1; omega⟩
    · have hi : i < k := hi
      rw [tget_up (by rw [s3]; decide)]
      exact hA.2.2 i (by omega)
    · have hi : i < k := hi
      rw [up2_k _ _ _ _ _ _ (by decide)]
      exact hB.2.2 i (by omega)
  · rw [if_neg h1, if_neg h1]
    exact ⟨_, _, _, T, rfl, rfl, hA, hB, Nat.le_refl _⟩
theorem i2b_low (x y : Int32) (h : x.toBitVec.setWidth 8 = y.toBitVec.setWidth 8) : i2b x = i2b y := by
  unfold i2b
  congr 1
  apply Int8.toBitVec_inj.mp
  show x.toBitVec.signExtend 8 = y.toBitVec.signExtend 8
  rw [BitVec.signExtend_eq_setWidth_of_le _ (by decide), BitVec.signExtend_eq_setWidth_of_le _ (by decide)]
  exact h
