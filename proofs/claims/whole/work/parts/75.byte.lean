/-! the bytes of a fed number -/
theorem b255 : ∀ i, i < 8 → (255#32 : BitVec 32).getLsbD i = true := by decide
theorem byte_s {v s : Int32} {n : Nat} (hn : n ≤ 24) (e1 : (v >>> (s &&& 31)).toBitVec = v.toBitVec.sshiftRight n) (e2 : (ushr v s).toBitVec = v.toBitVec >>> n) : i2b (v >>> (s &&& 31)) = i2b (ushr v s &&& 255) := by
  apply i2b_low
  have e3 : (ushr v s &&& 255).toBitVec = (v.toBitVec >>> n) &&& 255#32 := by
    show (ushr v s).toBitVec &&& _ = _
    rw [e2]
    rfl
  rw [e1, e3]
  apply BitVec.eq_of_getLsbD_eq
  intro i hi
  have h1 := b255 i hi
  have h2 : n + i < 32 := by omega
  have h3 : i < 32 := by omega
  simp only [BitVec.getLsbD_setWidth, BitVec.getLsbD_and, BitVec.getLsbD_sshiftRight, BitVec.getLsbD_ushiftRight, h1, hi, h2, decide_true, Bool.true_and, Bool.and_true, if_true]
  simp [h2]
  intro h4
  omega
theorem byte_all (v : Int32) : i2b (v >>> ((24 : Int32) &&& 31)) = i2b (ushr v 24 &&& 255) ∧ i2b (v >>> ((16 : Int32) &&& 31)) = i2b (ushr v 16 &&& 255) ∧ i2b (v >>> ((8 : Int32) &&& 31)) = i2b (ushr v 8 &&& 255) ∧ i2b (v >>> ((0 : Int32) &&& 31)) = i2b (ushr v 0 &&& 255) := by
  refine ⟨byte_s (n := 24) (by decide) rfl rfl, byte_s (n := 16) (by decide) rfl rfl, byte_s (n := 8) (by decide) rfl rfl, byte_s (n := 0) (by decide) rfl rfl⟩
