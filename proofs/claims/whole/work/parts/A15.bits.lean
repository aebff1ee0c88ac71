/-! BITS of small numbers -/
theorem i32_bv (a : Nat) : (Int32.ofNat a).toBitVec = BitVec.ofNat 32 a := rfl
theorem i32_or (a b : Nat) : Int32.ofNat a ||| Int32.ofNat b = Int32.ofNat (a ||| b) := by
  apply Int32.toBitVec_inj.mp
  rw [Int32.toBitVec_or, i32_bv, i32_bv, i32_bv]
  apply BitVec.eq_of_getLsbD_eq
  intro i hi
  simp [BitVec.getLsbD_ofNat, hi]
theorem i32_an (a b : Nat) : Int32.ofNat a &&& Int32.ofNat b = Int32.ofNat (a &&& b) := by
  apply Int32.toBitVec_inj.mp
  rw [Int32.toBitVec_and, i32_bv, i32_bv, i32_bv]
  apply BitVec.eq_of_getLsbD_eq
  intro i hi
  simp [BitVec.getLsbD_ofNat, hi]
theorem i32_xo (a b : Nat) : Int32.ofNat a ^^^ Int32.ofNat b = Int32.ofNat (a ^^^ b) := by
  apply Int32.toBitVec_inj.mp
  rw [Int32.toBitVec_xor, i32_bv, i32_bv, i32_bv]
  apply BitVec.eq_of_getLsbD_eq
  intro i hi
  simp [BitVec.getLsbD_ofNat, hi]
theorem i32_sh1 : ∀ k, k < 31 → (1 : Int32) <<< (Int32.ofNat k &&& 31) = Int32.ofNat (2 ^ k) := by decide
theorem i32_sr {a k : Nat} (ha : a < 2147483648) (hk : k < 32) : Int32.ofNat a >>> (Int32.ofNat k &&& 31) = Int32.ofNat (a >>> k) := by
  have h31 : ∀ k, k < 32 → Int32.ofNat k &&& 31 = Int32.ofNat k := by decide
  rw [h31 k hk]
  apply Int32.toBitVec_inj.mp
  have hm : ∀ k, k < 32 → ((Int32.ofNat k).toBitVec.smod 32).toNat = k := by decide
  rw [Int32.toBitVec_shiftRight, i32_bv, i32_bv, BitVec.sshiftRight', ← i32_bv k, hm k hk]
  rw [BitVec.sshiftRight_eq_of_msb_false (by rw [BitVec.msb_eq_decide]; simp only [decide_eq_false_iff_not]; rw [BitVec.toNat_ofNat, Nat.mod_eq_of_lt (by omega)]; omega)]
  apply BitVec.eq_of_toNat_eq
  have h2 : a >>> k ≤ a := by rw [Nat.shiftRight_eq_div_pow]; exact Nat.div_le_self _ _
  rw [i32_bv, BitVec.toNat_ushiftRight, BitVec.toNat_ofNat, BitVec.toNat_ofNat, Nat.mod_eq_of_lt (by omega), Nat.mod_eq_of_lt (by omega)]
theorem i32_tb {a k : Nat} (ha : a < 2147483648) (hk : k < 32) : (Int32.ofNat a >>> (Int32.ofNat k &&& 31)) &&& 1 = if a.testBit k then 1 else 0 := by
  rw [i32_sr ha hk, show (1 : Int32) = Int32.ofNat 1 from rfl, i32_an, Nat.testBit, Nat.and_one_is_mod, Nat.one_and_eq_mod_two]
  rcases Nat.mod_two_eq_zero_or_one (a >>> k) with h | h <;> rw [h] <;> rfl
/-- without bit k -/
def clb (a k : Nat) : Nat := a &&& (2 ^ k ^^^ 4294967295)
theorem i32_cr {a k : Nat} (hk : k < 31) : Int32.ofNat a &&& ((1 : Int32) <<< (Int32.ofNat k &&& 31) ^^^ (-1)) = Int32.ofNat (clb a k) := by
  rw [i32_sh1 k hk, show (-1 : Int32) = Int32.ofNat 4294967295 from rfl, i32_xo, i32_an]
  rfl
theorem clb_tb {a k j : Nat} (hj : j < 32) : (clb a k).testBit j = (a.testBit j && !decide (j = k)) := by
  unfold clb
  rw [Nat.testBit_and, Nat.testBit_xor, Nat.testBit_two_pow, show (4294967295 : Nat) = 2 ^ 32 - 1 from rfl, Nat.testBit_two_pow_sub_one]
  simp only [hj, decide_true, Bool.xor_true]
  by_cases z : j = k
  · subst z; simp
  · simp [z, Ne.symm z]
theorem clb_le {a k : Nat} : clb a k ≤ a := Nat.and_le_left
theorem or_tb {a b j : Nat} : (a ||| b).testBit j = (a.testBit j || b.testBit j) := Nat.testBit_or ..
theorem p2_tb {k j : Nat} : (2 ^ k).testBit j = decide (k = j) := Nat.testBit_two_pow
/-- numbers below a power of 2 by their bits -/
theorem tb_ext {a b n : Nat} (ha : a < 2 ^ n) (hb : b < 2 ^ n) (h : ∀ j, j < n → a.testBit j = b.testBit j) : a = b := by
  refine Nat.eq_of_testBit_eq (fun i => ?_)
  rcases Nat.lt_or_ge i n with y | y
  · exact h i y
  · rw [Nat.testBit_lt_two_pow (Nat.lt_of_lt_of_le ha (Nat.pow_le_pow_right (by decide) y)), Nat.testBit_lt_two_pow (Nat.lt_of_lt_of_le hb (Nat.pow_le_pow_right (by decide) y))]
theorem or_lt {a b n : Nat} (ha : a < 2 ^ n) (hb : b < 2 ^ n) : a ||| b < 2 ^ n := Nat.or_lt_two_pow ha hb
/-- THE VERIFIER's stack: h kinds, of which r's bits are refs -/
def skd (t : Nat × Nat) : Nat := if t.2.testBit (t.1 - 1) then 2 else 1
def spp (t : Nat × Nat) : Nat × Nat := (t.1 - 1, t.2 % 2 ^ (t.1 - 1))
def sps (k : Nat) (t : Nat × Nat) : Nat × Nat := (t.1 + 1, if k = 2 then t.2 ||| 2 ^ t.1 else t.2)
def Sok (t : Nat × Nat) : Prop := t.1 ≤ 20 ∧ t.2 < 2 ^ t.1
theorem spp_ok {t : Nat × Nat} (h : Sok t) : Sok (spp t) := ⟨by have := h.1; show t.1 - 1 ≤ 20; omega, Nat.mod_lt _ (Nat.two_pow_pos _)⟩
theorem sps_ok {t : Nat × Nat} {k : Nat} (h : Sok t) (h1 : t.1 < 20) : Sok (sps k t) := by
  refine ⟨by show t.1 + 1 ≤ 20; omega, ?_⟩
  show (if k = 2 then t.2 ||| 2 ^ t.1 else t.2) < 2 ^ (t.1 + 1)
  have e : 2 ^ t.1 < 2 ^ (t.1 + 1) := by rw [Nat.pow_succ]; have := Nat.two_pow_pos t.1; omega
  have := h.2
  split
  · exact or_lt (Nat.lt_trans this e) e
  · exact Nat.lt_trans this e
theorem p20 {n : Nat} (h : n ≤ 20) : 2 ^ n ≤ 1048576 := Nat.pow_le_pow_right (n := 2) (by decide) h
theorem cl_pp {h r : Nat} (hh : 0 < h) (h20 : h ≤ 20) (hr : r < 2 ^ h) : clb r (h - 1) = r % 2 ^ (h - 1) := by
  have h1 := p20 h20
  have hl : r % 2 ^ (h - 1) < 2 ^ (h - 1) := Nat.mod_lt _ (Nat.two_pow_pos _)
  have e2 : 2 ^ (h - 1) ≤ 2 ^ h := Nat.pow_le_pow_right (by decide) (by omega)
  refine tb_ext (n := h) (Nat.lt_of_le_of_lt clb_le hr) (Nat.lt_of_lt_of_le hl e2) (fun j hj => ?_)
  rw [clb_tb (by omega), Nat.testBit_mod_two_pow]
  by_cases z : j = h - 1
  · subst z; simp
  · have : j < h - 1 := by omega
    simp [z, this]
theorem an_pp {h r : Nat} : r &&& (2 ^ h - 1) = r % 2 ^ h := Nat.and_two_pow_sub_one_eq_mod ..
