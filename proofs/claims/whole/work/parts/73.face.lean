/-! THE FACE in lockstep: flows, policy, input, argument -/
def CpW (A B : St) : Prop := A 61 0 = B 82 6 ∧ (∀ i, i < 16 → tget A 62 (Int32.ofNat i) 0 = B 167 i) ∧ (∀ i, i < 16 → tget A 64 (Int32.ofNat i) 0 = B 168 i) ∧ ∀ i, i < 7 → tget A 66 (Int32.ofNat i) 0 = B 169 i ∧ tget A 66 (Int32.ofNat i) 1 = B 170 i
theorem sfW : sf 62 0 = 16 ∧ sf 62 1 = 1 ∧ sf 62 2 = 63 ∧ sf 64 0 = 16 ∧ sf 64 1 = 1 ∧ sf 64 2 = 65 ∧ sf 66 0 = 7 ∧ sf 66 1 = 2 ∧ sf 66 2 = 67 := by decide
theorem i32_rng {a : Int32} {n : Nat} {x : Int32} (hx : x = Int32.ofNat n) (hn : n < 2147483648) (h0 : ¬ a < 0) (h1 : a < x) : ∃ k, k < n ∧ a = Int32.ofNat k := by
  have e := i32_nc h0
  have hl : a.toNatClampNeg < 2147483648 := by
    have := Int32.toInt_lt a
    show a.toInt.toNat < _
    omega
  refine ⟨a.toNatClampNeg, ?_, e⟩
  rw [e, hx, i32_lt hl hn] at h1
  exact h1
theorem le_lt {a x y : Int32} {n : Nat} (hx : x = Int32.ofNat n) (hy : y = Int32.ofNat (n + 1)) (hn : n + 1 < 2147483648) : a ≤ x ↔ a < y := by
  rw [Int32.le_iff_toInt_le, Int32.lt_iff_toInt_lt, hx, hy, i32_of (by omega), i32_of hn]
  omega
section
variable {A B : St}
theorem flows_l (h : CpW A B) (v : Int32) : ∃ r A' B', x118 A v = some (r, A') ∧ x262 B v = some (r, B') ∧ CpW A' B' := by
  obtain ⟨s1, s2, s3, s4, s5, s6, s7, s8, s9⟩ := sfW
  refine ⟨_, _, _, rfl, by rw [h.1]; rfl, ?_, ?_, ?_, ?_⟩
  · rw [up2_s, up2_s]
  · intro i hi
    rw [tget_up (by rw [s3]; decide), up2_k _ _ _ _ _ _ (by decide)]
    exact h.2.1 i hi
  · intro i hi
    rw [tget_up (by rw [s6]; decide), up2_k _ _ _ _ _ _ (by decide)]
    exact h.2.2.1 i hi
  · intro i hi
    rw [tget_up (by rw [s9]; decide), tget_up (by rw [s9]; decide), up2_k _ _ _ _ _ _ (by decide), up2_k _ _ _ _ _ _ (by decide)]
    exact h.2.2.2 i hi
theorem policy_l (h : CpW A B) (a v : Int32) : ∃ r A' B', x119 A a v = some (r, A') ∧ x263 B a v = some (r, B') ∧ CpW A' B' := by
  obtain ⟨s1, s2, s3, s4, s5, s6, s7, s8, s9⟩ := sfW
  unfold x119 x263
  by_cases h0 : a < 0
  · rw [if_pos h0, if_pos h0]
    exact ⟨_, _, _, rfl, rfl, h⟩
  rw [if_neg h0, if_neg h0]
  by_cases h1 : a < 16
  · obtain ⟨k, hk, rfl⟩ := i32_rng (n := 16) rfl (by decide) h0 h1
    have hin : inb (Int32.ofNat k) 16 := (i32_inb (by omega)).mpr hk
    rw [if_pos h1, if_pos ((le_lt (x := 15) (y := 16) (n := 15) rfl rfl (by decide)).mpr h1), if_pos hin, if_pos hin, i32_cl (by omega)]
    refine ⟨_, _, _, rfl, by rw [h.2.1 k hk], ?_, ?_, ?_, ?_⟩
    · rw [tset_fld (by rw [s3]; decide), up2_k _ _ _ _ _ _ (by decide)]
      exact h.1
    · intro i hi
      by_cases z : i = k
      · subst z
        rw [up2_s, tget_same (tok_i (k := 62) (b := 0) (by omega) (by omega) (by decide) (by rw [s2]; decide))]
      · rw [up2_j _ _ _ _ _ z, tget_ne (by decide) (by decide) (Or.inl (by rw [Ne, i32_eq (by omega) (by omega)]; omega))]
        exact h.2.1 i hi
    · intro i hi
      rw [tget_oth (by rw [s3, s6]; decide), up2_k _ _ _ _ _ _ (by decide)]
      exact h.2.2.1 i hi
    · intro i hi
      rw [tget_oth (by rw [s3, s9]; decide), tget_oth (by rw [s3, s9]; decide), up2_k _ _ _ _ _ _ (by decide), up2_k _ _ _ _ _ _ (by decide)]
      exact h.2.2.2 i hi
  · rw [if_neg h1, if_neg (fun z => h1 ((le_lt (x := 15) (y := 16) (n := 15) rfl rfl (by decide)).mp z))]
    exact ⟨_, _, _, rfl, rfl, h⟩
theorem input_l (h : CpW A B) (a v : Int32) : ∃ r A' B', x120 A a v = some (r, A') ∧ x264 B a v = some (r, B') ∧ CpW A' B' := by
  obtain ⟨s1, s2, s3, s4, s5, s6, s7, s8, s9⟩ := sfW
  unfold x120 x264
  by_cases h0 : a < 0
  · rw [if_pos h0, if_pos h0]
    exact ⟨_, _, _, rfl, rfl, h⟩
  rw [if_neg h0, if_neg h0]
  by_cases h1 : a < 16
  · obtain ⟨k, hk, rfl⟩ := i32_rng (n := 16) rfl (by decide) h0 h1
    have hin : inb (Int32.ofNat k) 16 := (i32_inb (by omega)).mpr hk
    rw [if_pos h1, if_pos ((le_lt (x := 15) (y := 16) (n := 15) rfl rfl (by decide)).mpr h1), if_pos hin, if_pos hin, i32_cl (by omega)]
    refine ⟨_, _, _, rfl, by rw [h.2.2.1 k hk], ?_, ?_, ?_, ?_⟩
    · rw [tset_fld (by rw [s6]; decide), up2_k _ _ _ _ _ _ (by decide)]
      exact h.1
    · intro i hi
      rw [tget_oth (by rw [s3, s6]; decide), up2_k _ _ _ _ _ _ (by decide)]
      exact h.2.1 i hi
    · intro i hi
      by_cases z : i = k
      · subst z
        rw [up2_s, tget_same (tok_i (k := 64) (b := 0) (by omega) (by omega) (by decide) (by rw [s5]; decide))]
      · rw [up2_j _ _ _ _ _ z, tget_ne (by decide) (by decide) (Or.inl (by rw [Ne, i32_eq (by omega) (by omega)]; omega))]
        exact h.2.2.1 i hi
    · intro i hi
      rw [tget_oth (by rw [s6, s9]; decide), tget_oth (by rw [s6, s9]; decide), up2_k _ _ _ _ _ _ (by decide), up2_k _ _ _ _ _ _ (by decide)]
      exact h.2.2.2 i hi
  · rw [if_neg h1, if_neg (fun z => h1 ((le_lt (x := 15) (y := 16) (n := 15) rfl rfl (by decide)).mp z))]
    exact ⟨_, _, _, rfl, rfl, h⟩
theorem argument_l (h : CpW A B) (a v w : Int32) : ∃ r A' B', x121 A a v w = some (r, A') ∧ x265 B a v w = some (r, B') ∧ CpW A' B' := by
  obtain ⟨s1, s2, s3, s4, s5, s6, s7, s8, s9⟩ := sfW
  unfold x121 x265
  by_cases h0 : a < 0
  · rw [if_pos h0, if_pos h0]
    exact ⟨_, _, _, rfl, rfl, h⟩
  rw [if_neg h0, if_neg h0]
  by_cases h1 : a < 7
  · obtain ⟨k, hk, rfl⟩ := i32_rng (n := 7) rfl (by decide) h0 h1
    have hin : inb (Int32.ofNat k) 7 := (i32_inb (by omega)).mpr hk
    rw [if_pos h1, if_pos ((le_lt (x := 6) (y := 7) (n := 6) rfl rfl (by decide)).mpr h1), if_pos hin, if_pos hin, i32_cl (by omega)]
    refine ⟨_, _, _, rfl, rfl, ?_, ?_, ?_, ?_⟩
    · unfold tset2
      rw [tset_fld (by rw [s9]; decide), tset_fld (by rw [s9]; decide), up2_k _ _ _ _ _ _ (by decide), up2_k _ _ _ _ _ _ (by decide)]
      exact h.1
    · intro i hi
      unfold tset2
      rw [tget_oth (by rw [s3, s9]; decide), tget_oth (by rw [s3, s9]; decide), up2_k _ _ _ _ _ _ (by decide), up2_k _ _ _ _ _ _ (by decide)]
      exact h.2.1 i hi
    · intro i hi
      unfold tset2
      rw [tget_oth (by rw [s6, s9]; decide), tget_oth (by rw [s6, s9]; decide), up2_k _ _ _ _ _ _ (by decide), up2_k _ _ _ _ _ _ (by decide)]
      exact h.2.2.1 i hi
    · intro i hi
      unfold tset2
      by_cases z : i = k
      · subst z
        rw [tget_ne (by decide) (by decide) (Or.inr (by decide)), tget_same (tok_i (k := 66) (b := 0) (by omega) (by omega) (by decide) (by rw [s8]; decide)), tget_same (tok_i (k := 66) (b := 1) (by omega) (by omega) (by decide) (by rw [s8]; decide)), up2_k _ _ _ _ _ _ (by decide), up2_s, up2_s]
        exact ⟨rfl, rfl⟩
      · have e : Int32.ofNat k ≠ Int32.ofNat i := by rw [Ne, i32_eq (by omega) (by omega)]; omega
        rw [tget_ne (by decide) (by decide) (Or.inl e), tget_ne (by decide) (by decide) (Or.inl e), tget_ne (by decide) (by decide) (Or.inl e), tget_ne (by decide) (by decide) (Or.inl e), up2_k _ _ _ _ _ _ (by decide), up2_j _ _ _ _ _ z, up2_j _ _ _ _ _ z, up2_k _ _ _ _ _ _ (by decide)]
        exact h.2.2.2 i hi
  · rw [if_neg h1, if_neg (fun z => h1 ((le_lt (x := 6) (y := 7) (n := 6) rfl rfl (by decide)).mp z))]
    exact ⟨_, _, _, rfl, rfl, h⟩
end
