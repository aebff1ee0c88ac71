/-! NUMBERS; TABLES as rows and columns -/
theorem i32_eq {a b : Nat} (ha : a < 2147483648) (hb : b < 2147483648) : Int32.ofNat a = Int32.ofNat b ↔ a = b := by
  constructor
  · intro h
    have h1 := congrArg Int32.toInt h
    rw [i32_of ha, i32_of hb] at h1
    omega
  · rintro rfl; rfl
theorem i32_a (a b : Nat) : Int32.ofNat a + Int32.ofNat b = Int32.ofNat (a + b) := (Int32.ofNat_add a b).symm
theorem i32_sb {a b : Nat} (h : b ≤ a) : Int32.ofNat a - Int32.ofNat b = Int32.ofNat (a - b) := by
  have e : a = (a - b) + b := by omega
  conv => lhs; rw [e]
  rw [Int32.ofNat_add, Int32.add_sub_cancel]
theorem i32_inb {a n : Nat} (ha : a < 2147483648) : inb (Int32.ofNat a) n ↔ a < n := by
  unfold inb
  rw [i32_cl ha]
  exact ⟨fun h => h.2, fun h => ⟨i32_nn ha, h⟩⟩
theorem i32_m1 {a : Nat} (ha : a < 2147483648) : Int32.ofNat a ≠ -1 := by
  intro h
  have h1 := congrArg Int32.toInt h
  rw [i32_of ha] at h1
  have h2 : (-1 : Int32).toInt = -1 := by decide
  rw [h2] at h1
  omega
section
variable {I J : St} {k k' c f : Nat} {a b x y v : Int32}
def tok (k : Nat) (a b : Int32) : Prop := ¬ (a < 0 ∨ Int32.ofNat (sf k 0) ≤ a ∨ b < 0 ∨ Int32.ofNat (sf k 1) ≤ b)
theorem tok_n {i j : Nat} (hi : i < sf k 0) (hj : j < sf k 1) (hb : sf k 0 < 100000) (hc : sf k 1 < 100000) : tok k (Int32.ofNat i) (Int32.ofNat j) := by
  unfold tok
  rintro (h | h | h | h)
  · exact i32_nn (by omega) h
  · rw [i32_le (by omega) (by omega)] at h; omega
  · exact i32_nn (by omega) h
  · rw [i32_le (by omega) (by omega)] at h; omega
theorem tget_same (h : tok k a b) : tget (tset I k a b v) k a b = v := by
  unfold tget tset
  unfold tok at h
  rw [if_neg h, if_neg h, up2_s]
theorem tget_up (h : c ≠ sf k 2) : tget (up2 I c f v) k a b = tget I k a b := by
  unfold tget
  rw [up2_k _ _ _ _ _ _ (Ne.symm h)]
theorem tget_oth (h : sf k' 2 ≠ sf k 2) : tget (tset I k' x y v) k a b = tget I k a b := by
  unfold tset
  split
  · rfl
  · exact tget_up h
theorem tset_fld (h : c ≠ sf k 2) : tset I k a b v c f = I c f := by
  unfold tset
  split
  · rfl
  · exact up2_k _ _ _ _ _ _ h
theorem tget_ne (hk : k < 200) (hs : shc k = 1) (h : x ≠ a ∨ y ≠ b) : tget (tset I k x y v) k a b = tget I k a b := by
  obtain ⟨c1, c2, c3, c4, c5, -⟩ := tb_ok k hk hs
  unfold tget tset
  split
  · rfl
  · rename_i h1
    split
    · rfl
    · rename_i h2
      apply up2_j
      simp only [not_or] at h1 h2
      obtain ⟨e1, l1, l2, -, -⟩ := idx_ok c4 c5 h2.1 h2.2.1 h2.2.2.1 h2.2.2.2
      obtain ⟨e2, m1, m2, -, -⟩ := idx_ok c4 c5 h1.1 h1.2.1 h1.2.2.1 h1.2.2.2
      rw [e1, e2]
      intro z
      have n1 := i32_nc h2.1
      have n2 := i32_nc h2.2.2.1
      have n3 := i32_nc h1.1
      have n4 := i32_nc h1.2.2.1
      have d1 : (a.toNatClampNeg * sf k 1 + b.toNatClampNeg) / sf k 1 = a.toNatClampNeg := by
        rw [Nat.mul_comm, Nat.mul_add_div (by omega), Nat.div_eq_of_lt (by omega)]; rfl
      have d2 : (x.toNatClampNeg * sf k 1 + y.toNatClampNeg) / sf k 1 = x.toNatClampNeg := by
        rw [Nat.mul_comm, Nat.mul_add_div (by omega), Nat.div_eq_of_lt (by omega)]; rfl
      have p1 : a.toNatClampNeg = x.toNatClampNeg := by
        first
        | (rw [← d1, ← d2, z])
        | (rw [← d1, ← d2, ← z])
        | omega
      have p2 : b.toNatClampNeg = y.toNatClampNeg := by
        rw [p1] at z
        omega
      rcases h with h | h
      · apply h
        first
        | (rw [n1, n3, p1])
        | (rw [n3, n1, p1])
        | omega
      · apply h
        first
        | (rw [n2, n4, p2])
        | (rw [n4, n2, p2])
        | omega
theorem tget_ta (h : k' ≠ sf k 2) : tget (tadd I k') k a b = tget I k a b := by
  unfold tadd
  split
  · exact tget_up h
  · rfl
theorem tget_tr (h : k' ≠ sf k 2) : tget (tresize I k' x) k a b = tget I k a b := tget_up h
theorem tget_fr {L : List (Nat × Option Nat)} (h : Frm L I J) (hm : ∀ j, mdb L (sf k 2) j = false) : tget J k a b = tget I k a b := by
  unfold tget
  split
  · rfl
  · exact h _ _ (hm _)
theorem tadd_n {n : Nat} (h : I k 3 = Int32.ofNat n) (hn : n < sf k 0) (hb : sf k 0 < 100000) : tadd I k = up2 I k 3 (Int32.ofNat (n + 1)) ∧ tadr I k = Int32.ofNat n := by
  have h1 : Int32.ofNat n < Int32.ofNat (sf k 0) := (i32_lt (by omega) (by omega)).mpr hn
  unfold tadd tadr
  rw [h, if_pos h1, if_pos h1, i32_s]
  exact ⟨rfl, rfl⟩
theorem tres_n {n : Nat} (hn : n ≤ sf k 0) (hb : sf k 0 < 100000) : tresize I k (Int32.ofNat n) = up2 I k 3 (Int32.ofNat n) := by
  unfold tresize
  rw [if_neg (i32_nn (by omega)), if_neg]
  rw [i32_lt (by omega) (by omega)]
  omega
end
