/-! take-methods of the class's parser; name(), signed() of the reference -/
def adv (A : St) : St := up2 A 56 3 (A 56 3 + 1)
def wrC (A : St) (q : Nat) : St := up2 A 56 5 (Int32.ofNat q)
section
variable {T : Tp} {L : List (List Nat)} {K p : Nat} {A : St}
theorem x58_n (h : PS T L K p A) : x58 A = some (wrC A p) := by
  unfold x58 wrC
  rw [if_pos h.2.2.2.2.2.2.1, h.tk.2.1]
theorem x56_n (h : PS T L K p A) : x56 A = ckd T p := by
  unfold x56
  rw [if_pos h.2.2.2.2.2.2.1]
  exact h.tk.1
theorem x62_y (h : PS T L K p A) {s : Nat} {x : Int32} (hx : x = Int32.ofNat s) (hs : s < 256) (hS : cS s = true) (hc : cA T p = s) : x62 A x = some (adv A) := by
  unfold x62
  rw [x61_n h hx hs hS, if_pos hc, if_neg (by decide)]
  rfl
theorem x62_no (h : PS T L K p A) {s : Nat} {x : Int32} (hx : x = Int32.ofNat s) (hs : s < 256) (hS : cS s = true) (hc : cA T p ≠ s) : x62 A x = some (wrC A p) := by
  unfold x62
  rw [x61_n h hx hs hS, if_neg hc, if_pos rfl, x58_n h, Option.bind_some]
theorem x67_y (h : PS T L K p A) {f : Bool} {x : Int32} (hx : x = if f = true then 1 else 0) {k : Nat} (hk : kk T p f = some k) : x67 A x = some (Int32.ofNat k, adv A) := by
  have n5 := x57_n h (n := 5) (x := 64) rfl (by decide)
  have n6 := x57_n h (n := 6) (x := 65) rfl (by decide)
  have n7 := x57_n h (n := 7) (x := 66) rfl (by decide)
  unfold kk at hk
  unfold x67
  rw [n5, n6, n7]
  by_cases c5 : owd T p = some 5
  · rw [if_pos c5] at hk
    cases hk
    rw [if_pos c5, if_neg (by decide), Option.bind_some, if_neg (by decide)]
    rfl
  · rw [if_neg c5] at hk
    rw [if_neg c5, if_pos rfl]
    by_cases c6 : owd T p = some 6
    · rw [if_pos c6] at hk
      cases hk
      rw [if_pos c6, if_neg (by decide), Option.bind_some, if_neg (by decide)]
      rfl
    · rw [if_neg c6] at hk
      rw [if_neg c6, if_pos rfl, Option.bind_some, if_pos rfl]
      split at hk
      · rename_i z
        cases hk
        rw [hx, if_pos z.1, if_neg (by decide), if_pos z.2, if_neg (by decide)]
        rfl
      · cases hk
theorem x67_no (h : PS T L K p A) {f : Bool} {x : Int32} (hx : x = if f = true then 1 else 0) (hk : kk T p f = none) : x67 A x = some (0, wrC A p) := by
  have n5 := x57_n h (n := 5) (x := 64) rfl (by decide)
  have n6 := x57_n h (n := 6) (x := 65) rfl (by decide)
  have n7 := x57_n h (n := 7) (x := 66) rfl (by decide)
  unfold kk at hk
  unfold x67
  rw [n5, n6, n7, x58_n h]
  by_cases c5 : owd T p = some 5
  · rw [if_pos c5] at hk
    cases hk
  · rw [if_neg c5] at hk
    rw [if_neg c5, if_pos rfl]
    by_cases c6 : owd T p = some 6
    · rw [if_pos c6] at hk
      cases hk
    · rw [if_neg c6] at hk
      rw [if_neg c6, if_pos rfl, Option.bind_some, if_pos rfl]
      split at hk
      · cases hk
      · rename_i z
        cases f with
        | false => rw [hx, if_pos (show (if false = true then (1 : Int32) else 0) = 0 from rfl), Option.bind_some]
        | true =>
          rw [hx, if_neg (by decide), if_neg (fun w => z ⟨rfl, w⟩), if_pos rfl, Option.bind_some]
theorem m1_p1 {x : Int32} : x + 1 - 1 = x := Int32.add_sub_cancel x 1
theorem x59_y (h : PS T L K p A) (h1 : rkd T p = 1) (h2 : te T p ≤ p + 12) : ∃ i, x59 A = some (Int32.ofNat i, up2 (up2 A 56 6 (Int32.ofNat p)) 56 3 (A 56 3 + 1)) ∧ L[i]? = some (str T p) ∧ 68 ≤ i ∧ i < 1460 := by
  obtain ⟨s1, s2, s3⟩ := sf34
  have e := (ckd_1 h.le).mpr ⟨h1, h2⟩
  obtain ⟨t1, t2, t3, t4, t5⟩ := h.tk
  obtain ⟨i, g1, g2, g3, g4⟩ := t3 (Or.inl (t1.trans e))
  refine ⟨i, ?_, g3, ?_, g2⟩
  · unfold x59
    rw [x56_n h, e, if_neg (by decide), if_pos rfl, m1_p1, tget_up (by rw [s3]; decide), tget_up (by rw [s3]; decide), g1]
    unfold x60
    rw [t2]
  · rcases Nat.lt_or_ge i 68 with z | z
    · have := g4.mpr z
      rw [t1, e] at this
      exact absurd this (by decide)
    · exact z
theorem x59_long (h : PS T L K p A) (h1 : rkd T p = 1) (h2 : ¬ te T p ≤ p + 12) : x59 A = some (-1, wrC A (p + 12)) := by
  unfold x59 x60 wrC
  rw [x56_n h, (ckd_2 h.le).mpr ⟨h1, h2⟩, if_pos rfl, h.tk.2.1, ← i32_a]
  rfl
theorem x59_no (h : PS T L K p A) (h1 : rkd T p ≠ 1) : x59 A = some (-1, wrC A p) := by
  unfold x59
  rw [x56_n h, if_neg (fun z => h1 ((ckd_2 h.le).mp z).1), if_neg (fun z => h1 ((ckd_1 h.le).mp z).1), x58_n h, Option.bind_some]
theorem x78_y (h : PS T L K p A) {m : Nat} {x : Int32} (hx : x = Int32.ofNat m) (hm : m < 2147483648) (hc : cD (cA T p) = true) (hv : nv (str T p) ≤ m) : x78 A x = some (Int32.ofNat (nv (str T p)), adv A) := by
  obtain ⟨s1, s2, s3⟩ := sf34
  have e := (ckd_4 h.le).mpr ⟨hc, by omega⟩
  obtain ⟨t1, t2, t3, t4, t5⟩ := h.tk
  have c := t4 (t1.trans e)
  unfold x78 x74
  rw [x56_n h, e, if_pos rfl, c, hx, if_pos ((i32_le (by omega) hm).mpr hv), m1_p1, tget_up (by rw [s3]; decide), c]
  rfl
theorem x78_no (h : PS T L K p A) {m : Nat} {x : Int32} (hx : x = Int32.ofNat m) (hm : m < 2147483648) (hc : ¬ (cD (cA T p) = true ∧ nv (str T p) ≤ m)) : x78 A x = some (0, wrC A p) := by
  obtain ⟨t1, t2, t3, t4, t5⟩ := h.tk
  unfold x78 x74
  rw [x56_n h, x58_n h]
  by_cases z : ckd T p = 4
  · obtain ⟨z1, z2⟩ := (ckd_4 h.le).mp z
    rw [if_pos z, t4 (t1.trans z), hx, if_neg (fun w => hc ⟨z1, (i32_le (by omega) hm).mp w⟩), Option.bind_some]
  · rw [if_neg z, Option.bind_some]
end
/-! the reference -/
section
variable {T : Tp} {p Z u : Nat} {I : St} {M : List (List Nat)}
theorem x201_y (hZ : Z = 85 ∨ Z = 126) (h : RS T p I) (hN : RN Z M u I) (hM : M.length < 2000) (hu : u + 1280 < 4100) (h1 : rkd T p = 1) (h2 : te T p ≤ p + 12) : ∃ r M' u' J, x201 Z I = some (.inr (Int32.ofNat r, J)) ∧ RN Z M' u' J ∧ M'[r]? = some (str T p) ∧ (∀ (i : Nat) (s : List Nat), M[i]? = some s → M'[i]? = some s) ∧ M'.length ≤ M.length + 1 ∧ u' ≤ u + (te T p - p) ∧ RS T (nx T p) J := by
  obtain ⟨r, M', u', I1, a1, a2, a3, a4, a5, a6, a7⟩ := x202_n hZ h hN hM hu
  obtain ⟨J, b1, b2, b3⟩ := x192_s a7
  have hc : cL (cA T p) = true := ((rkd_1 (h.1.le p)).mp h1).1
  refine ⟨r, M', u', J, ?_, ?_, a3, a4, a5, a6, b2⟩
  · unfold x201
    rw [h.2.1.2.1, if_pos h1, h.2.1.2.2.2.2.1, if_pos (by unfold rtl; rw [if_pos hc]; unfold tl; rw [if_pos h2]), a1, Option.bind_some]
    dsimp only
    rw [b1, Option.bind_some]
  · rcases hZ with rfl | rfl <;> exact a2.fr b3 rfl rfl rfl rfl rfl
theorem x201_long (h : RS T p I) (h1 : rkd T p = 1) (h2 : ¬ te T p ≤ p + 12) : x201 Z I = some (.inl (Wr I (p + 12))) := by
  have hc : cL (cA T p) = true := ((rkd_1 (h.1.le p)).mp h1).1
  have e : I 82 16 = Int32.ofNat (p + 12) := by
    rw [h.2.1.2.2.2.2.1]
    unfold rtl
    rw [if_pos hc]
    unfold tl
    rw [if_neg h2]
  have h3 := h.2.2
  have h4 := h.1.2.1
  unfold x201 Wr
  rw [h.2.1.2.1, if_pos h1, e, if_neg (i32_m1 (by omega))]
theorem x201_no (h : RS T p I) (h1 : rkd T p ≠ 1) : x201 Z I = some (.inl (Wr I p)) := by
  unfold x201 Wr
  rw [h.2.1.2.1, if_neg h1, h.2.1.2.2.1]
end
