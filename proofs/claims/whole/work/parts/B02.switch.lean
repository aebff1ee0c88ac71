/-! WHICH INSTRUCTION: both machines' switches -/
section
variable {P Z o x : Nat} {A B : St} {a b : Int32}
theorem x129_1 (ho : o ≤ 7) : x129 P A (Int32.ofNat o) a b = x130 A (Int32.ofNat o) a b := by
  unfold x129
  rw [if_neg (by rw [i32_l4 (x := 7) (b := 7) rfl (by omega) (by decide)]; omega), Option.bind_fun_some]
theorem x129_2 (h1 : 7 < o) (h2 : o ≤ 18) : x129 P A (Int32.ofNat o) a b = x137 A (Int32.ofNat o) := by
  unfold x129
  rw [if_pos ((i32_l4 (x := 7) (b := 7) rfl (by omega) (by decide)).mpr h1), if_neg (by rw [i32_l4 (x := 18) (b := 18) rfl (by omega) (by decide)]; omega), Option.bind_fun_some]
theorem x129_h (h1 : 18 < o) (h2 : o < 59) : x129 P A (Int32.ofNat o) a b = if o = 19 then x136 A 1 (-(x133 A 0)) (x134 A 0) else if o ≤ 36 then x142 A (Int32.ofNat o) a else if o ≤ 41 then x144 P A (Int32.ofNat o) a b else if o ≤ 48 then x155 A (Int32.ofNat o) else if o ≤ 52 then x163 P A (Int32.ofNat o) a b else x168 P A (Int32.ofNat o) a := by
  unfold x129
  rw [if_pos ((i32_l4 (x := 7) (b := 7) rfl (by omega) (by decide)).mpr (by omega)), if_pos ((i32_l4 (x := 18) (b := 18) rfl (by omega) (by decide)).mpr (by omega))]
  simp only [Option.bind_fun_some]
  by_cases y : o = 19
  · rw [if_pos y, if_pos (by rw [y]; rfl)]
  rw [if_neg y, if_neg (fun w => y ((i32_e (x := 19) (b := 19) rfl (by omega) (by decide)).mp w))]
  by_cases y2 : o ≤ 36
  · rw [if_pos y2, if_neg (by rw [i32_l4 (x := 36) (b := 36) rfl (by omega) (by decide)]; omega)]
  rw [if_neg y2, if_pos ((i32_l4 (x := 36) (b := 36) rfl (by omega) (by decide)).mpr (by omega))]
  by_cases y3 : o ≤ 41
  · rw [if_pos y3, if_neg (by rw [i32_l4 (x := 41) (b := 41) rfl (by omega) (by decide)]; omega)]
  rw [if_neg y3, if_pos ((i32_l4 (x := 41) (b := 41) rfl (by omega) (by decide)).mpr (by omega))]
  by_cases y4 : o ≤ 48
  · rw [if_pos y4, if_neg (by rw [i32_l4 (x := 48) (b := 48) rfl (by omega) (by decide)]; omega)]
  rw [if_neg y4, if_pos ((i32_l4 (x := 48) (b := 48) rfl (by omega) (by decide)).mpr (by omega))]
  by_cases y5 : o ≤ 52
  · rw [if_pos y5, if_neg (by rw [i32_l4 (x := 52) (b := 52) rfl (by omega) (by decide)]; omega)]
  · rw [if_neg y5, if_pos ((i32_l4 (x := 52) (b := 52) rfl (by omega) (by decide)).mpr (by omega))]
/-- the reference's act(), by its instruction -/
def actR (Z x o : Nat) (B : St) : Option St :=
  if o = 0 then (x239 B (B (Z + 27) x) 0).bind fun q => some (up2 q 82 64 (Int32.ofNat (x + 1)))
  else if o = 1 then (x239 B 0 0).bind fun q => some (up2 q 82 64 (Int32.ofNat (x + 1)))
  else if o = 5 then (x240 B).bind fun q8 => (x239 q8.2 q8.1 (q8.2 82 66)).bind fun q9 => (x239 q9 q8.1 (q8.2 82 66)).bind fun q10 => some (up2 q10 82 64 (Int32.ofNat (x + 1)))
  else if o = 6 then (x240 B).bind fun q11 => some (up2 q11.2 82 64 (Int32.ofNat (x + 1)))
  else if o = 7 then (x240 B).bind fun q12 => (x240 q12.2).bind fun q13 => (x239 q13.2 q12.1 (q12.2 82 66)).bind fun q14 => (x239 q14 q13.1 (q13.2 82 66)).bind fun q15 => some (up2 q15 82 64 (Int32.ofNat (x + 1)))
  else if o = 19 then (x240 B).bind fun q16 => (x239 q16.2 (-q16.1) (q16.2 82 66)).bind fun q17 => some (up2 q17 82 64 (Int32.ofNat (x + 1)))
  else if o = 57 then (x240 B).bind fun q20 => (x239 q20.2 q20.1 ((q20.2 82 66) &&& ((q20.2 (Z + 27) x) ^^^ (-1)))).bind fun q21 => some (up2 q21 82 64 (Int32.ofNat (x + 1)))
  else if o = 58 then (x240 B).bind fun q22 => (x239 q22.2 q22.1 ((q22.2 82 66) ||| (q22.2 (Z + 27) x))).bind fun q23 => some (up2 q23 82 64 (Int32.ofNat (x + 1)))
  else if o = 56 then (x241 B (B (Z + 27) x)).bind fun q19 => some (up2 q19 82 64 (Int32.ofNat (x + 1)))
  else if o ≤ 18 then x242 Z B (Int32.ofNat x) (Int32.ofNat o)
  else if o ≤ 36 then x249 Z B (Int32.ofNat x) (Int32.ofNat o)
  else x251 Z B (Int32.ofNat x) (Int32.ofNat o)
set_option maxHeartbeats 8000000 in
theorem x238_d (hx : x < 1333) (hpc : B 82 64 = Int32.ofNat x) (hop : B (Z + 26) x = Int32.ofNat o) (ho : o < 59) (hno : o ≠ 2 ∧ o ≠ 3 ∧ o ≠ 4 ∧ o ≠ 55) : x238 Z B = actR Z x o B := by
  have hin : inb (Int32.ofNat x) 2400 := (i32_inb (by omega)).mpr (by omega)
  have hcl : (Int32.ofNat x).toNatClampNeg = x := i32_cl (by omega)
  have e : ∀ j, j < 59 → (Int32.ofNat o = Int32.ofNat j ↔ o = j) := fun j hj => i32_eq (by omega) (by omega)
  have l8 : (Int32.ofNat o < 8) = (o < 8) := propext (i32_l1 rfl (by omega) (by decide))
  have l18 : (18 < Int32.ofNat o) = (18 < o) := propext (i32_l4 rfl (by omega) (by decide))
  have l20 : (Int32.ofNat o < 20) = (o < 20) := propext (i32_l1 rfl (by omega) (by decide))
  have l36 : (36 < Int32.ofNat o) = (36 < o) := propext (i32_l4 rfl (by omega) (by decide))
  have e0 : (Int32.ofNat o = 0) = (o = 0) := propext (e 0 (by omega))
  have e1 : (Int32.ofNat o = 1) = (o = 1) := propext (e 1 (by omega))
  have e2 : (Int32.ofNat o = 2) = (o = 2) := propext (e 2 (by omega))
  have e3 : (Int32.ofNat o = 3) = (o = 3) := propext (e 3 (by omega))
  have e4 : (Int32.ofNat o = 4) = (o = 4) := propext (e 4 (by omega))
  have e5 : (Int32.ofNat o = 5) = (o = 5) := propext (e 5 (by omega))
  have e6 : (Int32.ofNat o = 6) = (o = 6) := propext (e 6 (by omega))
  have e7 : (Int32.ofNat o = 7) = (o = 7) := propext (e 7 (by omega))
  have e19 : (Int32.ofNat o = 19) = (o = 19) := propext (e 19 (by omega))
  have e55 : (Int32.ofNat o = 55) = (o = 55) := propext (e 55 (by omega))
  have e56 : (Int32.ofNat o = 56) = (o = 56) := propext (e 56 (by omega))
  have e57 : (Int32.ofNat o = 57) = (o = 57) := propext (e 57 (by omega))
  have e58 : (Int32.ofNat o = 58) = (o = 58) := propext (e 58 (by omega))
  unfold x238
  simp only [hpc, if_pos hin, hcl, hop, i32_s, Option.bind_fun_some, e0, e1, e2, e3, e4, e5, e6, e7, e19, e55, e56, e57, e58, l8, l18, l20, l36, if_neg hno.1, if_neg hno.2.1, if_neg hno.2.2.1, if_neg hno.2.2.2]
  unfold actR
  by_cases y0 : o = 0
  · rw [if_pos y0, if_pos y0]
  rw [if_neg y0, if_neg y0]
  by_cases y1 : o = 1
  · rw [if_pos y1, if_pos y1]
  rw [if_neg y1, if_neg y1]
  by_cases y5 : o = 5
  · rw [if_pos y5, if_pos y5]
  rw [if_neg y5, if_neg y5]
  by_cases y6 : o = 6
  · rw [if_pos y6, if_pos y6]
  rw [if_neg y6, if_neg y6]
  by_cases y7 : o = 7
  · rw [if_pos y7, if_pos y7]
  rw [if_neg y7, if_neg y7]
  by_cases y19 : o = 19
  · rw [if_pos y19, if_pos y19]
  rw [if_neg y19, if_neg y19]
  by_cases y56 : o = 56
  · rw [if_pos y56, if_neg (by omega), if_neg (by omega), if_pos y56]
  rw [if_neg y56]
  by_cases y57 : o = 57
  · rw [if_pos y57, if_pos y57]
  rw [if_neg y57, if_neg y57]
  by_cases y58 : o = 58
  · rw [if_pos y58, if_pos y58]
  rw [if_neg y58, if_neg y58, if_neg y56, if_neg (by omega)]
  by_cases y18 : o ≤ 18
  · rw [if_neg (by omega), if_pos y18]
  rw [if_pos (by omega), if_neg y18, if_neg (by omega)]
  by_cases y36 : o ≤ 36
  · rw [if_neg (by omega), if_pos y36]
  · rw [if_pos (by omega), if_neg y36]
end
