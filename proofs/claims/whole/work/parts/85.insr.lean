/-! AN INSTRUCTION in lockstep -/
def insR (Z : Nat) (c o : Int32) (q5 : St) : Option (St ⊕ St) := (if o = 0 then (x213 q5 (-1)).bind (Sum.elim (fun J => some (.inl J)) (fun q6 => if inb c 2400 then some (.inr (up2 q6.2 (Z + 27) c.toNatClampNeg q6.1)) else none)) else some (.inr q5)).bind (Sum.elim (fun J => some (.inl J)) (fun (q7 : St) => (if o = 2 then (x214 q7 15).bind (Sum.elim (fun J => some (.inl J)) (fun q8 => if inb c 2400 then some (.inr (up2 q8.2 (Z + 27) c.toNatClampNeg q8.1)) else none)) else if o = 3 then (x214 q7 15).bind (Sum.elim (fun J => some (.inl J)) (fun q9 => if inb c 2400 then some (.inr (up2 q9.2 (Z + 27) c.toNatClampNeg q9.1)) else none)) else if o = 4 then (x214 q7 15).bind (Sum.elim (fun J => some (.inl J)) (fun q10 => if inb c 2400 then some (.inr (up2 q10.2 (Z + 27) c.toNatClampNeg q10.1)) else none)) else if o = 55 then (x214 q7 15).bind (Sum.elim (fun J => some (.inl J)) (fun q11 => if inb c 2400 then some (.inr (up2 q11.2 (Z + 27) c.toNatClampNeg q11.1)) else none)) else if o = 56 then (x214 q7 15).bind (Sum.elim (fun J => some (.inl J)) (fun q12 => if inb c 2400 then some (.inr (up2 q12.2 (Z + 27) c.toNatClampNeg q12.1)) else none)) else some (.inr q7)).bind (Sum.elim (fun J => some (.inl J)) (fun (q13 : St) => (if o = 4 then (x213 q13 32767).bind (Sum.elim (fun J => some (.inl J)) (fun q14 => if inb c 2400 then some (.inr (up2 q14.2 (Z + 31) c.toNatClampNeg q14.1)) else none)) else some (.inr q13)).bind (Sum.elim (fun J => some (.inl J)) (fun (q15 : St) => (if o = 57 then (x214 q15 65535).bind (Sum.elim (fun J => some (.inl J)) (fun q16 => if inb c 2400 then some (.inr (up2 q16.2 (Z + 27) c.toNatClampNeg q16.1)) else none)) else if o = 58 then (x214 q15 65535).bind (Sum.elim (fun J => some (.inl J)) (fun q17 => if inb c 2400 then some (.inr (up2 q17.2 (Z + 27) c.toNatClampNeg q17.1)) else none)) else some (.inr q15)).bind (Sum.elim (fun J => some (.inl J)) (fun (q18 : St) => (if o < 20 then some 0 else if 36 < o then some 0 else some 1).bind fun (q19 : Int32) => (if o < 38 then if o = 49 then some 1 else if o = 50 then some 1 else some 0 else if o ≤ 41 then some 1 else if o = 49 then some 1 else if o = 50 then some 1 else some 0).bind fun (q20 : Int32) => (if q19 = 0 then if q20 = 0 then if o = 37 then if inb c 2400 then (x201 Z (up2 q18 (Z + 30) c.toNatClampNeg (q18 82 13))).bind (Sum.elim (fun J => some (.inl J)) (fun q21 => if inb c 2400 then some (.inr (up2 q21.2 (Z + 29) c.toNatClampNeg q21.1)) else none)) else none else if o = 53 then if inb c 2400 then (x201 Z (up2 q18 (Z + 30) c.toNatClampNeg (q18 82 13))).bind (Sum.elim (fun J => some (.inl J)) (fun q22 => if inb c 2400 then some (.inr (up2 q22.2 (Z + 29) c.toNatClampNeg q22.1)) else none)) else none else if o = 54 then if inb c 2400 then (x201 Z (up2 q18 (Z + 30) c.toNatClampNeg (q18 82 13))).bind (Sum.elim (fun J => some (.inl J)) (fun q23 => if inb c 2400 then some (.inr (up2 q23.2 (Z + 29) c.toNatClampNeg q23.1)) else none)) else none else some (.inr q18) else if inb c 2400 then (x201 Z (up2 q18 (Z + 30) c.toNatClampNeg (q18 82 13))).bind (Sum.elim (fun J => some (.inl J)) (fun q24 => if inb c 2400 then some (.inr (up2 q24.2 (Z + 29) c.toNatClampNeg q24.1)) else none)) else none else if inb c 2400 then (x201 Z (up2 q18 (Z + 30) c.toNatClampNeg (q18 82 13))).bind (Sum.elim (fun J => some (.inl J)) (fun q25 => if inb c 2400 then some (.inr (up2 q25.2 (Z + 29) c.toNatClampNeg q25.1)) else none)) else none).bind (Sum.elim (fun J => some (.inl J)) (fun (q26 : St) => (if q20 = 0 then some (.inr q26) else if inb c 2400 then (x201 Z (up2 q26 (Z + 32) c.toNatClampNeg (q26 82 13))).bind (Sum.elim (fun J => some (.inl J)) (fun q27 => if inb c 2400 then some (.inr (up2 q27.2 (Z + 31) c.toNatClampNeg q27.1)) else none)) else none).bind (Sum.elim (fun J => some (.inl J)) (fun (q28 : St) => (x204 (up2 q28 Z 9 ((q28 Z 9) + 1)) 59).bind (Sum.elim (fun J => some (.inl J)) (fun q29 => some (.inr q29)))))))))))))))
def fin9 (Z : Nat) (I : St) : Option (St ⊕ St) := x204 (up2 I Z 9 (I Z 9 + 1)) 59
abbrev elm {α : Type} (f : α → Option (St ⊕ St)) : St ⊕ α → Option (St ⊕ St) := Sum.elim (fun J => some (.inl J)) f
theorem bs_a {α β : Type} (X : Option (St ⊕ α)) (f : α → Option (St ⊕ β)) (g : β → Option (St ⊕ St)) : (X.bind (Sum.elim (fun J => some (Sum.inl J)) f)).bind (Sum.elim (fun J => some (Sum.inl J)) g) = X.bind (Sum.elim (fun J => some (Sum.inl J)) (fun q => (f q).bind (Sum.elim (fun J => some (Sum.inl J)) g))) := by
  cases X with
  | none => rfl
  | some x => cases x <;> rfl
theorem bs_i (X : Option (St ⊕ St)) : X.bind (Sum.elim (fun J => some (Sum.inl J)) (fun q => some (Sum.inr q))) = X := by
  cases X with
  | none => rfl
  | some x => cases x <;> rfl
theorem shp_0' : ∀ o, o < 59 → shp o = 0 → o = 1 ∨ (5 ≤ o ∧ o ≤ 19) ∨ (42 ≤ o ∧ o ≤ 48) ∨ (51 ≤ o ∧ o ≤ 52) := by decide
theorem shp_0 : ∀ o, o < 59 → shp o = 0 → o = 1 ∨ o = 5 ∨ o = 6 ∨ o = 7 ∨ o = 8 ∨ o = 9 ∨ o = 10 ∨ o = 11 ∨ o = 12 ∨ o = 13 ∨ o = 14 ∨ o = 15 ∨ o = 16 ∨ o = 17 ∨ o = 18 ∨ o = 19 ∨ o = 42 ∨ o = 43 ∨ o = 44 ∨ o = 45 ∨ o = 46 ∨ o = 47 ∨ o = 48 ∨ o = 51 ∨ o = 52 := fun o h1 h2 => by
  have := shp_0' o h1 h2
  omega
theorem shp_1 : ∀ o, o < 59 → shp o = 1 → o = 0 := by decide
theorem shp_2 : ∀ o, o < 59 → shp o = 2 → o = 2 ∨ o = 3 ∨ o = 55 ∨ o = 56 := by decide
theorem shp_3 : ∀ o, o < 59 → shp o = 3 → o = 4 := by decide
theorem shp_4' : ∀ o, o < 59 → shp o = 4 → 20 ≤ o ∧ o ≤ 36 := by decide
theorem shp_4 : ∀ o, o < 59 → shp o = 4 → o = 20 ∨ o = 21 ∨ o = 22 ∨ o = 23 ∨ o = 24 ∨ o = 25 ∨ o = 26 ∨ o = 27 ∨ o = 28 ∨ o = 29 ∨ o = 30 ∨ o = 31 ∨ o = 32 ∨ o = 33 ∨ o = 34 ∨ o = 35 ∨ o = 36 := fun o h1 h2 => by
  have := shp_4' o h1 h2
  omega
theorem shp_5 : ∀ o, o < 59 → shp o = 5 → o = 37 ∨ o = 53 ∨ o = 54 := by decide
theorem shp_6 : ∀ o, o < 59 → shp o = 6 → o = 38 ∨ o = 39 ∨ o = 40 ∨ o = 41 ∨ o = 49 ∨ o = 50 := by decide
theorem shp_7 : ∀ o, o < 59 → shp o = 7 → o = 57 ∨ o = 58 := by decide
theorem shp_le : ∀ o, o < 59 → shp o ≤ 7 := by decide
theorem x76_n : ∀ o, o < 59 → ∀ I : St, x76 I (Int32.ofNat o) = some (Int32.ofNat (shp o)) := by
  intro o ho I
  unfold x76
  have h1 : ¬ Int32.ofNat o < 0 := i32_nn (by omega)
  have h2 : ¬ (59 : Int32) ≤ Int32.ofNat o := by show ¬ Int32.ofNat 59 ≤ _; rw [i32_le (by decide) (by omega)]; omega
  rw [if_neg h1, if_neg h2, if_pos ((i32_inb (by omega)).mpr ho), i32_cl (by omega)]
  have : ∀ o, o < 59 → xSHAPESL.getD o 0 = Int32.ofNat (shp o) := by decide
  rw [this o ho]
section
variable {Z : Nat} {c : Int32} {I : St} {o : Nat}
theorem insR_0 (ho : o < 59) (h : shp o = 0) : insR Z c (Int32.ofNat o) I = fin9 Z I := by
  rcases shp_0 o ho h with rfl | rfl | rfl | rfl | rfl | rfl | rfl | rfl | rfl | rfl | rfl | rfl | rfl | rfl | rfl | rfl | rfl | rfl | rfl | rfl | rfl | rfl | rfl | rfl | rfl
  all_goals
    unfold insR fin9
    simp (decide := true) only [if_true, if_false, Option.bind_some, Sum.elim_inr, bs_a, bs_i]
theorem insR_1 (ho : o < 59) (h : shp o = 1) (hc : inb c 2400) : insR Z c (Int32.ofNat o) I = (x213 I (-1)).bind (elm fun q => fin9 Z (up2 q.2 (Z + 27) c.toNatClampNeg q.1)) := by
  rcases shp_1 o ho h with rfl
  unfold insR fin9 elm
  simp (decide := true) only [if_true, if_false, Option.bind_some, Sum.elim_inr, bs_a, bs_i, if_pos hc]
theorem insR_2 (ho : o < 59) (h : shp o = 2) (hc : inb c 2400) : insR Z c (Int32.ofNat o) I = (x214 I 15).bind (elm fun q => fin9 Z (up2 q.2 (Z + 27) c.toNatClampNeg q.1)) := by
  rcases shp_2 o ho h with rfl | rfl | rfl | rfl
  all_goals
    unfold insR fin9 elm
    simp (decide := true) only [if_true, if_false, Option.bind_some, Sum.elim_inr, bs_a, bs_i, if_pos hc]
theorem insR_3 (ho : o < 59) (h : shp o = 3) (hc : inb c 2400) : insR Z c (Int32.ofNat o) I = (x214 I 15).bind (elm fun q => (x213 (up2 q.2 (Z + 27) c.toNatClampNeg q.1) 32767).bind (elm fun q => fin9 Z (up2 q.2 (Z + 31) c.toNatClampNeg q.1))) := by
  rcases shp_3 o ho h with rfl
  unfold insR fin9 elm
  simp (decide := true) only [if_true, if_false, Option.bind_some, Sum.elim_inr, bs_a, bs_i, if_pos hc]
theorem insR_45 (ho : o < 59) (h : shp o = 4 ∨ shp o = 5) (hc : inb c 2400) : insR Z c (Int32.ofNat o) I = (x201 Z (up2 I (Z + 30) c.toNatClampNeg (I 82 13))).bind (elm fun q => fin9 Z (up2 q.2 (Z + 29) c.toNatClampNeg q.1)) := by
  rcases h with h | h
  · rcases shp_4 o ho h with rfl | rfl | rfl | rfl | rfl | rfl | rfl | rfl | rfl | rfl | rfl | rfl | rfl | rfl | rfl | rfl | rfl
    all_goals
      unfold insR fin9 elm
      simp (decide := true) only [if_true, if_false, Option.bind_some, Sum.elim_inr, bs_a, bs_i, if_pos hc]
  · rcases shp_5 o ho h with rfl | rfl | rfl
    all_goals
      unfold insR fin9 elm
      simp (decide := true) only [if_true, if_false, Option.bind_some, Sum.elim_inr, bs_a, bs_i, if_pos hc]
theorem insR_6 (ho : o < 59) (h : shp o = 6) (hc : inb c 2400) : insR Z c (Int32.ofNat o) I = (x201 Z (up2 I (Z + 30) c.toNatClampNeg (I 82 13))).bind (elm fun q => (x201 Z (up2 (up2 q.2 (Z + 29) c.toNatClampNeg q.1) (Z + 32) c.toNatClampNeg ((up2 q.2 (Z + 29) c.toNatClampNeg q.1) 82 13))).bind (elm fun q => fin9 Z (up2 q.2 (Z + 31) c.toNatClampNeg q.1))) := by
  rcases shp_6 o ho h with rfl | rfl | rfl | rfl | rfl | rfl
  all_goals
    unfold insR fin9 elm
    simp (decide := true) only [if_true, if_false, Option.bind_some, Sum.elim_inr, bs_a, bs_i, if_pos hc]
theorem insR_7 (ho : o < 59) (h : shp o = 7) (hc : inb c 2400) : insR Z c (Int32.ofNat o) I = (x214 I 65535).bind (elm fun q => fin9 Z (up2 q.2 (Z + 27) c.toNatClampNeg q.1)) := by
  rcases shp_7 o ho h with rfl | rfl
  all_goals
    unfold insR fin9 elm
    simp (decide := true) only [if_true, if_false, Option.bind_some, Sum.elim_inr, bs_a, bs_i, if_pos hc]
end
