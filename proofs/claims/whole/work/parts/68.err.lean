/-! THE CLASS'S PARSER once something is wrong: it only runs out -/
def Er (A : St) : Prop := A 56 5 ≠ -1
/-- J is as wrong as A -/
def Sw (A J : St) : Prop := J 56 5 = A 56 5
theorem Er.sw {A J : St} (h : Er A) (hs : Sw A J) : Er J := by
  unfold Er
  rw [hs]
  exact h
theorem Sw.tr {A J K : St} (h1 : Sw A J) (h2 : Sw J K) : Sw A K := h2.trans h1
theorem Sw.rf {A : St} : Sw A A := rfl
theorem Sw.u {A J : St} {k j : Nat} {v : Int32} (h : Sw A J) (hk : ¬ (k = 56 ∧ j = 5)) : Sw A (up2 J k j v) := by
  unfold Sw up2
  split
  · rename_i e
    split
    · rename_i e2
      exact absurd ⟨e.symm, e2.symm⟩ hk
    · exact h
  · exact h
theorem Sw.ts {A J : St} {k : Nat} {a b v : Int32} (h : Sw A J) (hk : sf k 2 ≠ 56) : Sw A (tset J k a b v) := by
  unfold Sw
  rw [tset_fld (Ne.symm hk)]
  exact h
theorem Sw.ta {A J : St} {k : Nat} (h : Sw A J) (hk : k ≠ 56) : Sw A (tadd J k) := by
  unfold tadd
  split
  · exact h.u (fun z => hk z.1)
  · exact h
theorem sfP {P : Nat} (hP : P = 3 ∨ P = 18) : sf (P + 1) 2 = P + 2 ∧ sf (P + 3) 2 = P + 4 ∧ sf (P + 5) 2 = P + 6 ∧ sf (P + 7) 2 = P + 8 ∧ sf (P + 9) 2 = P + 10 ∧ sf (P + 11) 2 = P + 12 ∧ sf (P + 13) 2 = P + 14 := by
  rcases hP with rfl | rfl <;> decide
section
variable {A : St} {P : Nat}
theorem x56_e (h : Er A) : x56 A = 7 := if_neg h
theorem x57_e (h : Er A) {x : Int32} : x57 A x = 0 := if_neg h
theorem x61_e (h : Er A) {x : Int32} : x61 A x = 0 := if_neg h
theorem x58_e (h : Er A) : x58 A = some A := if_neg h
theorem x62_e (h : Er A) {x : Int32} : x62 A x = some A := by
  unfold x62
  rw [x61_e h, if_pos rfl, x58_e h, Option.bind_some]
theorem x67_e (h : Er A) {x : Int32} : x67 A x = some (0, A) := by
  unfold x67
  rw [x57_e h, x57_e h, x57_e h, if_pos rfl, if_pos rfl, Option.bind_some, if_pos rfl, x58_e h]
  split
  · rfl
  · rfl
theorem x59_e (h : Er A) : x59 A = some (-1, A) := by
  unfold x59
  rw [x56_e h, if_neg (by decide), if_neg (by decide), x58_e h, Option.bind_some]
theorem x78_e (h : Er A) {x : Int32} : x78 A x = some (0, A) := by
  unfold x78
  rw [x56_e h, if_neg (by decide), x58_e h, Option.bind_some]
theorem x77_e (h : Er A) {x : Int32} : x77 A x = some (0, A) := by
  unfold x77
  rw [x61_e h, if_pos rfl, x78_e h, Option.bind_some]
theorem x66_e (hP : P = 3 ∨ P = 18) {k : Nat} (hk : k = P + 3 ∨ k = P + 5 ∨ k = P + 7) (h : Er A) {x : Int32} : ∃ v J, x66 k P A x = some (v, J) ∧ Sw A J := by
  obtain ⟨s1, s2, s3, s4, s5, s6, s7⟩ := sfP hP
  have h1 : Sw A (up2 A 56 3 (A 56 3 + 1)) := Sw.rf.u (by decide)
  have sk : sf k 2 ≠ 56 := by rcases hk with rfl | rfl | rfl <;> omega
  have nk : k ≠ 56 := by omega
  have s46 : sf 46 2 ≠ 56 := by decide
  refine ⟨_, _, by unfold x66; rw [x59_e (h.sw h1), Option.bind_some]; rfl, ?_⟩
  exact (((((((h1.ta nk).ts sk).ts sk).ts sk).ta (by decide)).ts s46).ts s46).ts s46
theorem l70_e (h : Er A) {b1 : Int32} {n : Nat} {b2 : Int32} : l70_37 P b1 (n + 1) b2 A = some (b2, A) := by
  rw [l70_37, x61_e h]
  split
  · rfl
  · split
    · rfl
    · rfl
theorem x70_e (hP : P = 3 ∨ P = 18) (h : Er A) {x : Int32} : ∃ J, x70 P A x = some J ∧ Sw A J := by
  obtain ⟨s1, s2, s3, s4, s5, s6, s7⟩ := sfP hP
  have sk : sf (P + 7) 2 ≠ 56 := by omega
  have h1 : Sw A (tset A (P + 7) x 10 0) := Sw.rf.ts sk
  have h2 : Sw A (tset (tset A (P + 7) x 10 0) (P + 7) x 4 1) := h1.ts sk
  refine ⟨_, ?_, h2⟩
  unfold x70
  rw [x62_e h, Option.bind_some, x61_e h, if_pos rfl, x67_e h, Option.bind_some, Option.bind_some]
  dsimp only
  rw [show (100000 : Nat) = 99999 + 1 from rfl, l70_e (h.sw h1), Option.bind_some]
  dsimp only
  rw [x62_e (h.sw h2), Option.bind_some]
theorem x79_e (hP : P = 3 ∨ P = 18) (h : Er A) {x y : Int32} : ∃ J, x79 P A x y = some J ∧ Sw A J := by
  obtain ⟨s1, s2, s3, s4, s5, s6, s7⟩ := sfP hP
  refine ⟨_, by unfold x79; rw [x59_e h, Option.bind_some], ?_⟩
  exact (Sw.rf.ts (by omega)).ts (by decide)
theorem l73_e (hP : P = 3 ∨ P = 18) {b2 : Int32} : ∀ n k (A : St), Er A → k ≤ 4 → 4 < k + n → ∃ J, l73_81 P b2 n (Int32.ofNat k) A = some J ∧ Sw A J := by
  obtain ⟨s1, s2, s3, s4, s5, s6, s7⟩ := sfP hP
  intro n
  induction n with
  | zero => intro k A h g1 g2; omega
  | succ n ih =>
    intro k A h g1 g2
    rw [l73_81]
    rcases Nat.lt_or_ge 3 k with z | z
    · rw [if_pos (by show Int32.ofNat 3 < _; rw [i32_lt (by decide) (by omega)]; exact z)]
      exact ⟨A, rfl, Sw.rf⟩
    · rw [if_neg (by show ¬ Int32.ofNat 3 < _; rw [i32_lt (by decide) (by omega)]; omega), x59_e h, Option.bind_some, i32_s]
      dsimp only
      have hs : Sw A (tset (tset A (P + 11) b2 (Int32.ofNat k) (-1)) 54 b2 (Int32.ofNat k) (tset A (P + 11) b2 (Int32.ofNat k) (-1) 56 6)) := (Sw.rf.ts (by omega)).ts (by decide)
      obtain ⟨J, j1, j2⟩ := ih (k + 1) _ (h.sw hs) (by omega) (by omega)
      exact ⟨J, j1, hs.tr j2⟩
end
