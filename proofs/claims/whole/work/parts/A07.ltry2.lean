/-! TRIES looked at by the reference -/
section
variable {Z k m n N t : Nat} {B I : St} {S : Nat → Nat → Prop}
/-- what look() leaves alone -/
def FrR (Z : Nat) (B I : St) : Prop := ∀ a b, (a ≠ 82 ∨ (b ≠ 5 ∧ b ≠ 22)) → a ≠ Z + 40 → a ≠ Z + 33 → (a ≠ Z + 27) → (a ≠ Z + 8) → I a b = B a b
def tto (B : St) (Z n N m t j : Nat) : Int32 := if j < 3 then lbv B Z (lbf B Z N m (B (Z + 38) (4 * t + j))) else oI (cls B Z (B (Z + 38) (4 * t + j)) n)
def ttn (B : St) (Z n N m t j : Nat) : Prop := if j < 3 then lbf B Z N m (B (Z + 38) (4 * t + j)) = none else cls B Z (B (Z + 38) (4 * t + j)) n = none
theorem rt_1 (hZ2 : 85 ≤ Z) (hN : B Z 10 = Int32.ofNat N) (hNb : N ≤ 1280) (hn0 : B Z 5 = Int32.ofNat n) (hn : n ≤ 19) (ht : t < 192) {j f : Nat} (hj : j < 4) (hp : Plc (B (Z + 39) (4 * t + j))) (h36 : ∀ l, l < N → ∃ x, x < 3000 ∧ B (Z + 36) l = Int32.ofNat x) (hI : NoR S I) (hf : FrR Z B I) : ∃ J, l224_12 Z (Int32.ofNat t) (Int32.ofNat m) (f + 1) (Int32.ofNat j) I = l224_12 Z (Int32.ofNat t) (Int32.ofNat m) f (Int32.ofNat (j + 1)) J ∧ NoR (UnS S (PtS (ttn B Z n N m t j) (B (Z + 39) (4 * t + j)) 2)) J ∧ FrR Z B J ∧ J (Z + 40) (4 * t + j) = tto B Z n N m t j ∧ ∀ a b, (a ≠ 82 ∨ (b ≠ 5 ∧ b ≠ 22)) → (a ≠ Z + 40 ∨ b ≠ 4 * t + j) → J a b = I a b := by
  have e4 : (4 : Int32) * Int32.ofNat t + Int32.ofNat j = Int32.ofNat (4 * t + j) := i32_4 (by omega) hj
  have hin : inb (Int32.ofNat (4 * t + j)) 800 := (i32_inb (by omega)).mpr (by omega)
  have hcl : (Int32.ofNat (4 * t + j)).toNatClampNeg = 4 * t + j := i32_cl (by omega)
  have hv : (if 3 ≤ Int32.ofNat j then x216 Z I (I (Z + 38) (4 * t + j)) (I Z 5) else x221 Z I (Int32.ofNat m) (I (Z + 38) (4 * t + j))) = some (tto B Z n N m t j) := by
    unfold tto
    rw [hf (Z + 38) _ (by omega) (by omega) (by omega) (by omega) (by omega), hf Z 5 (by omega) (by omega) (by omega) (by omega) (by omega), hn0, x216_f hn, x221_f hZ2 hN hNb (fun a b z => hf a b (by omega) (by omega) (by omega) (by omega) (by omega))]
    have hcc : fdn (fun c => decide (I (Z + 4) c = B (Z + 38) (4 * t + j))) n = cls B Z (B (Z + 38) (4 * t + j)) n := by
      unfold cls
      exact fdn_ext (fun c hc => by rw [hf (Z + 4) _ (by omega) (by omega) (by omega) (by omega) (by omega)])
    rw [hcc]
    by_cases z : j < 3
    · rw [if_neg (fun y => by rw [i32_l2 (x := 3) (b := 3) rfl (by omega) (by decide)] at y; omega), if_pos z]
    · rw [if_pos ((i32_l2 (x := 3) (b := 3) rfl (by omega) (by decide)).mpr (by omega)), if_neg z]
  have hnn : tto B Z n N m t j = -1 ↔ ttn B Z n N m t j := by
    unfold tto ttn
    by_cases z : j < 3
    · rw [if_pos z, if_pos z]
      cases w : lbf B Z N m (B (Z + 38) (4 * t + j)) with
      | none => exact ⟨fun _ => rfl, fun _ => rfl⟩
      | some l =>
        obtain ⟨x, x1, x2⟩ := h36 l (fdn_lt w)
        refine ⟨fun y => ?_, fun y => (nomatch y)⟩
        rw [lbv, x2] at y
        exact absurd y (i32_m1 (by omega))
    · rw [if_neg z, if_neg z]
      exact cls_m1 hn
  have eq : l224_12 Z (Int32.ofNat t) (Int32.ofNat m) (f + 1) (Int32.ofNat j) I = (if tto B Z n N m t j = -1 then x217 (up2 I (Z + 40) (4 * t + j) (tto B Z n N m t j)) 2 (B (Z + 39) (4 * t + j)) else some (up2 I (Z + 40) (4 * t + j) (tto B Z n N m t j))).bind fun q => l224_12 Z (Int32.ofNat t) (Int32.ofNat m) f (Int32.ofNat (j + 1)) q := by
    rw [l224_12, if_neg (by rw [i32_l2 (x := 4) (b := 4) rfl (by omega) (by decide)]; omega)]
    simp only [e4, if_pos hin, hcl, i32_s, Option.bind_fun_some]
    rw [hv, Option.bind_some, up2_o (by omega), hf (Z + 39) _ (by omega) (by omega) (by omega) (by omega) (by omega)]
    split
    · rfl
    · rfl
  have hI1 : NoR S (up2 I (Z + 40) (4 * t + j) (tto B Z n N m t j)) := hI.of (up2_o (by omega)) (up2_o (by omega))
  obtain ⟨J, j1, j2, j3⟩ := x217_c (c := tto B Z n N m t j = -1) hI1 (fun _ => hp) (show (2 : Int32) = Int32.ofNat 2 from rfl) (by decide) (by decide)
  refine ⟨J, by rw [eq, j1, Option.bind_some], j2.ext (fun q k' => ?_), fun a b z1 z2 z3 z4 z5 => ?_, ?_, fun a b z1 z2 => ?_⟩
  · unfold UnS PtS
    rw [hnn]
  · rw [j3 a b z1, up2_o (by omega), hf a b z1 z2 z3 z4 z5]
  · rw [j3 _ _ (by omega), up2_s]
  · rw [j3 a b z1, up2_o z2]
theorem x224_l (hZ2 : 85 ≤ Z) (hN : B Z 10 = Int32.ofNat N) (hNb : N ≤ 1280) (hn0 : B Z 5 = Int32.ofNat n) (hn : n ≤ 19) (ht : t < 192) (h37 : B (Z + 37) t = Int32.ofNat m) (hp : ∀ j, j < 4 → Plc (B (Z + 39) (4 * t + j))) (h36 : ∀ l, l < N → ∃ x, x < 3000 ∧ B (Z + 36) l = Int32.ofNat x) (hI : NoR S I) (hf : FrR Z B I) : ∃ J, x224 Z I (Int32.ofNat t) = some J ∧ NoR (UnS S (STr B Z n N m t)) J ∧ FrR Z B J ∧ (∀ j, j < 4 → J (Z + 40) (4 * t + j) = tto B Z n N m t j) ∧ ∀ a b, (a ≠ 82 ∨ (b ≠ 5 ∧ b ≠ 22)) → (a ≠ Z + 40 ∨ b < 4 * t ∨ 4 * t + 4 ≤ b) → J a b = I a b := by
  obtain ⟨J1, a1, a2, a3, a4, a5⟩ := rt_1 (j := 0) (f := 99999) (m := m) hZ2 hN hNb hn0 hn ht (by omega) (hp 0 (by omega)) h36 hI hf
  obtain ⟨J2, b1, b2, b3, b4, b5⟩ := rt_1 (j := 1) (f := 99998) (m := m) hZ2 hN hNb hn0 hn ht (by omega) (hp 1 (by omega)) h36 a2 a3
  obtain ⟨J3, c1, c2, c3, c4, c5⟩ := rt_1 (j := 2) (f := 99997) (m := m) hZ2 hN hNb hn0 hn ht (by omega) (hp 2 (by omega)) h36 b2 b3
  obtain ⟨J4, d1, d2, d3, d4, d5⟩ := rt_1 (j := 3) (f := 99996) (m := m) hZ2 hN hNb hn0 hn ht (by omega) (hp 3 (by omega)) h36 c2 c3
  have v3 : J4 (Z + 40) (4 * t + 2) = tto B Z n N m t 2 := by rw [d5 _ _ (by omega) (by omega)]; exact c4
  have v2 : J4 (Z + 40) (4 * t + 1) = tto B Z n N m t 1 := by rw [d5 _ _ (by omega) (by omega), c5 _ _ (by omega) (by omega)]; exact b4
  have v1 : J4 (Z + 40) (4 * t) = tto B Z n N m t 0 := by rw [d5 _ _ (by omega) (by omega), c5 _ _ (by omega) (by omega), b5 _ _ (by omega) (by omega)]; exact a4
  have hl : l224_12 Z (Int32.ofNat t) (Int32.ofNat m) 100000 0 I = some J4 := by
    show l224_12 Z (Int32.ofNat t) (Int32.ofNat m) (99999 + 1) (Int32.ofNat 0) I = some J4
    rw [a1]
    show l224_12 Z (Int32.ofNat t) (Int32.ofNat m) (99998 + 1) (Int32.ofNat 1) J1 = some J4
    rw [b1]
    show l224_12 Z (Int32.ofNat t) (Int32.ofNat m) (99997 + 1) (Int32.ofNat 2) J2 = some J4
    rw [c1]
    show l224_12 Z (Int32.ofNat t) (Int32.ofNat m) (99996 + 1) (Int32.ofNat 3) J3 = some J4
    rw [d1]
    show l224_12 Z (Int32.ofNat t) (Int32.ofNat m) (99995 + 1) (Int32.ofNat 4) J4 = some J4
    rw [l224_12, if_pos (by decide)]
  have hit : inb (Int32.ofNat t) 200 := (i32_inb (by omega)).mpr (by omega)
  have hct : (Int32.ofNat t).toNatClampNeg = t := i32_cl (by omega)
  have m0 : (4 : Int32) * Int32.ofNat t = Int32.ofNat (4 * t) := by
    have := i32_4 (t := t) (j := 0) (by omega) (by omega)
    rw [← Int32.add_zero (4 * Int32.ofNat t)]
    exact this
  have m1 : Int32.ofNat (4 * t) + 1 = Int32.ofNat (4 * t + 1) := i32_s
  have m2 : Int32.ofNat (4 * t) + 2 = Int32.ofNat (4 * t + 2) := i32_a _ 2
  have n0 : inb (Int32.ofNat (4 * t)) 800 := (i32_inb (by omega)).mpr (by omega)
  have n1 : inb (Int32.ofNat (4 * t + 1)) 800 := (i32_inb (by omega)).mpr (by omega)
  have n2 : inb (Int32.ofNat (4 * t + 2)) 800 := (i32_inb (by omega)).mpr (by omega)
  have q0 : (Int32.ofNat (4 * t)).toNatClampNeg = 4 * t := i32_cl (by omega)
  have q1 : (Int32.ofNat (4 * t + 1)).toNatClampNeg = 4 * t + 1 := i32_cl (by omega)
  have q2 : (Int32.ofNat (4 * t + 2)).toNatClampNeg = 4 * t + 2 := i32_cl (by omega)
  have eq : x224 Z I (Int32.ofNat t) = (if tto B Z n N m t 0 = -1 then some 0 else if tto B Z n N m t 1 = -1 then some 0 else if tto B Z n N m t 2 = -1 then some 0 else some 1).bind fun (q : Int32) => if q = 0 then some J4 else if tto B Z n N m t 0 < tto B Z n N m t 1 then some J4 else x217 J4 4 (B (Z + 39) (4 * t)) := by
    unfold x224
    simp only [if_pos hit, hct]
    rw [hf (Z + 37) _ (by omega) (by omega) (by omega) (by omega) (by omega), h37, hl, Option.bind_some]
    simp only [m0, m1, m2, if_pos n0, if_pos n1, if_pos n2, q0, q1, q2, Option.bind_fun_some]
    rw [v1, v2, v3, d3 (Z + 39) _ (by omega) (by omega) (by omega) (by omega) (by omega)]
  have hs : ∀ j, j < 3 → ∀ l, lbf B Z N m (B (Z + 38) (4 * t + j)) = some l → tto B Z n N m t j = B (Z + 36) l ∧ ¬ tto B Z n N m t j = -1 := fun j hj l hl => by
    obtain ⟨x, x1, x2⟩ := h36 l (fdn_lt hl)
    unfold tto
    rw [if_pos hj, hl]
    exact ⟨rfl, by rw [lbv, x2]; exact i32_m1 (by omega)⟩
  have hno : ∀ j, j < 3 → lbf B Z N m (B (Z + 38) (4 * t + j)) = none → tto B Z n N m t j = -1 := fun j hj hl => by
    unfold tto
    rw [if_pos hj, hl]
    rfl
  have fin : ∃ J, x224 Z I (Int32.ofNat t) = some J ∧ NoR (UnS (UnS (UnS (UnS (UnS S (PtS (ttn B Z n N m t 0) (B (Z + 39) (4 * t + 0)) 2)) (PtS (ttn B Z n N m t 1) (B (Z + 39) (4 * t + 1)) 2)) (PtS (ttn B Z n N m t 2) (B (Z + 39) (4 * t + 2)) 2)) (PtS (ttn B Z n N m t 3) (B (Z + 39) (4 * t + 3)) 2)) (PtS (emT B Z N m t) (B (Z + 39) (4 * t)) 4)) J ∧ ∀ a b, (a ≠ 82 ∨ (b ≠ 5 ∧ b ≠ 22)) → J a b = J4 a b := by
    have no : ¬ emT B Z N m t → ∀ S q k', S q k' ↔ UnS S (PtS (emT B Z N m t) (B (Z + 39) (4 * t)) 4) q k' := fun z S q k' => by
      unfold UnS PtS
      simp only [z, false_and, or_false]
    rw [eq]
    cases w1 : lbf B Z N m (B (Z + 38) (4 * t + 0)) with
    | none =>
      rw [if_pos (hno 0 (by omega) w1), Option.bind_some, if_pos rfl]
      exact ⟨J4, rfl, d2.ext (no (fun ⟨a, b, c, y1, _⟩ => by rw [show 4 * t = 4 * t + 0 from rfl, w1] at y1; cases y1) _), fun _ _ _ => rfl⟩
    | some l1 =>
      rw [if_neg (hs 0 (by omega) l1 w1).2]
      cases w2 : lbf B Z N m (B (Z + 38) (4 * t + 1)) with
      | none =>
        rw [if_pos (hno 1 (by omega) w2), Option.bind_some, if_pos rfl]
        exact ⟨J4, rfl, d2.ext (no (fun ⟨a, b, c, y1, y2, _⟩ => by rw [w2] at y2; cases y2) _), fun _ _ _ => rfl⟩
      | some l2 =>
        rw [if_neg (hs 1 (by omega) l2 w2).2]
        cases w3 : lbf B Z N m (B (Z + 38) (4 * t + 2)) with
        | none =>
          rw [if_pos (hno 2 (by omega) w3), Option.bind_some, if_pos rfl]
          exact ⟨J4, rfl, d2.ext (no (fun ⟨a, b, c, y1, y2, y3, _⟩ => by rw [w3] at y3; cases y3) _), fun _ _ _ => rfl⟩
        | some l3 =>
          rw [if_neg (hs 2 (by omega) l3 w3).2, Option.bind_some, if_neg (by decide), (hs 0 (by omega) l1 w1).1, (hs 1 (by omega) l2 w2).1]
          by_cases y : B (Z + 36) l1 < B (Z + 36) l2
          · rw [if_pos y]
            refine ⟨J4, rfl, d2.ext (no (fun ⟨a, b, c, y1, y2, y3, y4⟩ => ?_) _), fun _ _ _ => rfl⟩
            rw [show 4 * t = 4 * t + 0 from rfl, w1] at y1
            rw [w2] at y2
            cases y1
            cases y2
            exact y4 y
          · rw [if_neg y]
            obtain ⟨J5, k1, k2, k3⟩ := x217_y d2 (hp 0 (by omega)) (show (4 : Int32) = Int32.ofNat 4 from rfl) (by decide) (by decide)
            refine ⟨J5, k1, k2.ext (fun q k' => ?_), k3⟩
            have hy : emT B Z N m t := ⟨l1, l2, l3, w1, w2, w3, y⟩
            unfold UnS PtS
            simp only [hy, Nat.add_zero]
  obtain ⟨J, k1, k2, k3⟩ := fin
  refine ⟨J, k1, k2.ext (fun q k' => ?_), fun a b z1 z2 z3 z4 z5 => by rw [k3 a b z1]; exact d3 a b z1 z2 z3 z4 z5, fun j hj => ?_, fun a b z1 z2 => ?_⟩
  · unfold UnS STr ttn
    simp only [Nat.add_zero, show (0 : Nat) < 3 by omega, show (1 : Nat) < 3 by omega, show (2 : Nat) < 3 by omega, show ¬ (3 : Nat) < 3 by omega, if_true, if_false]
    constructor
    · rintro (((((z | z) | z) | z) | z) | z)
      · exact Or.inl z
      · exact Or.inr (Or.inl z)
      · exact Or.inr (Or.inr (Or.inl z))
      · exact Or.inr (Or.inr (Or.inr (Or.inl z)))
      · exact Or.inr (Or.inr (Or.inr (Or.inr (Or.inl z))))
      · exact Or.inr (Or.inr (Or.inr (Or.inr (Or.inr z))))
    · rintro (z | z | z | z | z | z)
      · exact Or.inl (Or.inl (Or.inl (Or.inl (Or.inl z))))
      · exact Or.inl (Or.inl (Or.inl (Or.inl (Or.inr z))))
      · exact Or.inl (Or.inl (Or.inl (Or.inr z)))
      · exact Or.inl (Or.inl (Or.inr z))
      · exact Or.inl (Or.inr z)
      · exact Or.inr z
  · rw [k3 _ _ (by omega)]
    obtain rfl | rfl | rfl | rfl : j = 0 ∨ j = 1 ∨ j = 2 ∨ j = 3 := by omega
    · exact v1
    · exact v2
    · exact v3
    · exact d4
  · rw [k3 a b z1, d5 a b z1 (by omega), c5 a b z1 (by omega), b5 a b z1 (by omega), a5 a b z1 (by omega)]
end
