/-! THE MACHINES: tables, values, frames -/
theorem m80 : (∀ (I : St) (i : Nat), i < 768 → tget I 80 (Int32.ofNat i) 0 = I 81 (2 * i)) ∧ (∀ (I : St) (i : Nat), i < 768 → tget I 80 (Int32.ofNat i) 1 = I 81 (2 * i + 1)) ∧ (∀ (I : St) (i : Nat) (v : Int32), i < 768 → tset I 80 (Int32.ofNat i) 0 v = up2 I 81 (2 * i) v) ∧ (∀ (I : St) (i : Nat) (v : Int32), i < 768 → tset I 80 (Int32.ofNat i) 1 v = up2 I 81 (2 * i + 1) v) := by
  exact ⟨fun I i h => tg_n (c := 0) (by decide) (by decide) h rfl (by decide), fun I i h => tg_n (c := 1) (by decide) (by decide) h rfl (by decide), fun I i v h => ts_n (c := 0) (by decide) (by decide) h rfl (by decide), fun I i v h => ts_n (c := 1) (by decide) (by decide) h rfl (by decide)⟩
theorem m70 : (∀ (I : St) (i : Nat), i < 3000 → tget I 70 (Int32.ofNat i) 0 = I 71 (4 * i)) ∧ (∀ (I : St) (i : Nat), i < 3000 → tget I 70 (Int32.ofNat i) 1 = I 71 (4 * i + 1)) ∧ (∀ (I : St) (i : Nat), i < 3000 → tget I 70 (Int32.ofNat i) 2 = I 71 (4 * i + 2)) ∧ (∀ (I : St) (i : Nat), i < 3000 → tget I 70 (Int32.ofNat i) 3 = I 71 (4 * i + 3)) ∧ (∀ (I : St) (i : Nat) (v : Int32), i < 3000 → tset I 70 (Int32.ofNat i) 0 v = up2 I 71 (4 * i) v) ∧ (∀ (I : St) (i : Nat) (v : Int32), i < 3000 → tset I 70 (Int32.ofNat i) 1 v = up2 I 71 (4 * i + 1) v) ∧ (∀ (I : St) (i : Nat) (v : Int32), i < 3000 → tset I 70 (Int32.ofNat i) 2 v = up2 I 71 (4 * i + 2) v) ∧ (∀ (I : St) (i : Nat) (v : Int32), i < 3000 → tset I 70 (Int32.ofNat i) 3 v = up2 I 71 (4 * i + 3) v) := by
  exact ⟨fun I i h => tg_n (c := 0) (by decide) (by decide) h rfl (by decide), fun I i h => tg_n (c := 1) (by decide) (by decide) h rfl (by decide), fun I i h => tg_n (c := 2) (by decide) (by decide) h rfl (by decide), fun I i h => tg_n (c := 3) (by decide) (by decide) h rfl (by decide), fun I i v h => ts_n (c := 0) (by decide) (by decide) h rfl (by decide), fun I i v h => ts_n (c := 1) (by decide) (by decide) h rfl (by decide), fun I i v h => ts_n (c := 2) (by decide) (by decide) h rfl (by decide), fun I i v h => ts_n (c := 3) (by decide) (by decide) h rfl (by decide)⟩
theorem m72 : (∀ (I : St) (i : Nat), i < 3000 → tget I 72 (Int32.ofNat i) 0 = I 73 (2 * i)) ∧ (∀ (I : St) (i : Nat), i < 3000 → tget I 72 (Int32.ofNat i) 1 = I 73 (2 * i + 1)) ∧ (∀ (I : St) (i : Nat) (v : Int32), i < 3000 → tset I 72 (Int32.ofNat i) 0 v = up2 I 73 (2 * i) v) ∧ (∀ (I : St) (i : Nat) (v : Int32), i < 3000 → tset I 72 (Int32.ofNat i) 1 v = up2 I 73 (2 * i + 1) v) := by
  exact ⟨fun I i h => tg_n (c := 0) (by decide) (by decide) h rfl (by decide), fun I i h => tg_n (c := 1) (by decide) (by decide) h rfl (by decide), fun I i v h => ts_n (c := 0) (by decide) (by decide) h rfl (by decide), fun I i v h => ts_n (c := 1) (by decide) (by decide) h rfl (by decide)⟩
theorem m74 : (∀ (I : St) (i : Nat), i < 16 → tget I 74 (Int32.ofNat i) 0 = I 75 (2 * i)) ∧ (∀ (I : St) (i : Nat), i < 16 → tget I 74 (Int32.ofNat i) 1 = I 75 (2 * i + 1)) ∧ (∀ (I : St) (i : Nat) (v : Int32), i < 16 → tset I 74 (Int32.ofNat i) 0 v = up2 I 75 (2 * i) v) ∧ (∀ (I : St) (i : Nat) (v : Int32), i < 16 → tset I 74 (Int32.ofNat i) 1 v = up2 I 75 (2 * i + 1) v) := by
  exact ⟨fun I i h => tg_n (c := 0) (by decide) (by decide) h rfl (by decide), fun I i h => tg_n (c := 1) (by decide) (by decide) h rfl (by decide), fun I i v h => ts_n (c := 0) (by decide) (by decide) h rfl (by decide), fun I i v h => ts_n (c := 1) (by decide) (by decide) h rfl (by decide)⟩
theorem m76 : (∀ (I : St) (i : Nat), i < 500 → tget I 76 (Int32.ofNat i) 0 = I 77 (4 * i)) ∧ (∀ (I : St) (i : Nat), i < 500 → tget I 76 (Int32.ofNat i) 1 = I 77 (4 * i + 1)) ∧ (∀ (I : St) (i : Nat), i < 500 → tget I 76 (Int32.ofNat i) 2 = I 77 (4 * i + 2)) ∧ (∀ (I : St) (i : Nat), i < 500 → tget I 76 (Int32.ofNat i) 3 = I 77 (4 * i + 3)) ∧ (∀ (I : St) (i : Nat) (v : Int32), i < 500 → tset I 76 (Int32.ofNat i) 0 v = up2 I 77 (4 * i) v) ∧ (∀ (I : St) (i : Nat) (v : Int32), i < 500 → tset I 76 (Int32.ofNat i) 1 v = up2 I 77 (4 * i + 1) v) ∧ (∀ (I : St) (i : Nat) (v : Int32), i < 500 → tset I 76 (Int32.ofNat i) 2 v = up2 I 77 (4 * i + 2) v) ∧ (∀ (I : St) (i : Nat) (v : Int32), i < 500 → tset I 76 (Int32.ofNat i) 3 v = up2 I 77 (4 * i + 3) v) := by
  exact ⟨fun I i h => tg_n (c := 0) (by decide) (by decide) h rfl (by decide), fun I i h => tg_n (c := 1) (by decide) (by decide) h rfl (by decide), fun I i h => tg_n (c := 2) (by decide) (by decide) h rfl (by decide), fun I i h => tg_n (c := 3) (by decide) (by decide) h rfl (by decide), fun I i v h => ts_n (c := 0) (by decide) (by decide) h rfl (by decide), fun I i v h => ts_n (c := 1) (by decide) (by decide) h rfl (by decide), fun I i v h => ts_n (c := 2) (by decide) (by decide) h rfl (by decide), fun I i v h => ts_n (c := 3) (by decide) (by decide) h rfl (by decide)⟩
theorem m78 : (∀ (I : St) (i : Nat), i < 24 → tget I 78 (Int32.ofNat i) 0 = I 79 (3 * i)) ∧ (∀ (I : St) (i : Nat), i < 24 → tget I 78 (Int32.ofNat i) 1 = I 79 (3 * i + 1)) ∧ (∀ (I : St) (i : Nat), i < 24 → tget I 78 (Int32.ofNat i) 2 = I 79 (3 * i + 2)) ∧ (∀ (I : St) (i : Nat) (v : Int32), i < 24 → tset I 78 (Int32.ofNat i) 0 v = up2 I 79 (3 * i) v) ∧ (∀ (I : St) (i : Nat) (v : Int32), i < 24 → tset I 78 (Int32.ofNat i) 1 v = up2 I 79 (3 * i + 1) v) ∧ (∀ (I : St) (i : Nat) (v : Int32), i < 24 → tset I 78 (Int32.ofNat i) 2 v = up2 I 79 (3 * i + 2) v) := by
  exact ⟨fun I i h => tg_n (c := 0) (by decide) (by decide) h rfl (by decide), fun I i h => tg_n (c := 1) (by decide) (by decide) h rfl (by decide), fun I i h => tg_n (c := 2) (by decide) (by decide) h rfl (by decide), fun I i v h => ts_n (c := 0) (by decide) (by decide) h rfl (by decide), fun I i v h => ts_n (c := 1) (by decide) (by decide) h rfl (by decide), fun I i v h => ts_n (c := 2) (by decide) (by decide) h rfl (by decide)⟩
theorem m62 : (∀ (I : St) (i : Nat), i < 16 → tget I 62 (Int32.ofNat i) 0 = I 63 (i)) ∧ (∀ (I : St) (i : Nat) (v : Int32), i < 16 → tset I 62 (Int32.ofNat i) 0 v = up2 I 63 (i) v) := by
  exact ⟨fun I i h => (tg_n (k := 62) (c := 0) (by decide) (by decide) h rfl (by decide)).trans (by rw [show sf 62 1 = 1 from rfl, Nat.one_mul]; rfl), fun I i v h => (ts_n (k := 62) (c := 0) (by decide) (by decide) h rfl (by decide)).trans (by rw [show sf 62 1 = 1 from rfl, Nat.one_mul]; rfl)⟩
theorem m64 : (∀ (I : St) (i : Nat), i < 16 → tget I 64 (Int32.ofNat i) 0 = I 65 (i)) ∧ (∀ (I : St) (i : Nat) (v : Int32), i < 16 → tset I 64 (Int32.ofNat i) 0 v = up2 I 65 (i) v) := by
  exact ⟨fun I i h => (tg_n (k := 64) (c := 0) (by decide) (by decide) h rfl (by decide)).trans (by rw [show sf 64 1 = 1 from rfl, Nat.one_mul]; rfl), fun I i v h => (ts_n (k := 64) (c := 0) (by decide) (by decide) h rfl (by decide)).trans (by rw [show sf 64 1 = 1 from rfl, Nat.one_mul]; rfl)⟩
theorem m66 : (∀ (I : St) (i : Nat), i < 7 → tget I 66 (Int32.ofNat i) 0 = I 67 (2 * i)) ∧ (∀ (I : St) (i : Nat), i < 7 → tget I 66 (Int32.ofNat i) 1 = I 67 (2 * i + 1)) ∧ (∀ (I : St) (i : Nat) (v : Int32), i < 7 → tset I 66 (Int32.ofNat i) 0 v = up2 I 67 (2 * i) v) ∧ (∀ (I : St) (i : Nat) (v : Int32), i < 7 → tset I 66 (Int32.ofNat i) 1 v = up2 I 67 (2 * i + 1) v) := by
  exact ⟨fun I i h => tg_n (c := 0) (by decide) (by decide) h rfl (by decide), fun I i h => tg_n (c := 1) (by decide) (by decide) h rfl (by decide), fun I i v h => ts_n (c := 0) (by decide) (by decide) h rfl (by decide), fun I i v h => ts_n (c := 1) (by decide) (by decide) h rfl (by decide)⟩
def VR (N k : Nat) (x y : Int32) : Prop := (k = 1 ∧ x = y) ∨ (k = 2 ∧ ((x = -1 ∧ y = 0) ∨ ∃ r, r < N ∧ x = Int32.ofNat r ∧ y = Int32.ofNat (r + 1)))
theorem VR.mo {N N' k : Nat} {x y : Int32} (h : VR N k x y) (hN : N ≤ N') : VR N' k x y := by
  rcases h with h | ⟨h, h1 | ⟨r, h1, h2⟩⟩
  · exact Or.inl h
  · exact Or.inr ⟨h, Or.inl h1⟩
  · exact Or.inr ⟨h, Or.inr ⟨r, by omega, h2⟩⟩
theorem VR.i {N : Nat} {x y : Int32} (h : VR N 1 x y) : x = y := by
  rcases h with h | ⟨h, -⟩
  · exact h.2
  · cases h
theorem VR.r {N : Nat} {x y : Int32} (h : VR N 2 x y) : (x = -1 ∧ y = 0) ∨ ∃ r, r < N ∧ x = Int32.ofNat r ∧ y = Int32.ofNat (r + 1) := by
  rcases h with ⟨h, -⟩ | ⟨-, h⟩
  · cases h
  · exact h
def kbt (r j : Nat) : Nat := if r.testBit j then 2 else 1
/-- a frame's values: stack of h kinds r, locals l -/
def FV (N g h r : Nat) (l : Nat × Nat × Nat) (A B : St) : Prop := (∀ j, j < h → VR N (kbt r j) (A 81 (2 * (32 * g + 16 + j))) (B 198 (16 * g + j)) ∧ A 81 (2 * (32 * g + 16 + j) + 1) = B 199 (16 * g + j)) ∧ ∀ k, k < 16 → (wvl l k = 1 ∨ wvl l k = 2) → VR N (wvl l k) (A 81 (2 * (32 * g + k))) (B 196 (16 * g + k)) ∧ A 81 (2 * (32 * g + k) + 1) = B 197 (16 * g + k)
theorem FV.of {N N' g h r : Nat} {l : Nat × Nat × Nat} {A B A' B' : St} (h0 : FV N g h r l A B) (hN : N ≤ N') (hA : ∀ b, 64 * g ≤ b → b < 64 * g + 64 → A' 81 b = A 81 b) (hB : ∀ a b, (196 ≤ a ∧ a ≤ 199) → 16 * g ≤ b → b < 16 * g + 16 → B' a b = B a b) (h16 : h ≤ 16) : FV N' g h r l A' B' := by
  refine ⟨fun j hj => ?_, fun k hk hw => ?_⟩
  · rw [hA _ (by omega) (by omega), hA _ (by omega) (by omega), hB _ _ (by omega) (by omega) (by omega), hB _ _ (by omega) (by omega) (by omega)]
    exact ⟨(h0.1 j hj).1.mo hN, (h0.1 j hj).2⟩
  · rw [hA _ (by omega) (by omega), hA _ (by omega) (by omega), hB _ _ (by omega) (by omega) (by omega), hB _ _ (by omega) (by omega) (by omega)]
    exact ⟨(h0.2 k hk hw).1.mo hN, (h0.2 k hk hw).2⟩
/-- pointers: level, height -/
def PT (dp h : Nat) (A B : St) : Prop := A 68 7 = Int32.ofNat dp ∧ B 82 55 = Int32.ofNat dp ∧ dp < 24 ∧ A 68 11 = Int32.ofNat h ∧ B 82 65 = Int32.ofNat h ∧ h ≤ 16
theorem i32_m32 {g k : Nat} : Int32.ofNat g * 32 + Int32.ofNat k = Int32.ofNat (32 * g + k) := by
  rw [show (32 : Int32) = Int32.ofNat 32 from rfl, ← Int32.ofNat_mul, i32_a, Nat.mul_comm]
theorem i32_m16 {g k : Nat} : (16 : Int32) * Int32.ofNat g + Int32.ofNat k = Int32.ofNat (16 * g + k) := by
  rw [show (16 : Int32) = Int32.ofNat 16 from rfl, ← Int32.ofNat_mul, i32_a]
section
variable {dp h r N : Nat} {l : Nat × Nat × Nat} {A B : St}
theorem os_n (h0 : PT dp h A B) {j : Nat} (hj : j < h) {x : Int32} (hx : x = Int32.ofNat j) : x132 A x = Int32.ofNat (32 * dp + 16 + (h - 1 - j)) := by
  obtain ⟨p1, p2, p3, p4, p5, p6⟩ := h0
  unfold x132
  rw [p1, p4, hx, show (16 : Int32) = Int32.ofNat 16 from rfl, i32_m32, i32_a, show (1 : Int32) = Int32.ofNat 1 from rfl, i32_sb (by omega), i32_sb (by omega)]
  congr 1
  omega
/-- what has j above it: on the class's stack -/
theorem val_n (h0 : PT dp h A B) {j : Nat} (hj : j < h) {x : Int32} (hx : x = Int32.ofNat j) : x133 A x = A 81 (2 * (32 * dp + 16 + (h - 1 - j))) ∧ x134 A x = A 81 (2 * (32 * dp + 16 + (h - 1 - j)) + 1) := by
  have h2 := h0
  obtain ⟨p1, p2, p3, p4, p5, p6⟩ := h2
  unfold x133 x134
  rw [os_n h0 hj hx]
  exact ⟨m80.1 A _ (by omega), m80.2.1 A _ (by omega)⟩
theorem loc_n (h0 : PT dp h A B) {k : Nat} (hk : k < 16) : x128 A (Int32.ofNat k) = Int32.ofNat (32 * dp + k) := by
  unfold x128
  rw [h0.1, i32_m32]
/-- the class's push -/
theorem psh_n (h0 : PT dp h A B) (hh : h < 16) {v w : Int32} : x131 A v w = some (up2 (up2 (up2 A 68 11 (Int32.ofNat (h + 1))) 81 (2 * (32 * dp + 16 + h)) v) 81 (2 * (32 * dp + 16 + h) + 1) w) := by
  obtain ⟨p1, p2, p3, p4, p5, p6⟩ := h0
  have e : x132 (up2 A 68 11 (Int32.ofNat (h + 1))) 0 = Int32.ofNat (32 * dp + 16 + h) := by
    unfold x132
    rw [up2_o (by omega), up2_s, p1, show (16 : Int32) = Int32.ofNat 16 from rfl, i32_m32, i32_a, show (1 : Int32) = Int32.ofNat 1 from rfl, i32_sb (by omega), show (0 : Int32) = Int32.ofNat 0 from rfl, i32_sb (by omega)]
    congr 1
  unfold x131 tset2
  rw [p4, i32_s, e]
  simp (disch := omega) only [m80]
theorem drp_n (h0 : PT dp h A B) {j : Nat} (hj : j ≤ h) {x : Int32} (hx : x = Int32.ofNat j) : x135 A x = some (up2 A 68 11 (Int32.ofNat (h - j))) := by
  unfold x135
  rw [h0.2.2.2.1, hx, i32_sb hj]
/-- the reference's pop -/
theorem pop_n (h0 : PT dp h A B) (hh : 0 < h) : x240 B = some (B 198 (16 * dp + (h - 1)), up2 (up2 B 82 65 (Int32.ofNat (h - 1))) 82 66 (B 199 (16 * dp + (h - 1)))) := by
  obtain ⟨p1, p2, p3, p4, p5, p6⟩ := h0
  have e1 : Int32.ofNat h - 1 = Int32.ofNat (h - 1) := i32_sb (b := 1) (by omega)
  have hi : inb (Int32.ofNat (16 * dp + (h - 1))) 384 := (i32_inb (by omega)).mpr (by omega)
  have hc : (Int32.ofNat (16 * dp + (h - 1))).toNatClampNeg = 16 * dp + (h - 1) := i32_cl (by omega)
  unfold x240 Lt
  simp (disch := omega) only [p5, p2, e1, i32_m16, if_pos hi, hc, up2_o, up2_s]
theorem rps_n (h0 : PT dp h A B) (hh : h < 16) {v w : Int32} : x239 B v w = some (up2 (up2 (up2 B 198 (16 * dp + h) v) 199 (16 * dp + h) w) 82 65 (Int32.ofNat (h + 1))) := by
  obtain ⟨p1, p2, p3, p4, p5, p6⟩ := h0
  have hi : inb (Int32.ofNat (16 * dp + h)) 384 := (i32_inb (by omega)).mpr (by omega)
  have hc : (Int32.ofNat (16 * dp + h)).toNatClampNeg = 16 * dp + h := i32_cl (by omega)
  unfold x239 Lt
  simp (disch := omega) only [p5, p2, i32_m16, if_pos hi, hc, up2_o, i32_s]
/-- both push -/
theorem FV.push (h0 : FV N dp h r l A B) {A' B' : St} {k r' : Nat} {v v' w : Int32} (hv : VR N k v v') (hr : ∀ j, j < h → kbt r' j = kbt r j) (hk : kbt r' h = k) (hA1 : A' 81 (2 * (32 * dp + 16 + h)) = v ∧ A' 81 (2 * (32 * dp + 16 + h) + 1) = w) (hB1 : B' 198 (16 * dp + h) = v' ∧ B' 199 (16 * dp + h) = w) (hA : ∀ b, b ≠ 2 * (32 * dp + 16 + h) → b ≠ 2 * (32 * dp + 16 + h) + 1 → 64 * dp ≤ b → b < 64 * dp + 64 → A' 81 b = A 81 b) (hB : ∀ a b, (196 ≤ a ∧ a ≤ 199) → (b ≠ 16 * dp + h ∨ a < 198) → 16 * dp ≤ b → b < 16 * dp + 16 → B' a b = B a b) (h16 : h < 16) : FV N dp (h + 1) r' l A' B' := by
  refine ⟨fun j hj => ?_, fun k hk hw => ?_⟩
  · by_cases y : j = h
    · subst y
      rw [hA1.1, hA1.2, hB1.1, hB1.2, hk]
      exact ⟨hv, rfl⟩
    · rw [hA _ (by omega) (by omega) (by omega) (by omega), hA _ (by omega) (by omega) (by omega) (by omega), hB _ _ (by omega) (by omega) (by omega) (by omega), hB _ _ (by omega) (by omega) (by omega) (by omega), hr j (by omega)]
      exact h0.1 j (by omega)
  · rw [hA _ (by omega) (by omega) (by omega) (by omega), hA _ (by omega) (by omega) (by omega) (by omega), hB _ _ (by omega) (by omega) (by omega) (by omega), hB _ _ (by omega) (by omega) (by omega) (by omega)]
    exact h0.2 k hk hw
theorem FV.pop (h0 : FV N dp h r l A B) {h' r' : Nat} (hh : h' ≤ h) (hr : ∀ j, j < h' → kbt r' j = kbt r j) : FV N dp h' r' l A B := ⟨fun j hj => by rw [hr j hj]; exact h0.1 j (by omega), h0.2⟩
theorem kbt_mod {h j : Nat} (hj : j < h) : kbt (r % 2 ^ h) j = kbt r j := by
  unfold kbt
  rw [Nat.testBit_mod_two_pow]
  simp [hj]
theorem kbt_or {h j : Nat} (hj : j ≠ h) : kbt (r ||| 2 ^ h) j = kbt r j := by
  unfold kbt
  rw [or_tb, p2_tb]
  simp [Ne.symm hj]
theorem kbt_os {h : Nat} : kbt (r ||| 2 ^ h) h = 2 := by
  unfold kbt
  rw [or_tb, p2_tb]
  simp
theorem kbt_lt {h : Nat} (hr : r < 2 ^ h) : kbt r h = 1 := by
  unfold kbt
  rw [Nat.testBit_lt_two_pow hr]
  simp
theorem skd_kb {t : Nat × Nat} : skd t = kbt t.2 (t.1 - 1) := rfl
end
