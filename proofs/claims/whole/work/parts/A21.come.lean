/-! COMING TO AN INSTRUCTION, on both sides -/
theorem t59 : (∀ (I : St) (i : Nat), i < 100 → tget I 59 (Int32.ofNat i) 0 = I 60 (7 * i)) ∧ (∀ (I : St) (i : Nat), i < 100 → tget I 59 (Int32.ofNat i) 1 = I 60 (7 * i + 1)) ∧ (∀ (I : St) (i : Nat), i < 100 → tget I 59 (Int32.ofNat i) 2 = I 60 (7 * i + 2)) ∧ (∀ (I : St) (i : Nat), i < 100 → tget I 59 (Int32.ofNat i) 3 = I 60 (7 * i + 3)) ∧ (∀ (I : St) (i : Nat), i < 100 → tget I 59 (Int32.ofNat i) 4 = I 60 (7 * i + 4)) ∧ (∀ (I : St) (i : Nat), i < 100 → tget I 59 (Int32.ofNat i) 5 = I 60 (7 * i + 5)) ∧ (∀ (I : St) (i : Nat), i < 100 → tget I 59 (Int32.ofNat i) 6 = I 60 (7 * i + 6)) ∧ (∀ (I : St) (i : Nat) (v : Int32), i < 100 → tset I 59 (Int32.ofNat i) 0 v = up2 I 60 (7 * i) v) ∧ (∀ (I : St) (i : Nat) (v : Int32), i < 100 → tset I 59 (Int32.ofNat i) 1 v = up2 I 60 (7 * i + 1) v) ∧ (∀ (I : St) (i : Nat) (v : Int32), i < 100 → tset I 59 (Int32.ofNat i) 2 v = up2 I 60 (7 * i + 2) v) ∧ (∀ (I : St) (i : Nat) (v : Int32), i < 100 → tset I 59 (Int32.ofNat i) 3 v = up2 I 60 (7 * i + 3) v) ∧ (∀ (I : St) (i : Nat) (v : Int32), i < 100 → tset I 59 (Int32.ofNat i) 4 v = up2 I 60 (7 * i + 4) v) ∧ (∀ (I : St) (i : Nat) (v : Int32), i < 100 → tset I 59 (Int32.ofNat i) 5 v = up2 I 60 (7 * i + 5) v) ∧ (∀ (I : St) (i : Nat) (v : Int32), i < 100 → tset I 59 (Int32.ofNat i) 6 v = up2 I 60 (7 * i + 6) v) := by
  exact ⟨fun I i h => tg_n (c := 0) (by decide) (by decide) h rfl (by decide), fun I i h => tg_n (c := 1) (by decide) (by decide) h rfl (by decide), fun I i h => tg_n (c := 2) (by decide) (by decide) h rfl (by decide), fun I i h => tg_n (c := 3) (by decide) (by decide) h rfl (by decide), fun I i h => tg_n (c := 4) (by decide) (by decide) h rfl (by decide), fun I i h => tg_n (c := 5) (by decide) (by decide) h rfl (by decide), fun I i h => tg_n (c := 6) (by decide) (by decide) h rfl (by decide), fun I i v h => ts_n (c := 0) (by decide) (by decide) h rfl (by decide), fun I i v h => ts_n (c := 1) (by decide) (by decide) h rfl (by decide), fun I i v h => ts_n (c := 2) (by decide) (by decide) h rfl (by decide), fun I i v h => ts_n (c := 3) (by decide) (by decide) h rfl (by decide), fun I i v h => ts_n (c := 4) (by decide) (by decide) h rfl (by decide), fun I i v h => ts_n (c := 5) (by decide) (by decide) h rfl (by decide), fun I i v h => ts_n (c := 6) (by decide) (by decide) h rfl (by decide)⟩
def orl (l l' : Nat × Nat × Nat) : Nat × Nat × Nat := (l.1 ||| l'.1, l.2.1 ||| l'.2.1, l.2.2 ||| l'.2.2)
theorem orl_ok {l l' : Nat × Nat × Nat} (h : Lok l) (h' : Lok l') : Lok (orl l l') := ⟨or_lt (n := 16) h.1 h'.1, or_lt (n := 16) h.2.1 h'.2.1, or_lt (n := 16) h.2.2 h'.2.2⟩
theorem wvl_or {l l' : Nat × Nat × Nat} {k : Nat} : wvl (orl l l') k = wvl l k ||| wvl l' k := by
  unfold wvl orl
  dsimp only
  rw [or_tb, or_tb, or_tb]
  cases l.1.testBit k <;> cases l.2.1.testBit k <;> cases l.2.2.testBit k <;> cases l'.1.testBit k <;> cases l'.2.1.testBit k <;> cases l'.2.2.testBit k <;> decide
theorem wvl_8 {l : Nat × Nat × Nat} {k : Nat} : wvl l k < 8 := by
  unfold wvl
  cases l.1.testBit k <;> cases l.2.1.testBit k <;> cases l.2.2.testBit k <;> decide
theorem wvl_bits {l l' : Nat × Nat × Nat} {k : Nat} (h : wvl l k = wvl l' k) : l.1.testBit k = l'.1.testBit k ∧ l.2.1.testBit k = l'.2.1.testBit k ∧ l.2.2.testBit k = l'.2.2.testBit k := by
  revert h
  unfold wvl
  cases l.1.testBit k <;> cases l.2.1.testBit k <;> cases l.2.2.testBit k <;> cases l'.1.testBit k <;> cases l'.2.1.testBit k <;> cases l'.2.2.testBit k <;> decide
theorem wvl_eq {l l' : Nat × Nat × Nat} (h : Lok l) (h' : Lok l') (e : ∀ k, k < 16 → wvl l k = wvl l' k) : l = l' := by
  have h1 : l.1 = l'.1 := tb_ext (n := 16) h.1 h'.1 (fun j hj => (wvl_bits (e j hj)).1)
  have h2 : l.2.1 = l'.2.1 := tb_ext (n := 16) h.2.1 h'.2.1 (fun j hj => (wvl_bits (e j hj)).2.1)
  have h3 : l.2.2 = l'.2.2 := tb_ext (n := 16) h.2.2 h'.2.2 (fun j hj => (wvl_bits (e j hj)).2.2)
  exact Prod.ext h1 (Prod.ext h2 h3)
abbrev VEn : Type := (Nat × Nat) × (Nat × Nat × Nat)
def b01 (b : Bool) : Int32 := if b = true then 1 else 0
/-- what is known of instruction i, on both sides -/
def V1 (V : Nat → Option VEn) (N : Nat → Bool) (d i : Nat) (A B : St) : Prop := A 60 (7 * i) = b01 (V i).isSome ∧ B 175 i = b01 (V i).isSome ∧ A 60 (7 * i + 1) = b01 (N i) ∧ B 176 i = b01 (N i) ∧ (V i = none → N i = false ∧ A 60 (7 * i + 4) = 0 ∧ A 60 (7 * i + 5) = 0 ∧ A 60 (7 * i + 6) = 0) ∧ ∀ t l, V i = some (t, l) → Sok t ∧ t.1 ≤ 16 ∧ Lok l ∧ t.1 ≤ d ∧ A 60 (7 * i + 2) = Int32.ofNat t.1 ∧ A 60 (7 * i + 3) = Int32.ofNat t.2 ∧ A 60 (7 * i + 4) = Int32.ofNat l.1 ∧ A 60 (7 * i + 5) = Int32.ofNat l.2.1 ∧ A 60 (7 * i + 6) = Int32.ofNat l.2.2 ∧ B 177 i = Int32.ofNat t.1 ∧ B 178 i = Int32.ofNat t.2 ∧ ∀ k, k < 16 → B 179 (16 * i + k) = Int32.ofNat (wvl l k)
def VC (P Z m z f : Nat) (V : Nat → Option VEn) (N : Nat → Bool) (d : Nat) (A B : St) : Prop := (∀ i, i < z → V1 V N d i A B) ∧ d ≤ 16 ∧ A (P + 8) (16 * m + 9) = Int32.ofNat d ∧ B (Z + 24) m = Int32.ofNat d ∧ A 58 3 = Int32.ofNat m ∧ B 82 32 = Int32.ofNat m ∧ A 58 4 = Int32.ofNat f ∧ A 58 5 = Int32.ofNat z ∧ B (Z + 22) m = Int32.ofNat z ∧ B (Z + 21) m = Int32.ofNat f ∧ z ≤ 100 ∧ m < 24 ∧ f + z ≤ 1280
def upV (V : Nat → Option VEn) (j : Nat) (e : VEn) : Nat → Option VEn := fun i => if i = j then some e else V i
def upN (N : Nat → Bool) (j : Nat) (b : Bool) : Nat → Bool := fun i => if i = j then b else N i
/-- coming to j with t and l: what is known then -/
def Cme (V : Nat → Option VEn) (N : Nat → Bool) (d j : Nat) (t : Nat × Nat) (l : Nat × Nat × Nat) (V' : Nat → Option VEn) (N' : Nat → Bool) (d' : Nat) : Prop := (V j = none ∧ V' = upV V j (t, l) ∧ N' = upN N j true ∧ d' = max d t.1) ∨ ∃ l', V j = some (t, l') ∧ V' = upV V j (t, orl l' l) ∧ N' = upN N j (N j || decide (orl l' l ≠ l')) ∧ d' = d
/-- both found a fault, at one place -/
def FS (A B : St) : Prop := ∃ q, q < 2000 ∧ A 58 6 = Int32.ofNat q ∧ B 82 22 = 5 ∧ B 82 5 = Int32.ofNat q
def GS (A B : St) : Prop := A 58 6 = -1 ∧ B 82 22 = 0
section
variable {P Z m z f d j : Nat} {V : Nat → Option VEn} {N : Nat → Bool} {A B : St} {t : Nat × Nat} {l : Nat × Nat × Nat}
theorem FS.go (h : FS A B) {x y1 y2 y3 : Int32} : x101 P A x = some A ∧ x227 Z B y1 y2 y3 = some B := by
  obtain ⟨q, h1, h2, h3, h4⟩ := h
  unfold x101 x227
  rw [if_neg (by rw [h2]; exact i32_m1 (by omega)), if_neg (by rw [h3]; decide)]
  exact ⟨rfl, rfl⟩
theorem x103_l {c : Nat} {a b : Nat} {x : Int32} (hj : j < 100) (hc : c = 4 ∨ c = 5 ∨ c = 6) (hx : x = Int32.ofNat c) (hA : A 60 (7 * j + c) = Int32.ofNat a) (ha : a < 65536) (hb : b < 65536) : ∃ A', x103 A (Int32.ofNat j) x (Int32.ofNat b) = some A' ∧ A' 60 (7 * j + c) = Int32.ofNat (a ||| b) ∧ A' 60 (7 * j + 1) = (if a ||| b = a then A 60 (7 * j + 1) else 1) ∧ ∀ p q, (p ≠ 60 ∨ (q ≠ 7 * j + c ∧ q ≠ 7 * j + 1)) → A' p q = A p q := by
  have hab : a ||| b < 65536 := or_lt (n := 16) ha hb
  subst hx
  have hg : ∀ K : St, tget K 59 (Int32.ofNat j) (Int32.ofNat c) = K 60 (7 * j + c) := fun K => tg_n (c := c) (by decide) (by decide) hj rfl (by rcases hc with rfl | rfl | rfl <;> decide)
  have hs : ∀ (K : St) (v : Int32), tset K 59 (Int32.ofNat j) (Int32.ofNat c) v = up2 K 60 (7 * j + c) v := fun K v => ts_n (c := c) (by decide) (by decide) hj rfl (by rcases hc with rfl | rfl | rfl <;> decide)
  unfold x103
  rw [hg, hA, i32_or]
  by_cases z : a ||| b = a
  · rw [if_pos (by rw [z]), if_pos z]
    exact ⟨A, rfl, by rw [z]; exact hA, rfl, fun _ _ _ => rfl⟩
  · rw [if_neg (by rw [i32_eq (by omega) (by omega)]; exact z), hs, if_neg z]
    simp (disch := omega) only [t59]
    exact ⟨_, rfl, by rw [up2_o (by omega), up2_s], by rw [up2_s], fun p q y => by rw [up2_o (by omega), up2_o (by omega)]⟩
theorem x102_l (hj : j < 100) (hl : Lc l A) (hlo : Lok l) {l' : Nat × Nat × Nat} (hlo' : Lok l') (h4 : A 60 (7 * j + 4) = Int32.ofNat l'.1) (h5 : A 60 (7 * j + 5) = Int32.ofNat l'.2.1) (h6 : A 60 (7 * j + 6) = Int32.ofNat l'.2.2) : ∃ A', x102 A (Int32.ofNat j) = some A' ∧ A' 60 (7 * j + 4) = Int32.ofNat (orl l' l).1 ∧ A' 60 (7 * j + 5) = Int32.ofNat (orl l' l).2.1 ∧ A' 60 (7 * j + 6) = Int32.ofNat (orl l' l).2.2 ∧ A' 60 (7 * j + 1) = (if orl l' l = l' then A 60 (7 * j + 1) else 1) ∧ ∀ p q, (p ≠ 60 ∨ (q ≠ 7 * j + 4 ∧ q ≠ 7 * j + 5 ∧ q ≠ 7 * j + 6 ∧ q ≠ 7 * j + 1)) → A' p q = A p q := by
  obtain ⟨l1, l2, l3⟩ := hl
  obtain ⟨A1, a1, a2, a3, a4⟩ := x103_l (c := 4) (x := 4) hj (Or.inl rfl) rfl h4 hlo'.1 hlo.1
  obtain ⟨A2, b1, b2, b3, b4⟩ := x103_l (A := A1) (c := 5) (x := 5) hj (Or.inr (Or.inl rfl)) rfl (by rw [a4 _ _ (by omega)]; exact h5) hlo'.2.1 hlo.2.1
  obtain ⟨A3, c1, c2, c3, c4⟩ := x103_l (A := A2) (c := 6) (x := 6) hj (Or.inr (Or.inr rfl)) rfl (by rw [b4 _ _ (by omega), a4 _ _ (by omega)]; exact h6) hlo'.2.2 hlo.2.2
  refine ⟨A3, ?_, ?_, ?_, c2, ?_, fun p q y => by rw [c4 p q (by omega), b4 p q (by omega), a4 p q (by omega)]⟩
  · unfold x102
    rw [l1, a1, Option.bind_some, a4 58 10 (by omega), l2, b1, Option.bind_some, b4 58 11 (by omega), a4 58 11 (by omega), l3, c1, Option.bind_some]
  · rw [c4 _ _ (by omega), b4 _ _ (by omega)]; exact a2
  · rw [c4 _ _ (by omega)]; exact b2
  · rw [c3, b3, a3]
    by_cases z : orl l' l = l'
    · rw [if_pos z]
      have e1 : l'.1 ||| l.1 = l'.1 := congrArg (fun x => x.1) z
      have e2 : l'.2.1 ||| l.2.1 = l'.2.1 := congrArg (fun x => x.2.1) z
      have e3 : l'.2.2 ||| l.2.2 = l'.2.2 := congrArg (fun x => x.2.2) z
      rw [if_pos e3, if_pos e2, if_pos e1]
    · rw [if_neg z]
      by_cases e3 : l'.2.2 ||| l.2.2 = l'.2.2
      · rw [if_pos e3]
        by_cases e2 : l'.2.1 ||| l.2.1 = l'.2.1
        · rw [if_pos e2, if_neg (show ¬ (l'.1 ||| l.1 = l'.1) from fun e1 => z (Prod.ext e1 (Prod.ext e2 e3)))]
        · rw [if_neg e2]
      · rw [if_neg e3]
/-- the reference's locals -/
theorem l227_l {b2 b3 : Int32} {w : Nat → Nat} (hj : j < 100) : ∀ dd k ff (b4 : Int32) (B : St), k + dd = 16 → dd < ff → (b4 = 0 ∨ b4 = 1) → (∀ k, k < 16 → B 180 k = Int32.ofNat (w k)) → (∀ k, w k < 8) → (B 175 j = 0 ∨ B 175 j = 1) → ∀ base : Nat → Nat, (∀ k, base k < 8) → (B 175 j = 0 → ∀ k', base k' = 0) → (B 175 j = 1 → ∀ k', k ≤ k' → k' < 16 → B 179 (16 * j + k') = Int32.ofNat (base k')) → ∃ v B', l227_116 Z (Int32.ofNat j) b2 b3 ff b4 (Int32.ofNat k) B = some (v, B') ∧ (v = 0 ∨ v = 1) ∧ (v = 0 ↔ (b4 = 0 ∧ ∀ k', k ≤ k' → k' < 16 → base k' ||| w k' = base k')) ∧ (∀ k', k ≤ k' → k' < 16 → B' 179 (16 * j + k') = Int32.ofNat (base k' ||| w k')) ∧ ∀ p q, (p ≠ 179 ∨ q < 16 * j + k ∨ 16 * j + 16 ≤ q) → B' p q = B p q := by
  intro dd
  induction dd with
  | zero =>
    intro k ff b4 B h1 h2 hb hw hw8 hc base hb8 hz hm
    obtain ⟨ff, rfl⟩ : ∃ g, ff = g + 1 := ⟨ff - 1, by omega⟩
    obtain rfl : k = 16 := by omega
    refine ⟨b4, B, by rw [l227_116, if_pos (by decide)], hb, ⟨fun y => ⟨y, fun k' y1 y2 => by omega⟩, fun y => y.1⟩, fun k' y1 y2 => by omega, fun _ _ _ => rfl⟩
  | succ dd ih =>
    intro k ff b4 B h1 h2 hb hw hw8 hc base hb8 hz hm
    obtain ⟨ff, rfl⟩ : ∃ g, ff = g + 1 := ⟨ff - 1, by omega⟩
    have i1 : inb (Int32.ofNat j) 100 := (i32_inb (by omega)).mpr hj
    have i2 : inb (Int32.ofNat k) 16 := (i32_inb (by omega)).mpr (by omega)
    have c1 : (Int32.ofNat j).toNatClampNeg = j := i32_cl (by omega)
    have c2 : (Int32.ofNat k).toNatClampNeg = k := i32_cl (by omega)
    have e16 : (16 : Int32) * Int32.ofNat j + Int32.ofNat k = Int32.ofNat (16 * j + k) := by
      rw [show (16 : Int32) = Int32.ofNat 16 from rfl, ← Int32.ofNat_mul, i32_a]
    have i3 : inb (Int32.ofNat (16 * j + k)) 1600 := (i32_inb (by omega)).mpr (by omega)
    have c3 : (Int32.ofNat (16 * j + k)).toNatClampNeg = 16 * j + k := i32_cl (by omega)
    have hq : (if B 175 j = 0 then some (0 : Int32) else some (B 179 (16 * j + k))) = some (Int32.ofNat (base k)) := by
      rcases hc with y | y
      · rw [if_pos y, hz y k]; rfl
      · rw [if_neg (by rw [y]; decide), hm y k (Nat.le_refl _) (by omega)]
    have hwk := hw k (by omega)
    have o8 : base k ||| w k < 8 := or_lt (n := 3) (hb8 k) (hw8 k)
    generalize hB1 : up2 B 179 (16 * j + k) (Int32.ofNat (base k ||| w k)) = B1
    have f1 : ∀ p q, (p ≠ 179 ∨ q ≠ 16 * j + k) → B1 p q = B p q := fun p q y => by rw [← hB1, up2_o y]
    obtain ⟨b4', hb4, hb5⟩ : ∃ b4' : Int32, (b4' = 0 ∨ b4' = 1) ∧ (b4' = 0 ↔ (b4 = 0 ∧ base k ||| w k = base k)) := by
      by_cases y1 : b4 = 0 ∧ base k ||| w k = base k
      · exact ⟨0, Or.inl rfl, fun _ => y1, fun _ => rfl⟩
      · exact ⟨1, Or.inr rfl, fun y => absurd y (by decide), fun y => absurd y y1⟩
    obtain ⟨v, B2, v1, v2, v3, v4, v5⟩ := ih (k + 1) ff b4' B1 (by omega) (by omega) hb4 (fun k' y => by rw [f1 _ _ (by omega)]; exact hw k' y) hw8 (by rw [f1 _ _ (by omega)]; exact hc) base hb8 (fun y => hz (by rw [f1 _ _ (by omega)] at y; exact y)) (fun y k' y1 y2 => by rw [f1 _ _ (by omega)]; exact hm (by rw [f1 _ _ (by omega)] at y; exact y) k' (by omega) y2)
    refine ⟨v, B2, ?_, v2, ?_, fun k' y1 y2 => ?_, fun p q y => by rw [v5 p q (by omega), f1 p q (by omega)]⟩
    · rw [l227_116, if_neg (by rw [i32_l2 (x := 16) (b := 16) rfl (by omega) (by decide)]; omega)]
      simp only [e16, if_pos i1, if_pos i2, if_pos i3, c1, c2, c3]
      rw [hq, Option.bind_some]
      simp (disch := omega) only [up2_o, hwk, i32_or, i32_s, hB1]
      rw [← v1]
      by_cases y1 : b4 = 0
      · rw [if_pos y1]
        by_cases y2 : base k ||| w k = base k
        · rw [if_pos (by rw [y2]), hb5.mpr ⟨y1, y2⟩]
        · have : b4' = 1 := by
            rcases hb4 with y | y
            · exact absurd (hb5.mp y).2 y2
            · exact y
          rw [if_neg (by rw [i32_eq (by omega) (by have := hb8 k; omega)]; exact y2), this]
      · have : b4' = 1 := by
          rcases hb4 with y | y
          · exact absurd (hb5.mp y).1 y1
          · exact y
        rw [if_neg y1, this]
    · rw [v3, hb5]
      constructor
      · rintro ⟨⟨y1, y2⟩, y3⟩
        refine ⟨y1, fun k' z1 z2 => ?_⟩
        rcases Nat.lt_or_ge k k' with y | y
        · exact y3 k' y z2
        · obtain rfl : k' = k := by omega
          exact y2
      · rintro ⟨y1, y2⟩
        exact ⟨⟨y1, y2 k (Nat.le_refl _) (by omega)⟩, fun k' z1 z2 => y2 k' (by omega) z2⟩
    · rcases Nat.lt_or_ge k k' with y | y
      · exact v4 k' y y2
      · obtain rfl : k' = k := by omega
        rw [v5 _ _ (by omega), ← hB1, up2_s]
end
