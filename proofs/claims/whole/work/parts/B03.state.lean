/-! BOTH MACHINES at an instruction -/
/-- the kind of slot q of an object of class c -/
def fkd (B : St) (Z : Nat) (p E : Nat → Nat) : Nat → Nat → Nat → Nat
  | 0, _, _ => 1
  | d + 1, c, q => if c = 0 then 1 else if q < alf p E 19 (p c) then fkd B Z p E d (p c) q else (B (Z + 11) (E c + (q - alf p E 19 (p c)))).toNatClampNeg
/-- the program, as it was linked -/
def PRG (P Z : Nat) (A0 B0 A B : St) : Prop := (∀ a b, P + 1 ≤ a → a ≤ P + 14 → A a b = A0 a b) ∧ ∀ a b, ((a = Z ∧ 5 ≤ b) ∨ (Z + 4 ≤ a ∧ a ≤ Z + 40)) → B a b = B0 a b
/-- objects and arrays -/
def Ob1 (B0 : St) (Z n : Nat) (p E oa os hk : Nat → Nat) (U i : Nat) (A B : St) : Prop := A 71 (4 * i) = B 181 i ∧ A 71 (4 * i + 1) = Int32.ofNat (oa i) ∧ B 182 i = Int32.ofNat (oa i) ∧ A 71 (4 * i + 2) = Int32.ofNat (os i) ∧ B 183 i = Int32.ofNat (os i) ∧ A 71 (4 * i + 3) = B 184 i ∧ oa i + os i ≤ U ∧ ((∃ c, c < n ∧ B 181 i = Int32.ofNat c ∧ os i = alf p E 19 c ∧ ∀ q, q < os i → hk (oa i + q) = fkd B0 Z p E 19 c q) ∨ (B 181 i = -2 ∧ ∀ q, q < os i → hk (oa i + q) = 1) ∨ (B 181 i = -3 ∧ ∀ q, q < os i → hk (oa i + q) = 2))
def HpC (B0 : St) (Z n : Nat) (p E oa os hk : Nat → Nat) (NO U : Nat) (A B : St) : Prop := A 70 3 = Int32.ofNat NO ∧ B 82 40 = Int32.ofNat NO ∧ A 72 3 = Int32.ofNat U ∧ B 82 48 = Int32.ofNat U ∧ B 82 41 = Int32.ofNat (NO + U) ∧ NO + U ≤ 3000 ∧ (∀ i, i < NO → Ob1 B0 Z n p E oa os hk U i A B) ∧ ∀ j, j < U → VR NO (hk j) (A 73 (2 * j)) (B 185 j) ∧ A 73 (2 * j + 1) = B 186 j
def StC (B0 : St) (Z s NO : Nat) (A B : St) : Prop := ∀ j, j < s → VR NO (B0 (Z + 14) j).toNatClampNeg (A 75 (2 * j)) (B 187 j) ∧ A 75 (2 * j + 1) = B 188 j
def EvC (EV : Nat) (A B : St) : Prop := A 76 3 = Int32.ofNat EV ∧ B 82 38 = Int32.ofNat EV ∧ EV ≤ 500 ∧ A 68 18 = B 82 39 ∧ ∀ e, e < EV → A 77 (4 * e) = B 189 e ∧ A 77 (4 * e + 1) = B 190 e ∧ A 77 (4 * e + 2) = B 191 e ∧ A 77 (4 * e + 3) = B 192 e ∧ (B 192 e = 0 ∨ B 192 e = 1)
def SeC (A B : St) : Prop := A 61 0 = B 82 6 ∧ ∀ j, j < 16 → A 63 j = B 167 j ∧ A 65 j = B 168 j
/-- a method that has called -/
def SuC (Z k : Nat) (F : Nat → Nat) (B0 : St) (VV : Nat → Nat → Option VEn) (NO g m i : Nat) (tl : Nat × Nat) (l : Nat × Nat × Nat) (A B : St) : Prop := m < k ∧ i < F (m + 1) - F m ∧ (∃ t, VV m i = some (t, l)) ∧ (opn B0 Z (F m + i) = 49 ∨ opn B0 Z (F m + i) = 50) ∧ Sok tl ∧ tl.1 ≤ 16 ∧ FV NO g tl.1 tl.2 l A B ∧ A 79 (3 * g) = Int32.ofNat m ∧ A 79 (3 * g + 1) = Int32.ofNat i ∧ A 79 (3 * g + 2) = Int32.ofNat tl.1 ∧ B 193 g = Int32.ofNat m ∧ B 194 g = Int32.ofNat (F m + i) ∧ B 195 g = Int32.ofNat tl.1 ∧ ∃ t'', pso (irs B0 Z (F m + i)) tl = some t'' ∧ i + 1 < F (m + 1) - F m ∧ Inc (VV m) (i + 1) t'' l
abbrev FrT : Type := Nat × Nat × (Nat × Nat) × (Nat × Nat × Nat)
/-- the method at level g -/
def lvm (fr : Nat → FrT) (dp m g : Nat) : Nat := if g = dp then m else (fr g).1
def FrC (Z k : Nat) (F : Nat → Nat) (B0 : St) (VV : Nat → Nat → Option VEn) (NO dp m : Nat) (fr : Nat → FrT) (A B : St) : Prop := ∀ g, g < dp → SuC Z k F B0 VV NO g (fr g).1 (fr g).2.1 (fr g).2.2.1 (fr g).2.2.2 A B ∧ irs B0 Z (F (fr g).1 + (fr g).2.1) = mrt B0 Z (lvm fr dp m (g + 1))
def RnC (k : Nat) (F : Nat → Nat) (m i c : Nat) (A B : St) : Prop := A 68 8 = Int32.ofNat m ∧ B 82 63 = Int32.ofNat m ∧ A 68 9 = Int32.ofNat i ∧ B 82 64 = Int32.ofNat (F m + i) ∧ A 68 14 = -1 ∧ B 82 34 = -1 ∧ A 68 12 = 0 ∧ A 68 17 = Int32.ofNat c ∧ B 82 37 = Int32.ofNat c ∧ m < k ∧ i < F (m + 1) - F m ∧ c ≤ 20000
def GCo (B0 : St) (Z n s : Nat) (p E oa os hk : Nat → Nat) (NO U EV : Nat) (A B : St) : Prop := HpC B0 Z n p E oa os hk NO U A B ∧ StC B0 Z s NO A B ∧ EvC EV A B ∧ SeC A B
/-- all, at instruction i of method m at level dp, c instructions done -/
def MC (P Z n k s : Nat) (E F p : Nat → Nat) (A0 B0 : St) (VV : Nat → Nat → Option VEn) (oa os hk : Nat → Nat) (NO U EV dp m i c : Nat) (fr : Nat → FrT) (t : Nat × Nat) (l : Nat × Nat × Nat) (A B : St) : Prop := PRG P Z A0 B0 A B ∧ GCo B0 Z n s p E oa os hk NO U EV A B ∧ FrC Z k F B0 VV NO dp m fr A B ∧ RnC k F m i c A B ∧ VV m i = some (t, l) ∧ PT dp t.1 A B ∧ FV NO dp t.1 t.2 l A B
section
variable {P Z n k s : Nat} {E F G p oa os hk : Nat → Nat} {A0 B0 A B A' B' : St} {VV : Nat → Nat → Option VEn} {NO U EV dp m i c : Nat} {fr : Nat → FrT} {t : Nat × Nat} {l : Nat × Nat × Nat}
theorem PRG.of (h : PRG P Z A0 B0 A B) (hA : ∀ a b, P + 1 ≤ a → a ≤ P + 14 → A' a b = A a b) (hB : ∀ a b, ((a = Z ∧ 5 ≤ b) ∨ (Z + 4 ≤ a ∧ a ≤ Z + 40)) → B' a b = B a b) : PRG P Z A0 B0 A' B' := ⟨fun a b y1 y2 => (hA a b y1 y2).trans (h.1 a b y1 y2), fun a b y => (hB a b y).trans (h.2 a b y)⟩
theorem Ob1.of {U' : Nat} (h : Ob1 B0 Z n p E oa os hk U i A B) (hU : U ≤ U') (hA : ∀ b, 4 * i ≤ b → b < 4 * i + 4 → A' 71 b = A 71 b) (hB : ∀ a, 181 ≤ a → a ≤ 184 → B' a i = B a i) : Ob1 B0 Z n p E oa os hk U' i A' B' := by
  obtain ⟨h1, h2, h3, h4, h5, h6, h7, h8⟩ := h
  unfold Ob1
  rw [hA _ (by omega) (by omega), hA _ (by omega) (by omega), hA _ (by omega) (by omega), hA _ (by omega) (by omega), hB _ (by omega) (by omega), hB _ (by omega) (by omega), hB _ (by omega) (by omega), hB _ (by omega) (by omega)]
  exact ⟨h1, h2, h3, h4, h5, h6, by omega, h8⟩
theorem GCo.of (h : GCo B0 Z n s p E oa os hk NO U EV A B) (hA : ∀ a b, ((a = 70 ∧ b = 3) ∨ a = 71 ∨ (a = 72 ∧ b = 3) ∨ a = 73 ∨ a = 75 ∨ (a = 76 ∧ b = 3) ∨ a = 77 ∨ (a = 68 ∧ b = 18) ∨ (a = 61 ∧ b = 0) ∨ a = 63 ∨ a = 65) → A' a b = A a b) (hB : ∀ a b, ((181 ≤ a ∧ a ≤ 192) ∨ a = 167 ∨ a = 168 ∨ (a = 82 ∧ (b = 6 ∨ b = 38 ∨ b = 39 ∨ b = 40 ∨ b = 41 ∨ b = 48))) → B' a b = B a b) : GCo B0 Z n s p E oa os hk NO U EV A' B' := by
  obtain ⟨⟨h1, h2, h3, h4, h5, h6, h7, h8⟩, g, ⟨e1, e2, e3, e4, e5⟩, f1, f2⟩ := h
  refine ⟨⟨?_, ?_, ?_, ?_, ?_, h6, fun i hi => (h7 i hi).of (Nat.le_refl _) (fun b _ _ => hA _ _ (by omega)) (fun a _ _ => hB _ _ (by omega)), fun j hj => ?_⟩, fun j hj => ?_, ⟨?_, ?_, e3, ?_, fun e he => ?_⟩, ?_, fun j hj => ?_⟩
  · rw [hA _ _ (by omega)]; exact h1
  · rw [hB _ _ (by omega)]; exact h2
  · rw [hA _ _ (by omega)]; exact h3
  · rw [hB _ _ (by omega)]; exact h4
  · rw [hB _ _ (by omega)]; exact h5
  · rw [hA _ _ (by omega), hA _ _ (by omega), hB _ _ (by omega), hB _ _ (by omega)]; exact h8 j hj
  · rw [hA _ _ (by omega), hA _ _ (by omega), hB _ _ (by omega), hB _ _ (by omega)]; exact g j hj
  · rw [hA _ _ (by omega)]; exact e1
  · rw [hB _ _ (by omega)]; exact e2
  · rw [hA _ _ (by omega), hB _ _ (by omega)]; exact e4
  · rw [hA _ _ (by omega), hA _ _ (by omega), hA _ _ (by omega), hA _ _ (by omega), hB _ _ (by omega), hB _ _ (by omega), hB _ _ (by omega), hB _ _ (by omega)]; exact e5 e he
  · rw [hA _ _ (by omega), hB _ _ (by omega)]; exact f1
  · rw [hA _ _ (by omega), hA _ _ (by omega), hB _ _ (by omega), hB _ _ (by omega)]; exact f2 j hj
theorem SuC.of {NO' g mm ii : Nat} {tl : Nat × Nat} {ll : Nat × Nat × Nat} (h : SuC Z k F B0 VV NO g mm ii tl ll A B) (hN : NO ≤ NO') (hA : ∀ a b, ((a = 79 ∧ 3 * g ≤ b ∧ b < 3 * g + 3) ∨ (a = 81 ∧ 64 * g ≤ b ∧ b < 64 * g + 64)) → A' a b = A a b) (hB : ∀ a b, (((193 ≤ a ∧ a ≤ 195) ∧ b = g) ∨ ((196 ≤ a ∧ a ≤ 199) ∧ 16 * g ≤ b ∧ b < 16 * g + 16)) → B' a b = B a b) : SuC Z k F B0 VV NO' g mm ii tl ll A' B' := by
  obtain ⟨h1, h2, h3, h4, h5, h6, h7, h8, h9, h10, h11, h12, h13, h14⟩ := h
  refine ⟨h1, h2, h3, h4, h5, h6, h7.of hN (fun b _ _ => hA _ _ (by omega)) (fun a b _ _ _ => hB _ _ (by omega)) h6, ?_, ?_, ?_, ?_, ?_, ?_, h14⟩
  · rw [hA _ _ (by omega)]; exact h8
  · rw [hA _ _ (by omega)]; exact h9
  · rw [hA _ _ (by omega)]; exact h10
  · rw [hB _ _ (by omega)]; exact h11
  · rw [hB _ _ (by omega)]; exact h12
  · rw [hB _ _ (by omega)]; exact h13
theorem FV.wk {N g h r : Nat} {l l' : Nat × Nat × Nat} (h0 : FV N g h r l A B) (hl : orl l' l = l') (hf : Lful l) : FV N g h r l' A B := by
  refine ⟨h0.1, fun k hk hw => ?_⟩
  have e : wvl l k = wvl l' k := by
    have e1 : wvl l' k = wvl l' k ||| wvl l k := by rw [← wvl_or, hl]
    have key : ∀ a, a < 8 → ∀ b, b < 8 → (a = a ||| b ∧ b ≠ 0 ∧ (a = 1 ∨ a = 2)) → b = a := by decide
    exact key _ wvl_8 _ wvl_8 ⟨e1, hf k hk, hw⟩
  rw [← e] at hw ⊢
  exact h0.2 k hk hw
/-- one turn of the class, of the reference -/
def tnC (P : Nat) (I : St) : Option St := (x129 P (up2 I 68 10 ((I 68 9) + 1)) (tget (up2 I 68 10 ((I 68 9) + 1)) (P + 9) ((tget I (P + 7) (I 68 8) 5) + (I 68 9)) 0) (tget (up2 I 68 10 ((I 68 9) + 1)) (P + 9) ((tget I (P + 7) (I 68 8) 5) + (I 68 9)) 1) (tget (up2 I 68 10 ((I 68 9) + 1)) (P + 9) ((tget I (P + 7) (I 68 8) 5) + (I 68 9)) 2)).bind fun q2 => (if 4 ≤ (q2 68 14) then some q2 else some (up2 q2 68 17 ((q2 68 17) + 1))).bind fun (q3 : St) => if (q3 68 12) = 0 then some (up2 q3 68 9 (q3 68 10)) else if (q3 68 14) = (-1) then (x170 P q3).bind fun q4 => some (up2 q4 68 9 (q4 68 10)) else some (up2 q3 68 9 (q3 68 10))
def tnR (Z : Nat) (I : St) : Option St := (x238 Z I).bind fun q16 => if 4 ≤ (q16 82 34) then some q16 else some (up2 q16 82 37 ((q16 82 37) + 1))
/-- the class's turn, its instruction looked up -/
theorem tnC_e (hP : Hid (P = 3 ∨ P = 18)) (hP2 : 3 ≤ P ∧ P ≤ 18) (hL : Lkd P Z n k s E F G p A B) (hr : RnC k F m i c A B) : tnC P A = (x129 P (up2 A 68 10 (Int32.ofNat (i + 1))) (A (P + 10) (3 * (F m + i))) (A (P + 10) (3 * (F m + i) + 1)) (A (P + 10) (3 * (F m + i) + 2))).bind fun q2 => (if 4 ≤ (q2 68 14) then some q2 else some (up2 q2 68 17 ((q2 68 17) + 1))).bind fun (q3 : St) => if (q3 68 12) = 0 then some (up2 q3 68 9 (q3 68 10)) else if (q3 68 14) = (-1) then (x170 P q3).bind fun q4 => some (up2 q4 68 9 (q4 68 10)) else some (up2 q3 68 9 (q3 68 10)) := by
  obtain ⟨r1, r2, r3, r4, r5, r6, r7, r8, r9, r10, r11, r12⟩ := hr
  have hk24 : k ≤ 24 := hL.1.2.2.2.2.1
  obtain ⟨p1, -, -, -, p5⟩ := hL.2.1.2.2.2.2.2.2.1 m r10
  obtain ⟨-, -, -, -, -, -, -, q1, -⟩ := p5
  have hF1280 : F (m + 1) ≤ 1280 := by
    have := mono_le (F := F) (k := k) (fun a ha => (hL.2.1.2.2.2.2.2.2.1 a ha).1) (m + 1) k (by omega) (Nat.le_refl _)
    have := hL.2.1.2.2.2.2.1
    omega
  unfold tnC
  rw [r1, r3]
  simp (disch := omega) only [tP7 hP]
  rw [q1, i32_a, i32_s]
  simp (disch := omega) only [tP9 hP, up2_o]
/-- the next instruction is come to, right on both sides -/
theorem cl_run {A1 B1 : St} {oa' os' hk' : Nat → Nat} {NO' U' EV' i' : Nat} {t' : Nat × Nat} {l' : Nat × Nat × Nat} (hP2 : 3 ≤ P ∧ P ≤ 18) (hZ2 : 85 ≤ Z ∧ Z ≤ 126) (h : MC P Z n k s E F p A0 B0 VV oa os hk NO U EV dp m i c fr t l A B) (hT : ∀ m, m < k → TyM B0 Z m (F (m + 1) - F m) (F m) G (VV m)) (hc : c < 20000) (hN : NO ≤ NO') (hp : PRG P Z A0 B0 A1 B1) (hg : GCo B0 Z n s p E oa' os' hk' NO' U' EV' A1 B1) (hA : ∀ a b, (a = 79 ∨ (a = 81 ∧ b < 64 * dp) ∨ (a = 68 ∧ (b = 8 ∨ b = 12 ∨ b = 14 ∨ b = 17))) → A1 a b = A a b) (hB : ∀ a b, ((193 ≤ a ∧ a ≤ 195) ∨ ((196 ≤ a ∧ a ≤ 199) ∧ b < 16 * dp) ∨ (a = 82 ∧ (b = 34 ∨ b = 37 ∨ b = 63))) → B1 a b = B a b) (hpt : PT dp t'.1 A1 B1) (hfv : FV NO' dp t'.1 t'.2 l' A1 B1) (hi1 : A1 68 10 = Int32.ofNat i') (hi2 : B1 82 64 = Int32.ofNat (F m + i')) (hi3 : i' < F (m + 1) - F m) (hinc : Inc (VV m) i' t' l') (hful : Lful l') : ∃ A2 B2 l2, ((if 4 ≤ (A1 68 14) then some A1 else some (up2 A1 68 17 ((A1 68 17) + 1))).bind fun (q3 : St) => if (q3 68 12) = 0 then some (up2 q3 68 9 (q3 68 10)) else if (q3 68 14) = (-1) then (x170 P q3).bind fun q4 => some (up2 q4 68 9 (q4 68 10)) else some (up2 q3 68 9 (q3 68 10))) = some A2 ∧ (if 4 ≤ (B1 82 34) then some B1 else some (up2 B1 82 37 ((B1 82 37) + 1))) = some B2 ∧ MC P Z n k s E F p A0 B0 VV oa' os' hk' NO' U' EV' dp m i' (c + 1) fr t' l2 A2 B2 := by
  obtain ⟨c1, c2, c3, ⟨r1, r2, r3, r4, r5, r6, r7, r8, r9, r10, r11, r12⟩, c5, c6, c7⟩ := h
  obtain ⟨l2, hv2, ho2⟩ := hinc
  have e14 : A1 68 14 = -1 := by rw [hA _ _ (by omega)]; exact r5
  have e34 : B1 82 34 = -1 := by rw [hB _ _ (by omega)]; exact r6
  have e12 : A1 68 12 = 0 := by rw [hA _ _ (by omega)]; exact r7
  have e17 : A1 68 17 = Int32.ofNat c := by rw [hA _ _ (by omega)]; exact r8
  have e37 : B1 82 37 = Int32.ofNat c := by rw [hB _ _ (by omega)]; exact r9
  rw [if_neg (by rw [e14]; decide), Option.bind_some, up2_o (by omega), e12, if_pos rfl, if_neg (by rw [e34]; decide), e17, e37, i32_s, up2_o (by omega), hi1]
  refine ⟨_, _, l2, rfl, rfl, hp.of (fun a b _ _ => by rw [up2_o (by omega), up2_o (by omega)]) (fun a b _ => up2_o (by omega)), hg.of (fun a b _ => by rw [up2_o (by omega), up2_o (by omega)]) (fun a b _ => up2_o (by omega)), fun g hgd => ?_, ⟨?_, ?_, up2_s _ _ _ _, ?_, ?_, ?_, ?_, ?_, up2_s _ _ _ _, r10, hi3, by omega⟩, hv2, ⟨?_, ?_, hpt.2.2.1, ?_, ?_, hpt.2.2.2.2.2⟩, ?_⟩
  · obtain ⟨y1, y2⟩ := c3 g hgd
    exact ⟨y1.of hN (fun a b y => by rw [up2_o (by omega), up2_o (by omega), hA a b (by omega)]) (fun a b y => by rw [up2_o (by omega), hB a b (by omega)]), y2⟩
  · rw [up2_o (by omega), up2_o (by omega), hA _ _ (by omega)]; exact r1
  · rw [up2_o (by omega), hB _ _ (by omega)]; exact r2
  · rw [up2_o (by omega)]; exact hi2
  · rw [up2_o (by omega), up2_o (by omega)]; exact e14
  · rw [up2_o (by omega)]; exact e34
  · rw [up2_o (by omega), up2_o (by omega)]; exact e12
  · rw [up2_o (by omega), up2_s]
  · rw [up2_o (by omega), up2_o (by omega)]; exact hpt.1
  · rw [up2_o (by omega)]; exact hpt.2.1
  · rw [up2_o (by omega), up2_o (by omega)]; exact hpt.2.2.2.1
  · rw [up2_o (by omega)]; exact hpt.2.2.2.2.1
  · exact (hfv.wk ho2 hful).of (Nat.le_refl _) (fun b _ _ => by rw [up2_o (by omega), up2_o (by omega)]) (fun a b _ _ _ => up2_o (by omega)) hpt.2.2.2.2.2
end
