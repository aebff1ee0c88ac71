/-! WHAT BOTH PARSERS HAVE READ: k methods (the last one may be open), F, H, G where their instructions, labels, tries begin -/
def Plc (x : Int32) : Prop := ∃ q, q < 2000 ∧ x = Int32.ofNat q
def updN (F : Nat → Nat) (k v : Nat) : Nat → Nat := fun i => if i = k then v else F i
theorem updN_s {F : Nat → Nat} {k v : Nat} : updN F k v k = v := if_pos rfl
theorem updN_n {F : Nat → Nat} {k v i : Nat} (h : i ≠ k) : updN F k v i = F i := if_neg h
/-- what is told to an instruction -/
def shp (o : Nat) : Nat := [1, 0, 2, 2, 3, 0, 0, 0, 0, 0, 0, 0, 0, 0, 0, 0, 0, 0, 0, 0, 4, 4, 4, 4, 4, 4, 4, 4, 4, 4, 4, 4, 4, 4, 4, 4, 4, 5, 6, 6, 6, 6, 0, 0, 0, 0, 0, 0, 0, 6, 6, 0, 0, 5, 5, 2, 2, 7, 7].getD o 0
/-- how many of the first n have v -/
def mcn (f : Nat → Int32) (v : Int32) : Nat → Nat
  | 0 => 0
  | n + 1 => mcn f v n + if f n = v then 1 else 0
/-- members -/
def CB (L M : List (List Nat)) (n : Nat) (A B : St) : Prop := A 46 3 = Int32.ofNat n ∧ B 82 20 = Int32.ofNat n ∧ ∀ i, i < n → NE L M (A 47 (3 * i)) (B 172 i) ∧ A 47 (3 * i + 1) = B 173 i ∧ A 47 (3 * i + 2) = B 171 i ∧ Plc (B 173 i)
/-- fields -/
def CF (L M : List (List Nat)) (P Z n : Nat) (A B : St) : Prop := A (P + 3) 3 = Int32.ofNat n ∧ B Z 7 = Int32.ofNat n ∧ ∀ i, i < n → A (P + 4) (5 * i) = B (Z + 9) i ∧ NE L M (A (P + 4) (5 * i + 1)) (B (Z + 10) i) ∧ A (P + 4) (5 * i + 2) = 0 ∧ A (P + 4) (5 * i + 3) = B (Z + 11) i ∧ (B (Z + 11) i = 1 ∨ B (Z + 11) i = 2) ∧ ∃ c, c < 19 ∧ B (Z + 9) i = Int32.ofNat c
/-- statics -/
def CS (L M : List (List Nat)) (P Z n : Nat) (A B : St) : Prop := A (P + 5) 3 = Int32.ofNat n ∧ B Z 6 = Int32.ofNat n ∧ ∀ i, i < n → A (P + 6) (4 * i) = B (Z + 12) i ∧ NE L M (A (P + 6) (4 * i + 1)) (B (Z + 13) i) ∧ A (P + 6) (4 * i + 2) = 0 ∧ A (P + 6) (4 * i + 3) = B (Z + 14) i ∧ (B (Z + 14) i = 1 ∨ B (Z + 14) i = 2) ∧ ∃ c, c < 19 ∧ B (Z + 12) i = Int32.ofNat c
/-- one class -/
def C1 (L M : List (List Nat)) (P Z c : Nat) (A B : St) : Prop := NE L M (A (P + 2) (6 * c + 1)) (B (Z + 4) c) ∧ A (P + 2) (6 * c + 4) = 0 ∧ (c < 7 → A (P + 2) (6 * c + 1) = Int32.ofNat (68 + c) ∧ B (Z + 4) c = Int32.ofNat c ∧ A (P + 2) (6 * c) = B (Z + 8) c ∧ B (Z + 8) c = (if c = 0 then -1 else if c = 1 then 0 else 1)) ∧ (7 ≤ c → A 45 (3 * c) = B (Z + 5) c ∧ Plc (B (Z + 5) c) ∧ A (P + 2) (6 * c) = 0 ∧ ((A 45 (3 * c + 1) = -1 ∧ B (Z + 6) c = -1) ∨ (NE L M (A 45 (3 * c + 1)) (B (Z + 6) c) ∧ A 45 (3 * c + 2) = B (Z + 7) c ∧ Plc (B (Z + 7) c))))
/-- classes; E: where their fields begin -/
def CC (L M : List (List Nat)) (P Z n k : Nat) (E : Nat → Nat) (A B : St) : Prop := A (P + 1) 3 = Int32.ofNat n ∧ A 44 3 = Int32.ofNat n ∧ B Z 5 = Int32.ofNat n ∧ ∀ c, c < n → C1 L M P Z c A B ∧ A (P + 2) (6 * c + 2) = Int32.ofNat (E c) ∧ A (P + 2) (6 * c + 3) = Int32.ofNat (E (c + 1) - E c) ∧ E c ≤ E (c + 1) ∧ E (c + 1) ≤ E c + 8 ∧ (∀ f, E c ≤ f → f < E (c + 1) → B (Z + 9) f = Int32.ofNat c) ∧ A (P + 2) (6 * c + 5) = Int32.ofNat (mcn (B (Z + 15)) (Int32.ofNat c) k)
/-- one method's head -/
def Mh (L M : List (List Nat)) (P Z m : Nat) (A B : St) : Prop := A (P + 8) (16 * m) = B (Z + 15) m ∧ (∃ c, c < 19 ∧ B (Z + 15) m = Int32.ofNat c) ∧ NE L M (A (P + 8) (16 * m + 1)) (B (Z + 16) m) ∧ A 49 (4 * m) = B (Z + 17) m ∧ Plc (B (Z + 17) m) ∧ A (P + 8) (16 * m + 2) = B (Z + 25) m ∧ (B (Z + 25) m = 0 ∨ B (Z + 25) m = 1) ∧ A (P + 8) (16 * m + 3) = B (Z + 20) m ∧ (∃ r, r ≤ 2 ∧ B (Z + 20) m = Int32.ofNat r) ∧ A (P + 8) (16 * m + 9) = 0
/-- its kinds -/
def Mk (P Z m k rf : Nat) (A B : St) : Prop := B (Z + 18) m = Int32.ofNat k ∧ B (Z + 19) m = Int32.ofNat rf ∧ k ≤ 6 ∧ rf < 2 ^ k ∧ ∀ i, i < k → A (P + 8) (16 * m + 10 + i) = if rf.testBit i then 2 else 1
/-- methods -/
def CM (L M : List (List Nat)) (P Z k : Nat) (F H G : Nat → Nat) (A B : St) : Prop := A (P + 7) 3 = Int32.ofNat k ∧ A 48 3 = Int32.ofNat k ∧ B Z 8 = Int32.ofNat k ∧ ∀ m, m < k → Mh L M P Z m A B ∧ (∃ c rf, A (P + 8) (16 * m + 4) = Int32.ofNat c ∧ Mk P Z m c rf A B) ∧ A (P + 8) (16 * m + 5) = Int32.ofNat (F m) ∧ B (Z + 21) m = Int32.ofNat (F m) ∧ A (P + 8) (16 * m + 6) = Int32.ofNat (F (m + 1) - F m) ∧ A (P + 8) (16 * m + 7) = Int32.ofNat (G m) ∧ A (P + 8) (16 * m + 8) = Int32.ofNat (G (m + 1) - G m) ∧ A 49 (4 * m + 2) = Int32.ofNat (H m) ∧ A 49 (4 * m + 3) = Int32.ofNat (H (m + 1) - H m)
/-- closed methods -/
def CZ (Z k : Nat) (F : Nat → Nat) (A B : St) : Prop := ∀ m, m < k → B (Z + 22) m = Int32.ofNat (F (m + 1) - F m) ∧ A 49 (4 * m + 1) = B (Z + 23) m ∧ Plc (B (Z + 23) m)
/-- one instruction -/
def K1 (L M : List (List Nat)) (P Z i : Nat) (A B : St) : Prop := ∃ o, o < 59 ∧ A (P + 10) (3 * i) = Int32.ofNat o ∧ B (Z + 26) i = Int32.ofNat o ∧ A 53 (3 * i) = B (Z + 28) i ∧ Plc (B (Z + 28) i) ∧ ((shp o = 1 ∨ shp o = 2 ∨ shp o = 3 ∨ shp o = 7) → A (P + 10) (3 * i + 1) = B (Z + 27) i) ∧ ((shp o = 2 ∨ shp o = 3) → ∃ v, v < 16 ∧ B (Z + 27) i = Int32.ofNat v) ∧ (shp o = 3 → A (P + 10) (3 * i + 2) = B (Z + 31) i) ∧ ((shp o = 4 ∨ shp o = 5 ∨ shp o = 6) → NE L M (A (P + 10) (3 * i + 1)) (B (Z + 29) i) ∧ A 53 (3 * i + 1) = B (Z + 30) i ∧ Plc (B (Z + 30) i)) ∧ (shp o = 6 → NE L M (A (P + 10) (3 * i + 2)) (B (Z + 31) i) ∧ A 53 (3 * i + 2) = B (Z + 32) i ∧ Plc (B (Z + 32) i))
def CK (L M : List (List Nat)) (P Z k : Nat) (F : Nat → Nat) (A B : St) : Prop := A (P + 9) 3 = Int32.ofNat (F k) ∧ A 52 3 = Int32.ofNat (F k) ∧ B Z 9 = Int32.ofNat (F k) ∧ F 0 = 0 ∧ (∀ m, m < k → F m ≤ F (m + 1) ∧ F (m + 1) ≤ F m + 100) ∧ ∀ i, i < F k → K1 L M P Z i A B
/-- labels -/
def CL (L M : List (List Nat)) (Z k : Nat) (F H : Nat → Nat) (A B : St) : Prop := A 50 3 = Int32.ofNat (H k) ∧ B Z 10 = Int32.ofNat (H k) ∧ H 0 = 0 ∧ ∀ m, m < k → H m ≤ H (m + 1) ∧ ∀ l, H m ≤ l → l < H (m + 1) → NE L M (A 51 (3 * l)) (B (Z + 35) l) ∧ A 51 (3 * l + 1) = B 174 l ∧ Plc (B 174 l) ∧ B (Z + 34) l = Int32.ofNat m ∧ ∃ t, F m + t ≤ F (m + 1) ∧ A 51 (3 * l + 2) = Int32.ofNat t ∧ B (Z + 36) l = Int32.ofNat (F m + t)
/-- tries -/
def CT (L M : List (List Nat)) (P Z k : Nat) (G : Nat → Nat) (A B : St) : Prop := A (P + 11) 3 = Int32.ofNat (G k) ∧ A 54 3 = Int32.ofNat (G k) ∧ B Z 11 = Int32.ofNat (G k) ∧ G 0 = 0 ∧ ∀ m, m < k → G m ≤ G (m + 1) ∧ G (m + 1) ≤ G m + 8 ∧ ∀ t, G m ≤ t → t < G (m + 1) → B (Z + 37) t = Int32.ofNat m ∧ ∀ j, j < 4 → NE L M (A (P + 12) (4 * t + j)) (B (Z + 38) (4 * t + j)) ∧ A 55 (4 * t + j) = B (Z + 39) (4 * t + j) ∧ Plc (B (Z + 39) (4 * t + j))
section
variable {L M M' : List (List Nat)} {P Z n k c m : Nat} {F H G F' H' G' E : Nat → Nat} {A B A' B' : St}
theorem CB.of (h : CB L M n A B) (hM : Mo M M') (hA : ∀ a b, ((a = 46 ∧ b = 3) ∨ a = 47) → A' a b = A a b) (hB : ∀ a b, ((a = 82 ∧ b = 20) ∨ (171 ≤ a ∧ a ≤ 173)) → B' a b = B a b) : CB L M' n A' B' := by
  obtain ⟨h1, h2, h3⟩ := h
  refine ⟨by rw [hA _ _ (by omega)]; exact h1, by rw [hB _ _ (by omega)]; exact h2, fun i hi => ?_⟩
  have := h3 i hi
  simp (disch := omega) only [hA, hB]
  exact ⟨this.1.mono hM, this.2⟩
theorem CF.of (h : CF L M P Z n A B) (hM : Mo M M') (hA : ∀ a b, ((a = P + 3 ∧ b = 3) ∨ a = P + 4) → A' a b = A a b) (hB : ∀ a b, ((a = Z ∧ b = 7) ∨ (Z + 9 ≤ a ∧ a ≤ Z + 11)) → B' a b = B a b) : CF L M' P Z n A' B' := by
  obtain ⟨h1, h2, h3⟩ := h
  refine ⟨by rw [hA _ _ (by omega)]; exact h1, by rw [hB _ _ (by omega)]; exact h2, fun i hi => ?_⟩
  have := h3 i hi
  simp (disch := omega) only [hA, hB]
  exact ⟨this.1, this.2.1.mono hM, this.2.2⟩
theorem CS.of (h : CS L M P Z n A B) (hM : Mo M M') (hA : ∀ a b, ((a = P + 5 ∧ b = 3) ∨ a = P + 6) → A' a b = A a b) (hB : ∀ a b, ((a = Z ∧ b = 6) ∨ (Z + 12 ≤ a ∧ a ≤ Z + 14)) → B' a b = B a b) : CS L M' P Z n A' B' := by
  obtain ⟨h1, h2, h3⟩ := h
  refine ⟨by rw [hA _ _ (by omega)]; exact h1, by rw [hB _ _ (by omega)]; exact h2, fun i hi => ?_⟩
  have := h3 i hi
  simp (disch := omega) only [hA, hB]
  exact ⟨this.1, this.2.1.mono hM, this.2.2⟩
theorem C1.of (h : C1 L M P Z c A B) (hM : Mo M M') (hA : ∀ a b, ((a = P + 2 ∧ (b = 6 * c ∨ b = 6 * c + 1 ∨ b = 6 * c + 4)) ∨ (a = 45 ∧ 3 * c ≤ b ∧ b ≤ 3 * c + 2)) → A' a b = A a b) (hB : ∀ a b, ((Z + 4 ≤ a ∧ a ≤ Z + 8) ∧ b = c) → B' a b = B a b) : C1 L M' P Z c A' B' := by
  obtain ⟨h1, h2, h3, h4⟩ := h
  unfold C1
  simp (disch := omega) only [hA, hB]
  refine ⟨h1.mono hM, h2, h3, fun z => ?_⟩
  obtain ⟨g1, g2, g3, g4⟩ := h4 z
  refine ⟨g1, g2, g3, ?_⟩
  rcases g4 with g4 | g4
  · exact Or.inl g4
  · exact Or.inr ⟨g4.1.mono hM, g4.2⟩
theorem mcn_of {f g : Nat → Int32} {v : Int32} : ∀ n, (∀ i, i < n → f i = g i) → mcn f v n = mcn g v n := by
  intro n
  induction n with
  | zero => intro _; rfl
  | succ n ih =>
    intro h
    rw [mcn, mcn, ih (fun i hi => h i (by omega)), h n (by omega)]
theorem mcn_le {f : Nat → Int32} {v : Int32} : ∀ n, mcn f v n ≤ n := by
  intro n
  induction n with
  | zero => exact Nat.le_refl _
  | succ n ih => rw [mcn]; split <;> omega
theorem CC.of (h : CC L M P Z n k E A B) (hM : Mo M M') (hA : ∀ a b, ((a = P + 1 ∧ b = 3) ∨ (a = 44 ∧ b = 3) ∨ a = P + 2 ∨ a = 45) → A' a b = A a b) (hB : ∀ a b, ((a = Z ∧ b = 5) ∨ (Z + 4 ≤ a ∧ a ≤ Z + 8) ∨ (a = Z + 9) ∨ (a = Z + 15)) → B' a b = B a b) : CC L M' P Z n k E A' B' := by
  obtain ⟨h1, h2, h3, h4⟩ := h
  refine ⟨by rw [hA _ _ (by omega)]; exact h1, by rw [hA _ _ (by omega)]; exact h2, by rw [hB _ _ (by omega)]; exact h3, fun c hc => ?_⟩
  obtain ⟨g1, g2, g3, g4, g5, g6, g7⟩ := h4 c hc
  refine ⟨g1.of hM (fun a b z => hA a b (by omega)) (fun a b z => hB a b (by omega)), by rw [hA _ _ (by omega)]; exact g2, by rw [hA _ _ (by omega)]; exact g3, g4, g5, fun f z1 z2 => by rw [hB _ _ (by omega)]; exact g6 f z1 z2, ?_⟩
  rw [hA _ _ (by omega), g7, mcn_of k (fun i hi => (hB (Z + 15) i (by omega)).symm)]
theorem Mh.of (h : Mh L M P Z m A B) (hM : Mo M M') (hA : ∀ a b, ((a = P + 8 ∧ ((16 * m ≤ b ∧ b ≤ 16 * m + 3) ∨ b = 16 * m + 9)) ∨ (a = 49 ∧ b = 4 * m)) → A' a b = A a b) (hB : ∀ a b, (((Z + 15 ≤ a ∧ a ≤ Z + 17) ∨ a = Z + 25 ∨ a = Z + 20) ∧ b = m) → B' a b = B a b) : Mh L M' P Z m A' B' := by
  obtain ⟨h1, h2, h3, h4⟩ := h
  unfold Mh
  simp (disch := omega) only [hA, hB]
  exact ⟨h1, h2, h3.mono hM, h4⟩
theorem Mk.of {c rf : Nat} (h : Mk P Z m c rf A B) (hA : ∀ a b, (a = P + 8 ∧ (16 * m + 10 ≤ b ∧ b < 16 * m + 10 + c)) → A' a b = A a b) (hB : ∀ a b, ((a = Z + 18 ∨ a = Z + 19) ∧ b = m) → B' a b = B a b) : Mk P Z m c rf A' B' := by
  obtain ⟨h1, h2, h3, h4, h5⟩ := h
  exact ⟨by rw [hB _ _ (by omega)]; exact h1, by rw [hB _ _ (by omega)]; exact h2, h3, h4, fun i hi => by rw [hA _ _ (by omega)]; exact h5 i hi⟩
theorem CM.of (h : CM L M P Z k F H G A B) (hM : Mo M M') (hA : ∀ a b, ((a = P + 7 ∧ b = 3) ∨ (a = 48 ∧ b = 3) ∨ a = P + 8 ∨ (a = 49 ∧ b % 4 ≠ 1)) → A' a b = A a b) (hB : ∀ a b, ((a = Z ∧ b = 8) ∨ (Z + 15 ≤ a ∧ a ≤ Z + 21) ∨ (a = Z + 25)) → B' a b = B a b) : CM L M' P Z k F H G A' B' := by
  obtain ⟨h1, h2, h3, h4⟩ := h
  refine ⟨by rw [hA _ _ (by omega)]; exact h1, by rw [hA _ _ (by omega)]; exact h2, by rw [hB _ _ (by omega)]; exact h3, fun m hm => ?_⟩
  obtain ⟨g1, ⟨c, rf, g2, g3⟩, g4, g5, g6, g7, g8, g9, g10⟩ := h4 m hm
  refine ⟨g1.of hM (fun a b z => hA a b (by omega)) (fun a b z => hB a b (by omega)), ⟨c, rf, by rw [hA _ _ (by omega)]; exact g2, g3.of (fun a b z => hA a b (by omega)) (fun a b z => hB a b (by omega))⟩, ?_⟩
  simp (disch := omega) only [hA, hB]
  exact ⟨g4, g5, g6, g7, g8, g9, g10⟩
theorem CZ.of (h : CZ Z k F A B) (hF : ∀ m, m ≤ k → F' m = F m) (hA : ∀ a b, (a = 49 ∧ b % 4 = 1 ∧ b < 4 * k) → A' a b = A a b) (hB : ∀ a b, ((a = Z + 22 ∨ a = Z + 23) ∧ b < k) → B' a b = B a b) : CZ Z k F' A' B' := by
  intro m hm
  have := h m hm
  rw [hF _ (by omega), hF _ (by omega)]
  simp (disch := omega) only [hA, hB]
  exact this
theorem K1.of {i : Nat} (h : K1 L M P Z i A B) (hM : Mo M M') (hA : ∀ a b, ((a = P + 10 ∨ a = 53) ∧ 3 * i ≤ b ∧ b ≤ 3 * i + 2) → A' a b = A a b) (hB : ∀ a b, ((Z + 26 ≤ a ∧ a ≤ Z + 32) ∧ b = i) → B' a b = B a b) : K1 L M' P Z i A' B' := by
  obtain ⟨o, h1, h2, h3, h4, h5, h6, h7, h8, h9, h10⟩ := h
  refine ⟨o, h1, ?_⟩
  simp (disch := omega) only [hA, hB]
  exact ⟨h2, h3, h4, h5, h6, h7, h8, fun z => ⟨(h9 z).1.mono hM, (h9 z).2⟩, fun z => ⟨(h10 z).1.mono hM, (h10 z).2⟩⟩
theorem CK.of (h : CK L M P Z k F A B) (hM : Mo M M') (hA : ∀ a b, ((a = P + 9 ∧ b = 3) ∨ (a = 52 ∧ b = 3) ∨ a = P + 10 ∨ a = 53) → A' a b = A a b) (hB : ∀ a b, ((a = Z ∧ b = 9) ∨ (Z + 26 ≤ a ∧ a ≤ Z + 32)) → B' a b = B a b) : CK L M' P Z k F A' B' := by
  obtain ⟨h1, h2, h3, h4, h5, h6⟩ := h
  exact ⟨by rw [hA _ _ (by omega)]; exact h1, by rw [hA _ _ (by omega)]; exact h2, by rw [hB _ _ (by omega)]; exact h3, h4, h5, fun i hi => (h6 i hi).of hM (fun a b z => hA a b (by omega)) (fun a b z => hB a b (by omega))⟩
theorem CL.of (h : CL L M Z k F H A B) (hM : Mo M M') (hF : ∀ m, m < k → F' m = F m ∧ F (m + 1) ≤ F' (m + 1)) (hA : ∀ a b, ((a = 50 ∧ b = 3) ∨ a = 51) → A' a b = A a b) (hB : ∀ a b, ((a = Z ∧ b = 10) ∨ a = 174 ∨ (Z + 34 ≤ a ∧ a ≤ Z + 36)) → B' a b = B a b) : CL L M' Z k F' H A' B' := by
  obtain ⟨h1, h2, h3, h4⟩ := h
  refine ⟨by rw [hA _ _ (by omega)]; exact h1, by rw [hB _ _ (by omega)]; exact h2, h3, fun m hm => ⟨(h4 m hm).1, fun l z1 z2 => ?_⟩⟩
  obtain ⟨g1, g2, g3, g4, t, g5, g6, g7⟩ := (h4 m hm).2 l z1 z2
  obtain ⟨e1, e2⟩ := hF m hm
  simp (disch := omega) only [hA, hB]
  exact ⟨g1.mono hM, g2, g3, g4, t, by omega, g6, by rw [e1]; exact g7⟩
theorem CT.of (h : CT L M P Z k G A B) (hM : Mo M M') (hA : ∀ a b, ((a = P + 11 ∧ b = 3) ∨ (a = 54 ∧ b = 3) ∨ a = P + 12 ∨ a = 55) → A' a b = A a b) (hB : ∀ a b, ((a = Z ∧ b = 11) ∨ (Z + 37 ≤ a ∧ a ≤ Z + 39)) → B' a b = B a b) : CT L M' P Z k G A' B' := by
  obtain ⟨h1, h2, h3, h4, h5⟩ := h
  refine ⟨by rw [hA _ _ (by omega)]; exact h1, by rw [hA _ _ (by omega)]; exact h2, by rw [hB _ _ (by omega)]; exact h3, h4, fun m hm => ⟨(h5 m hm).1, (h5 m hm).2.1, fun t z1 z2 => ⟨by rw [hB _ _ (by omega)]; exact ((h5 m hm).2.2 t z1 z2).1, fun j hj => ?_⟩⟩⟩
  have := ((h5 m hm).2.2 t z1 z2).2 j hj
  simp (disch := omega) only [hA, hB]
  exact ⟨this.1.mono hM, this.2⟩
end
