/-! A TEXT's start, in lockstep -/
section
variable {P Z : Nat} {T : Tp} {A B : St}
theorem tget_c {I J : St} {k : Nat} (h : ∀ b, J (sf k 2) b = I (sf k 2) b) (a b : Int32) : tget J k a b = tget I k a b := by
  unfold tget
  rw [h]
theorem NmR.cof {L : List (List Nat)} {u : Nat} {I J : St} (h : NmR L u I) (h1 : J 37 3 = I 37 3) (h2 : ∀ a b, (a = 38 ∨ a = 40 ∨ a = 42) → J a b = I a b) : NmR L u J := by
  have e37 : ∀ a b, tget J 37 a b = tget I 37 a b := tget_c (fun b => h2 _ _ (Or.inl rfl))
  have e39 : ∀ a b, tget J 39 a b = tget I 39 a b := tget_c (fun b => h2 _ _ (Or.inr (Or.inl rfl)))
  have e41 : ∀ a b, tget J 41 a b = tget I 41 a b := tget_c (fun b => h2 _ _ (Or.inr (Or.inr rfl)))
  unfold NmR at h ⊢
  simp only [e37, e39, e41, h1]
  exact h
theorem fP_p : ∀ c, c < 7 → fP c = if c = 0 then -1 else if c = 1 then 0 else 1 := by decide
/-- the class, ahead of its first class -/
theorem cst_l (hP : P = 3 ∨ P = 18) (hT : TC T A) : ∃ A1 A2 A3 L u K, x25 A = some A1 ∧ x4 P (up2 (tresize A1 1 0) 0 10 (-1)) = some A2 ∧ x54 A2 = some A3 ∧ NmR L u (up2 (up2 (up2 A3 56 3 0) 56 4 0) 56 5 (-1)) ∧ PS T L K (sk T 0) (up2 (up2 (up2 A3 56 3 0) 56 4 0) 56 5 (-1)) ∧ (∀ c, c < 7 → L[68 + c]? = wl2[c]?) ∧ (A3 (P + 1) 3 = 7 ∧ A3 44 3 = 7 ∧ A3 46 3 = 0 ∧ A3 48 3 = 0 ∧ A3 50 3 = 0 ∧ A3 52 3 = 0 ∧ A3 54 3 = 0 ∧ A3 (P + 3) 3 = 0 ∧ A3 (P + 5) 3 = 0 ∧ A3 (P + 7) 3 = 0 ∧ A3 (P + 9) 3 = 0 ∧ A3 (P + 11) 3 = 0) ∧ ∀ x, x < 7 → A3 (P + 2) (6 * x) = fP x ∧ A3 (P + 2) (6 * x + 1) = Int32.ofNat (68 + x) ∧ A3 (P + 2) (6 * x + 2) = 0 ∧ A3 (P + 2) (6 * x + 3) = 0 ∧ A3 (P + 2) (6 * x + 4) = 0 ∧ A3 (P + 2) (6 * x + 5) = 0 := by
  have hP2 : 3 ≤ P ∧ P ≤ 18 := by omega
  obtain ⟨A1, L, u, K, e1, hN, hX, hTk, hK, hKT⟩ := x25_n hT
  have t1 : tresize A1 1 0 = up2 A1 1 3 0 := tres_n (k := 1) (n := 0) (by decide) (by decide)
  have tP : ∀ (I : St) (j : Nat), (j = 1 ∨ j = 3 ∨ j = 5 ∨ j = 7 ∨ j = 9 ∨ j = 11) → tresize I (P + j) 0 = up2 I (P + j) 3 0 := by
    intro I j hj
    exact tres_n (k := P + j) (n := 0) (Nat.zero_le _) (by rcases hP with rfl | rfl <;> rcases hj with rfl | rfl | rfl | rfl | rfl | rfl <;> decide)
  generalize hA1 : up2 (up2 A1 1 3 0) 0 10 (-1) = B1
  generalize hI : up2 (up2 (up2 (up2 (up2 (up2 B1 (P + 3) 3 0) (P + 5) 3 0) (P + 7) 3 0) (P + 9) 3 0) (P + 11) 3 0) (P + 1) 3 0 = I
  have fI : ∀ a b, (a < P + 1 ∨ P + 14 < a) → I a b = B1 a b := fun a b y => by rw [← hI]; simp (disch := omega) only [up2_o]
  obtain ⟨A2, j1, j2, j3, j4⟩ := l4_n hP 7 0 99992 I (by omega) (by rw [← hI, up2_s]; rfl) (by rw [← hI]; simp (disch := omega) only [up2_o, up2_s])
  have d44 : tresize A2 44 7 = up2 A2 44 3 7 := tres_n (k := 44) (n := 7) (by decide) (by decide)
  have d46 : ∀ I : St, tresize I 46 0 = up2 I 46 3 0 := fun I => tres_n (k := 46) (n := 0) (by decide) (by decide)
  have d48 : ∀ I : St, tresize I 48 0 = up2 I 48 3 0 := fun I => tres_n (k := 48) (n := 0) (by decide) (by decide)
  have d50 : ∀ I : St, tresize I 50 0 = up2 I 50 3 0 := fun I => tres_n (k := 50) (n := 0) (by decide) (by decide)
  have d52 : ∀ I : St, tresize I 52 0 = up2 I 52 3 0 := fun I => tres_n (k := 52) (n := 0) (by decide) (by decide)
  have d54 : ∀ I : St, tresize I 54 0 = up2 I 54 3 0 := fun I => tres_n (k := 54) (n := 0) (by decide) (by decide)
  generalize hA3 : up2 (up2 (up2 (up2 (up2 (up2 A2 44 3 7) 46 3 0) 48 3 0) 50 3 0) 52 3 0) 54 3 0 = A3
  have f3 : ∀ a b, (a < 44 ∨ 54 < a) → A3 a b = A2 a b := fun a b y => by rw [← hA3]; simp (disch := omega) only [up2_o]
  have f2 : ∀ a b, (a < P + 1 ∨ P + 14 < a) → A2 a b = B1 a b := fun a b y => by rw [j3 a b (by omega) (by omega), fI a b y]
  generalize hA4 : up2 (up2 (up2 A3 56 3 0) 56 4 0) 56 5 (-1) = A4
  have f4 : ∀ a b, (a ≠ 56 ∨ b < 3 ∨ 5 < b) → A4 a b = A3 a b := fun a b y => by rw [← hA4]; simp (disch := omega) only [up2_o]
  have g : ∀ a b, 33 ≤ a → (a < 44 ∨ 56 < a) → A4 a b = A1 a b := fun a b y1 y2 => by rw [f4 a b (by omega), f3 a b (by omega), f2 a b (by omega), ← hA1, up2_o (by omega), up2_o (by omega)]
  have hTk4 : Tks T L (K + 1) A4 := by
    unfold Tks at hTk ⊢
    have e34 : ∀ a b, tget A4 34 a b = tget A1 34 a b := tget_c (fun b => g _ _ (by decide) (by decide))
    simp only [e34, g 34 3 (by omega) (by omega)]
    exact hTk
  refine ⟨A1, A2, A3, L, u, K, e1, ?_, ?_, by rw [hA4]; exact hN.cof (g _ _ (by omega) (by omega)) (fun a b y => g _ _ (by omega) (by omega)), by rw [hA4]; exact ⟨hTk4, hK, by have := hT.2.1; omega, hX, hN.2.2.2.1, fun i hi => (hT.2.2 i hi).2, by rw [← hA4, up2_s], 0, Nat.zero_le _, by rw [← hA4]; simp (disch := omega) only [up2_o, up2_s]; rfl, rfl⟩, fun c hc => ?_, ⟨?_, ?_, ?_, ?_, ?_, ?_, ?_, ?_, ?_, ?_, ?_, ?_⟩, fun x hx => ?_⟩
  · unfold x4 Lt
    rw [t1, hA1]
    simp only [tP _ 3 (by omega), tP _ 5 (by omega), tP _ 7 (by omega), tP _ 9 (by omega), tP _ 11 (by omega), tP _ 1 (by omega), hI]
    rw [show (100000 : Nat) = 99992 + 7 + 1 from rfl, show (0 : Int32) = Int32.ofNat 0 from rfl, j1]; rfl
  · unfold x54 Lt
    rw [d44, d46, d48, d50, d52, d54, hA3]
  · rw [hX (68 + c) (by omega)]
    have : ∀ c, c < 7 → wlA[68 + c]? = wl2[c]? := by decide +kernel
    exact this c hc
  · rw [f3 _ _ (by omega)]; exact j2
  · rw [← hA3]; simp (disch := omega) only [up2_o, up2_s]
  · rw [← hA3]; simp (disch := omega) only [up2_o, up2_s]
  · rw [← hA3]; simp (disch := omega) only [up2_o, up2_s]
  · rw [← hA3]; simp (disch := omega) only [up2_o, up2_s]
  · rw [← hA3]; simp (disch := omega) only [up2_o, up2_s]
  · rw [← hA3]; simp (disch := omega) only [up2_o, up2_s]
  · rw [f3 _ _ (by omega), j3 _ _ (by omega) (by omega), ← hI]; simp (disch := omega) only [up2_o, up2_s]
  · rw [f3 _ _ (by omega), j3 _ _ (by omega) (by omega), ← hI]; simp (disch := omega) only [up2_o, up2_s]
  · rw [f3 _ _ (by omega), j3 _ _ (by omega) (by omega), ← hI]; simp (disch := omega) only [up2_o, up2_s]
  · rw [f3 _ _ (by omega), j3 _ _ (by omega) (by omega), ← hI]; simp (disch := omega) only [up2_o, up2_s]
  · rw [f3 _ _ (by omega), j3 _ _ (by omega) (by omega), ← hI]; simp (disch := omega) only [up2_o, up2_s]
  · obtain ⟨w1, w2, w3, w4, w5, w6⟩ := j4 x (by omega) hx
    simp (disch := omega) only [f3]
    rw [fP_p x hx]
    exact ⟨w1, w2, w3, w4, w5, w6⟩
/-- the reference, ahead of its first class -/
theorem rst_l (hZ : Z = 85 ∨ Z = 126) (hT : TB T B) : ∃ B1 B2, x185 Z (up2 (up2 (up2 B 82 5 (-1)) 82 11 0) 82 20 0) = some B1 ∧ x192 B1 = some B2 ∧ RS T (sk T 0) B2 ∧ RN Z wl2 57 B2 ∧ B2 82 20 = 0 ∧ B2 Z 5 = 7 ∧ (∀ b, 6 ≤ b → b ≤ 11 → B2 Z b = 0) ∧ (∀ x, x < 7 → B2 (Z + 4) x = Int32.ofNat x ∧ B2 (Z + 8) x = fP x) ∧ ∀ a b, (a < 82 ∨ (167 ≤ a ∧ a ≤ 170) ∨ (a = 82 ∧ (b = 6 ∨ b = 33))) → B2 a b = B a b := by
  have hZ2 : 85 ≤ Z ∧ Z ≤ 126 := by omega
  obtain ⟨B1, e1, hN, h5, h6, h4, hf⟩ := x185_n hZ2.1 (up2 (up2 (up2 B 82 5 (-1)) 82 11 0) 82 20 0)
  have g1 : ∀ a b, (a < Z + 1 ∨ Z + 8 < a) → a ≠ Z → (a ≠ 82 ∨ (b ≠ 5 ∧ b ≠ 11 ∧ b ≠ 20)) → B1 a b = B a b := fun a b y1 y2 y3 => by rw [hf a b y2 (by omega)]; simp (disch := omega) only [up2_o]
  have hT1 : TB T B1 := by
    obtain ⟨t1, t2, t3⟩ := hT
    exact ⟨by rw [g1 _ _ (by omega) (by omega) (by omega)]; exact t1, t2, fun i hi => by rw [g1 _ _ (by omega) (by omega) (by omega)]; exact t3 i hi⟩
  obtain ⟨B2, e2, hR⟩ := x192_n (a := 0) hT1 (by rw [hf _ _ (by omega) (by omega)]; simp (disch := omega) only [up2_o, up2_s]; rfl) (Nat.zero_le _)
  have hf2 := x192_fr _ _ Frm.refl _ e2
  have g2 : ∀ a b, (a ≠ 82 ∨ b < 11 ∨ 16 < b) → (a ≠ 84) → B2 a b = B1 a b := fun a b y1 _ => f82 hf2 a b y1
  have hT2 : TB T B2 := by
    obtain ⟨t1, t2, t3⟩ := hT1
    exact ⟨by rw [g2 _ _ (by omega) (by omega)]; exact t1, t2, fun i hi => by rw [g2 _ _ (by omega) (by omega)]; exact t3 i hi⟩
  refine ⟨B1, B2, e1, e2, ⟨hT2, hR, sk_le (Nat.zero_le _)⟩, hN.of (fun a b y => g2 a b (by omega) (by omega)), ?_, ?_, fun b y1 y2 => ?_, fun x hx => ?_, fun a b y => ?_⟩
  · rw [g2 _ _ (by omega) (by omega), hf _ _ (by omega) (by omega)]; simp (disch := omega) only [up2_o, up2_s]
  · rw [g2 _ _ (by omega) (by omega)]; exact h5
  · rw [g2 _ _ (by omega) (by omega)]; exact h6 b y1 y2
  · rw [g2 _ _ (by omega) (by omega), g2 _ _ (by omega) (by omega)]; exact h4 x hx
  · rw [g2 _ _ (by omega) (by omega), g1 _ _ (by omega) (by omega) (by omega)]
end
