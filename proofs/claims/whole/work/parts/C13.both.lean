/-! BOTH PROGRAMS between two calls -/
theorem fkd_cg {B B' : St} {Z : Nat} {p E : Nat → Nat} (h : ∀ f, B' (Z + 11) f = B (Z + 11) f) : ∀ d c q, fkd B' Z p E d c q = fkd B Z p E d c q := by
  intro d
  induction d with
  | zero => intro c q; rfl
  | succ d ih =>
    intro c q
    rw [fkd, fkd, ih, h]
section
variable {P Z n k s : Nat} {E F G p : Nat → Nat} {A B A' B' : St}
theorem Run1.of (h : Run1 P Z n s E p A B) (hA : ∀ a b, ((a = 68 ∧ 13 ≤ b) ∨ (70 ≤ a ∧ a ≤ 77)) → A' a b = A a b) (hB : ∀ a b, ((a = 82 ∧ 33 ≤ b) ∨ (181 ≤ a ∧ a ≤ 192) ∨ (Z + 4 ≤ a ∧ a ≤ Z + 40 ∧ a ≠ Z + 24)) → B' a b = B a b) : Run1 P Z n s E p A' B' := by
  unfold Run1
  rw [hA 68 13 (by omega), hB 82 33 (by omega)]
  rcases h with h | ⟨h1, h2, oa, os, hk, NO, U, EV, e, c', g1, g2, g3, g4, g5, g6, g7, g8, g9, g10, g11⟩
  · exact Or.inl h
  · refine Or.inr ⟨h1, h2, oa, os, hk, NO, U, EV, e, c', ?_, ?_, ?_, g4, ?_, ?_, ?_, ?_, ?_, ?_, ?_⟩
    · obtain ⟨p1, p2, p3, p4, p5, p6, p7, p8⟩ := g1
      refine ⟨?_, ?_, ?_, ?_, ?_, p6, fun i hi => ?_, fun j hj => ?_⟩
      · rw [hA _ _ (by omega)]; exact p1
      · rw [hB _ _ (by omega)]; exact p2
      · rw [hA _ _ (by omega)]; exact p3
      · rw [hB _ _ (by omega)]; exact p4
      · rw [hB _ _ (by omega)]; exact p5
      · obtain ⟨q1, q2, q3, q4, q5, q6, q7, q8⟩ := p7 i hi
        unfold Ob1
        simp only [fkd_cg (fun f => hB (Z + 11) f (by omega))]
        rw [hA 71 _ (by omega), hA 71 _ (by omega), hA 71 _ (by omega), hA 71 _ (by omega), hB 181 _ (by omega), hB 182 _ (by omega), hB 183 _ (by omega), hB 184 _ (by omega)]
        exact ⟨q1, q2, q3, q4, q5, q6, q7, q8⟩
      · rw [hA 73 _ (by omega), hA 73 _ (by omega), hB 185 _ (by omega), hB 186 _ (by omega)]; exact p8 j hj
    · intro j hj
      rw [hA 75 _ (by omega), hA 75 _ (by omega), hB 187 _ (by omega), hB 188 _ (by omega), hB (Z + 14) _ (by omega)]
      exact g2 j hj
    · obtain ⟨e1, e2, e3, e4, e5⟩ := g3
      refine ⟨?_, ?_, e3, ?_, fun e he => ?_⟩
      · rw [hA _ _ (by omega)]; exact e1
      · rw [hB _ _ (by omega)]; exact e2
      · rw [hA _ _ (by omega), hB _ _ (by omega)]; exact e4
      · rw [hA _ _ (by omega), hA _ _ (by omega), hA _ _ (by omega), hA _ _ (by omega), hB _ _ (by omega), hB _ _ (by omega), hB _ _ (by omega), hB _ _ (by omega)]; exact e5 e he
    · rw [hA _ _ (by omega)]; exact g5
    · rw [hB _ _ (by omega)]; exact g6
    · rw [hA _ _ (by omega)]; exact g7
    · rw [hB _ _ (by omega)]; exact g8
    · rw [hA _ _ (by omega), hA _ _ (by omega), hB _ _ (by omega), hB _ _ (by omega)]; exact g9
    · rw [hA _ _ (by omega), hA _ _ (by omega), hB _ _ (by omega), hB _ _ (by omega)]; exact g10
    · rw [hA _ _ (by omega), hA _ _ (by omega)]; exact g11
def PrX (P Z : Nat) (A B : St) : Prop := ∃ n k s E F G p, Lkd P Z n k s E F G p A B ∧ TyA B Z k F G ∧ DpA P Z k A B ∧ Run1 P Z n s E p A B
theorem PrX.of (h : PrX P Z A B) (hA : ∀ a b, ((P + 1 ≤ a ∧ a ≤ P + 14) ∨ (a = 68 ∧ 13 ≤ b) ∨ (70 ≤ a ∧ a ≤ 77)) → A' a b = A a b) (hB : ∀ a b, ((a = 82 ∧ 33 ≤ b) ∨ (181 ≤ a ∧ a ≤ 192) ∨ (a = Z ∧ 5 ≤ b) ∨ (Z + 4 ≤ a ∧ a ≤ Z + 40)) → B' a b = B a b) : PrX P Z A' B' := by
  obtain ⟨n, k, s, E, F, G, p, h1, h2, h3, h4⟩ := h
  refine ⟨n, k, s, E, F, G, p, h1.of (fun a b y1 y2 _ => hA a b (by omega)) (fun a b y => hB a b (by omega)), fun m hm => ?_, fun m hm => ?_, h4.of (fun a b y => hA a b (by omega)) (fun a b y => hB a b (by omega))⟩
  · obtain ⟨V, hV⟩ := h2 m hm
    exact ⟨V, hV.of (fun a b y => hB a b (by omega))⟩
  · rw [hA _ _ (by omega), hB _ _ (by omega)]; exact h3 m hm
theorem CpW.of (h : CpW A B) (hA : ∀ a b, ((a = 61 ∧ b = 0) ∨ a = 63 ∨ a = 65 ∨ a = 67) → A' a b = A a b) (hB : ∀ a b, ((a = 82 ∧ b = 6) ∨ (167 ≤ a ∧ a ≤ 170)) → B' a b = B a b) : CpW A' B' := by
  obtain ⟨s1, s2, s3, s4, s5, s6, s7, s8, s9⟩ := sfW
  obtain ⟨h1, h2, h3, h4⟩ := h
  refine ⟨?_, fun i hi => ?_, fun i hi => ?_, fun i hi => ?_⟩
  · rw [hA _ _ (by omega), hB _ _ (by omega)]; exact h1
  · rw [tget_c (k := 62) (fun b => hA _ _ (by rw [s3]; omega)), hB _ _ (by omega)]; exact h2 i hi
  · rw [tget_c (k := 64) (fun b => hA _ _ (by rw [s6]; omega)), hB _ _ (by omega)]; exact h3 i hi
  · rw [tget_c (k := 66) (fun b => hA _ _ (by rw [s9]; omega)), tget_c (k := 66) (fun b => hA _ _ (by rw [s9]; omega)), hB _ _ (by omega), hB _ _ (by omega)]; exact h4 i hi
theorem TC.of {T : Tp} (h : TC T A) (hA : ∀ a b, ((a = 1 ∧ b = 3) ∨ a = 2) → A' a b = A a b) : TC T A' := by
  obtain ⟨h1, h2, h3⟩ := h
  refine ⟨?_, h2, fun i hi => ?_⟩
  · rw [hA _ _ (by omega)]; exact h1
  · rw [tget_c (k := 1) (fun b => hA _ _ (Or.inr rfl))]; exact h3 i hi
theorem TB.of {T : Tp} (h : TB T B) (hB : ∀ a b, ((a = 82 ∧ b = 1) ∨ a = 83) → B' a b = B a b) : TB T B' := by
  obtain ⟨h1, h2, h3⟩ := h
  refine ⟨?_, h2, fun i hi => ?_⟩
  · rw [hB _ _ (by omega)]; exact h1
  · rw [hB _ _ (by omega)]; exact h3 i hi
/-- the two programs stand alike; N: room used of the tape -/
def CpN (P Z N : Nat) (A B : St) : Prop := (∃ T : Tp, T.1 ≤ N ∧ TC T A ∧ TB T B) ∧ CpW A B ∧ A 0 10 = B 82 5 ∧ PrX P Z A B
theorem CpN.of {N : Nat} (hP : P = 3 ∨ P = 18) (hZ : Z = 85 ∨ Z = 126) (h : CpN P Z N A B) (hA : ∀ a b, a < 82 → A' a b = A a b) (hB : ∀ a b, 82 ≤ a → B' a b = B a b) : CpN P Z N A' B' := by
  obtain ⟨⟨T, h1, h2, h3⟩, h4, h5, h6⟩ := h
  refine ⟨⟨T, h1, h2.of (fun a b y => hA a b (by omega)), h3.of (fun a b y => hB a b (by omega))⟩, h4.of (fun a b y => hA a b (by omega)) (fun a b y => hB a b (by omega)), ?_, h6.of (fun a b y => hA a b (by omega)) (fun a b y => hB a b (by omega))⟩
  rw [hA _ _ (by omega), hB _ _ (by omega)]; exact h5
/-- a call in lockstep, on one store -/
theorem one_l {α : Type} {N : Nat} {P' Z' : α → Nat} {N' : Nat} {xc xm : St → Option (α × St)} (hP : P = 3 ∨ P = 18) (hZ : Z = 85 ∨ Z = 126) (hP' : ∀ r, P' r = 3 ∨ P' r = 18) (hZ' : ∀ r, Z' r = 85 ∨ Z' r = 126) (lk : ∀ A B, CpN P Z N A B → ∃ r A' B', xc A = some (r, A') ∧ xm B = some (r, B') ∧ CpN (P' r) (Z' r) N' A' B') (fc : ∀ I q, xc I = some q → ∀ a b, 82 ≤ a → q.2 a b = I a b) (fm : ∀ I q, xm I = some q → ∀ a b, a < 82 → q.2 a b = I a b) {I : St} (h : CpN P Z N I I) : ∃ r A B, xc I = some (r, A) ∧ xm A = some (r, B) ∧ CpN (P' r) (Z' r) N' B B := by
  obtain ⟨r, A, B, e1, e2, e3⟩ := lk I I h
  obtain ⟨r', A', B', g1, g2, g3⟩ := lk I A (h.of hP hZ (fun _ _ _ => rfl) (fc I _ e1))
  rw [e1] at g1
  obtain ⟨rfl, rfl⟩ := Prod.mk.inj (Option.some.inj g1)
  exact ⟨r, A, B', e1, g2, g3.of (hP' r) (hZ' r) (fm _ _ g2) (fun _ _ _ => rfl)⟩
end
