/-! text() as functions, and in lockstep -/
def T24 (P Q : Nat) (I : St) : Option ((Bool × Int32) × St) := (x25 I).bind fun A1 => (x53 P (up2 (tresize A1 1 0) 0 10 (-1))).bind fun r => if r.1 ≠ -1 then some ((false, -1 - r.1), r.2) else (x81 P r.2).bind fun kd => if kd.1 ≠ 0 then some ((false, -5000 - kd.1), up2 kd.2 0 10 (kd.2 57 4)) else (x97 P kd.2).bind fun q => if q.1 ≠ -1 then some ((false, -5005), up2 q.2 0 10 q.1) else (x116 Q P (up2 q.2 0 10 q.1)).bind fun J3 => some ((true, J3 (P + 7) 3), J3)
def T191a (Z : Nat) (B2 : St) : Option (St ⊕ St) := if B2 82 12 = 4 then some (.inl (up2 B2 84 0 (B2 82 13))) else l191 Z 2000 B2
def T191b (Z : Nat) : St ⊕ St → Option ((Bool × Int32) × St)
  | .inl B3 => some ((false, -1 - B3 84 0), up2 B3 82 1 0)
  | .inr B3 => (x215 Z (rB B3)).bind fun B4 => if B4 82 22 ≠ 0 then some ((false, -5000 - B4 82 22), B4) else (x225 Z B4).bind fun B5 => if B5 82 22 ≠ 0 then some ((false, -5000 - B5 82 22), B5) else some ((true, rY B5 Z 8), rY B5)
def T191 (Z : Nat) (I : St) : Option ((Bool × Int32) × St) := (x185 Z (up2 (up2 (up2 I 82 5 (-1)) 82 11 0) 82 20 0)).bind fun B1 => (x192 B1).bind fun B2 => (T191a Z B2).bind fun e => T191b Z e
theorem T24_ok {E : Xe} {R : Nat → Nat → Option Nat} {P Q : Nat} {I : St} {y : Bool} {r : Int32} {A : St} (hP : P = 3 ∨ P = 18) (hQ : Q = 3 ∨ Q = 18) (h8 : R 0 8 = some Q) (h9 : R 0 9 = some P) (h : T24 P Q I = some ((y, r), A)) : ∃ R', Rn E 24 (0, loc0 24 [.ref 0], [], wT I R) (.returned (some (.int r))) (wT A R') ∧ R' 0 8 = some (if y = true then P else Q) ∧ R' 0 9 = some (if y = true then Q else P) ∧ R' 82 3 = R 82 3 ∧ R' 82 4 = R 82 4 := by
  unfold T24 at h
  obtain ⟨A1, e1, h⟩ := Option.bind_eq_some_iff.mp h
  obtain ⟨⟨r1, A2⟩, e2, h⟩ := Option.bind_eq_some_iff.mp h
  dsimp only at h
  by_cases z : r1 = -1
  · rw [if_neg (fun y => y z)] at h
    obtain ⟨⟨kd, J⟩, e3, h⟩ := Option.bind_eq_some_iff.mp h
    dsimp only at h
    by_cases z2 : kd = 0
    · rw [if_neg (fun y => y z2)] at h
      obtain ⟨⟨q, J2⟩, e4, h⟩ := Option.bind_eq_some_iff.mp h
      dsimp only at h
      by_cases z3 : q = -1
      · rw [if_neg (fun y => y z3)] at h
        obtain ⟨J3, e5, h⟩ := Option.bind_eq_some_iff.mp h
        cases h
        exact ⟨_, x24_y z z2 z3 hP hQ h8 h9 e1 e2 e3 e4 e5, rfl, rfl, rfl, rfl⟩
      · rw [if_pos z3] at h
        cases h
        exact ⟨_, x24_5 z z2 hP h9 e1 e2 e3 e4 z3, h8, h9, rfl, rfl⟩
    · rw [if_pos z2] at h
      cases h
      exact ⟨_, x24_f z hP h9 e1 e2 e3 z2, h8, h9, rfl, rfl⟩
  · rw [if_pos z] at h
    cases h
    exact ⟨_, x24_w hP h9 e1 e2 z, h8, h9, rfl, rfl⟩
theorem T191_ok {E : Xe} {R : Nat → Nat → Option Nat} {Z Q : Nat} {I : St} {y : Bool} {r : Int32} {B : St} (hQ : Q = 85 ∨ Q = 126) (hZ : Z = 85 ∨ Z = 126) (h3 : R 82 3 = some Q) (h4 : R 82 4 = some Z) (h : T191 Z I = some ((y, r), B)) : ∃ R', Rn E 191 (0, loc0 191 [.ref 82], [], wT I R) (.returned (some (.int r))) (wT B R') ∧ R' 82 3 = some (if y = true then Z else Q) ∧ R' 82 4 = some (if y = true then Q else Z) ∧ R' 0 8 = R 0 8 ∧ R' 0 9 = R 0 9 := by
  unfold T191 at h
  obtain ⟨B1, e1, h⟩ := Option.bind_eq_some_iff.mp h
  obtain ⟨B2, e2, h⟩ := Option.bind_eq_some_iff.mp h
  obtain ⟨e, e3, h⟩ := Option.bind_eq_some_iff.mp h
  unfold T191a at e3
  by_cases z : B2 82 12 = 4
  · rw [if_pos z] at e3
    cases e3
    cases h
    exact ⟨_, x191_w hZ h4 e1 e2 (.inl ⟨z, rfl⟩), h3, h4, rfl, rfl⟩
  · rw [if_neg z] at e3
    cases e with
    | inl B3 =>
      cases h
      exact ⟨_, x191_w hZ h4 e1 e2 (.inr ⟨z, e3⟩), h3, h4, rfl, rfl⟩
    | inr B3 =>
      unfold T191b at h
      obtain ⟨B4, e4, h⟩ := Option.bind_eq_some_iff.mp h
      by_cases z2 : B4 82 22 = 0
      · rw [if_neg (fun y => y z2)] at h
        obtain ⟨B5, e5, h⟩ := Option.bind_eq_some_iff.mp h
        by_cases z3 : B5 82 22 = 0
        · rw [if_neg (fun y => y z3)] at h
          cases h
          exact ⟨_, x191_y hQ hZ h3 h4 e1 e2 z e3 e4 z2 e5 z3, rfl, rfl, rfl, rfl⟩
        · rw [if_pos z3] at h
          cases h
          exact ⟨_, x191_5 hZ h4 e1 e2 z e3 e4 z2 e5 z3, h3, h4, rfl, rfl⟩
      · rw [if_pos z2] at h
        cases h
        exact ⟨_, x191_f hZ h4 e1 e2 z e3 e4 z2, h3, h4, rfl, rfl⟩
/-- what text() leaves alone -/
def cT (P a b : Nat) : Prop := 61 ≤ a ∨ (a ≤ 32 ∧ (a < P ∨ P + 14 < a) ∧ (a ≠ 1 ∨ b ≠ 3) ∧ (a ≠ 0 ∨ b ≠ 10))
def rT (Z a b : Nat) : Prop := a < 82 ∨ (a = 82 ∧ (b = 6 ∨ 33 ≤ b)) ∨ a = 83 ∨ (85 ≤ a ∧ a ≤ 166 ∧ (a < Z ∨ Z + 40 < a)) ∨ (167 ≤ a ∧ a ≤ 170) ∨ 181 ≤ a
theorem T24_fr {P Q : Nat} {I : St} {y : Bool} {r : Int32} {A : St} (hP : P = 3 ∨ P = 18) (hQ : Q = 3 ∨ Q = 18) (h : T24 P Q I = some ((y, r), A)) : ∀ a b, cT P a b → (y = true → a ≠ 67 ∧ (a ≠ 68 ∨ b ≠ 13)) → A a b = I a b := by
  unfold T24 at h
  obtain ⟨A1, e1, h⟩ := Option.bind_eq_some_iff.mp h
  obtain ⟨⟨r1, A2⟩, e2, h⟩ := Option.bind_eq_some_iff.mp h
  have f1 := x25_fr _ _ Frm.refl _ e1
  have f2 := x53_fr hP _ _ Frm.refl _ e2
  dsimp only [Frm] at f1 f2
  simp only [mdb_0, mdb_n, mdb_s, and_true] at f1 f2
  have g2 : ∀ a b, cT P a b → A2 a b = I a b := by
    intro a b hc
    unfold cT at hc
    rw [f2 a b (by omega)]
    unfold tresize
    rw [up2_o (by omega), up2_o (by omega), f1 a b (by omega)]
  dsimp only at h
  by_cases z : r1 = -1
  · rw [if_neg (fun y => y z)] at h
    obtain ⟨⟨kd, J⟩, e3, h⟩ := Option.bind_eq_some_iff.mp h
    have f3 := x81_fr hP _ _ Frm.refl _ e3
    dsimp only [Frm] at f3
    simp only [mdb_0, mdb_n, mdb_s, and_true] at f3
    dsimp only at h
    have g3 : ∀ a b, cT P a b → J a b = I a b := fun a b hc => (f3 a b (by unfold cT at hc; omega)).trans (g2 a b hc)
    by_cases z2 : kd = 0
    · rw [if_neg (fun y => y z2)] at h
      obtain ⟨⟨q, J2⟩, e4, h⟩ := Option.bind_eq_some_iff.mp h
      have f4 := x97_fr hP _ _ Frm.refl _ e4
      dsimp only [Frm] at f4
      simp only [mdb_0, mdb_n, mdb_s, and_true] at f4
      dsimp only at h
      have g4 : ∀ a b, cT P a b → J2 a b = I a b := fun a b hc => (f4 a b (by unfold cT at hc; omega)).trans (g3 a b hc)
      by_cases z3 : q = -1
      · rw [if_neg (fun y => y z3)] at h
        obtain ⟨J3, e5, h⟩ := Option.bind_eq_some_iff.mp h
        have f5 := x116_fr hQ hP _ _ Frm.refl _ e5
        dsimp only [Frm] at f5
        simp only [mdb_0, mdb_n, mdb_s, and_true] at f5
        cases h
        intro a b hc hy
        have := hy rfl
        rw [f5 a b (by omega), up2_o (by unfold cT at hc; omega), g4 a b hc]
      · rw [if_pos z3] at h
        cases h
        intro a b hc _
        rw [up2_o (by unfold cT at hc; omega), g4 a b hc]
    · rw [if_pos z2] at h
      cases h
      intro a b hc _
      rw [up2_o (by unfold cT at hc; omega), g3 a b hc]
  · rw [if_pos z] at h
    cases h
    exact fun a b hc _ => g2 a b hc
theorem l191_fr {Z : Nat} (hZ : Z = 85 ∨ Z = 126) : ∀ n I q, l191 Z n I = some q → ∀ J, (q = .inl J ∨ q = .inr J) → ∀ a b, rT Z a b → J a b = I a b := by
  intro n
  induction n with
  | zero => intro I q h; rw [l191] at h; cases h
  | succ n ih =>
    intro I q h J hJ
    rw [l191] at h
    by_cases hc : I 82 12 = 4
    · rw [if_pos hc] at h
      cases h
      rcases hJ with hJ | hJ
      · cases hJ
      · cases hJ; exact fun _ _ _ => rfl
    · rw [if_neg hc] at h
      obtain ⟨x, e1, e2⟩ := Option.bind_eq_some_iff.mp h
      have f := x198_fr hZ _ _ Frm.refl _ e1
      cases x with
      | inl J' =>
        cases e2
        rcases hJ with hJ | hJ
        · cases hJ
          dsimp only [Sum.elim, Frm] at f
          simp only [mdb_0, mdb_n, mdb_s, and_true] at f
          intro a b hr
          unfold rT at hr
          exact f a b (by omega)
        · cases hJ
      | inr J' =>
        have g := ih J' q e2 J hJ
        dsimp only [Sum.elim, Frm] at f
        simp only [mdb_0, mdb_n, mdb_s, and_true] at f
        intro a b hr
        rw [g a b hr]
        unfold rT at hr
        exact f a b (by omega)
theorem clrA_o {I : St} : ∀ d a b, a ≠ 169 → a ≠ 170 → clrA I d a b = I a b := by
  intro d
  induction d with
  | zero => intros; rfl
  | succ d ih => intro a b y1 y2; rw [clrA, up2_o (by omega), up2_o (by omega), ih a b y1 y2]
theorem clrA_z {I : St} : ∀ d b, b < d → clrA I d 169 b = 0 ∧ clrA I d 170 b = 0 := by
  intro d
  induction d with
  | zero => intro b y; omega
  | succ d ih =>
    intro b y
    rw [clrA]
    by_cases z : b = d
    · subst z; rw [up2_o (by omega), up2_s, up2_s]; exact ⟨rfl, rfl⟩
    · rw [up2_o (by omega), up2_o (by omega), up2_o (by omega), up2_o (by omega)]; exact ih b (by omega)
theorem T191_fr {Z : Nat} {I : St} {y : Bool} {r : Int32} {B : St} (hZ : Z = 85 ∨ Z = 126) (h : T191 Z I = some ((y, r), B)) : ∀ a b, rT Z a b → (y = true → (a ≠ 82 ∨ b ≠ 33) ∧ a ≠ 169 ∧ a ≠ 170) → B a b = I a b := by
  unfold T191 at h
  obtain ⟨B1, e1, h⟩ := Option.bind_eq_some_iff.mp h
  obtain ⟨B2, e2, h⟩ := Option.bind_eq_some_iff.mp h
  obtain ⟨e, e3, h⟩ := Option.bind_eq_some_iff.mp h
  have f1 := x185_fr hZ _ _ Frm.refl _ e1
  have f2 := x192_fr _ _ Frm.refl _ e2
  dsimp only [Frm] at f1 f2
  simp only [mdb_0, mdb_n, mdb_s, and_true] at f1 f2
  have g2 : ∀ a b, rT Z a b → B2 a b = I a b := by
    intro a b hc
    unfold rT at hc
    rw [f2 a b (by omega), f1 a b (by omega), up2_o (by omega), up2_o (by omega), up2_o (by omega)]
  have g3 : ∀ J, (e = .inl J ∨ e = .inr J) → ∀ a b, rT Z a b → J a b = I a b := by
    unfold T191a at e3
    by_cases z : B2 82 12 = 4
    · rw [if_pos z] at e3
      cases e3
      intro J hJ a b hc
      rcases hJ with hJ | hJ
      · cases hJ
        rw [up2_o (by unfold rT at hc; omega), g2 a b hc]
      · cases hJ
    · rw [if_neg z] at e3
      intro J hJ a b hc
      rw [l191_fr hZ _ _ _ e3 J hJ a b hc, g2 a b hc]
  cases e with
  | inl B3 =>
    cases h
    intro a b hc _
    rw [up2_o (by unfold rT at hc; omega), g3 B3 (.inl rfl) a b hc]
  | inr B3 =>
    have g4 := g3 B3 (.inr rfl)
    unfold T191b at h
    obtain ⟨B4, e4, h⟩ := Option.bind_eq_some_iff.mp h
    have f4 := x215_fr hZ _ _ Frm.refl _ e4
    dsimp only [Frm] at f4
    simp only [mdb_0, mdb_n, mdb_s, and_true] at f4
    have g5 : ∀ a b, rT Z a b → B4 a b = I a b := by
      intro a b hc
      rw [f4 a b (by unfold rT at hc; omega)]
      unfold rB
      rw [up2_o (by unfold rT at hc; omega), up2_o (by unfold rT at hc; omega), up2_o (by unfold rT at hc; omega), g4 a b hc]
    by_cases z2 : B4 82 22 = 0
    · rw [if_neg (fun y => y z2)] at h
      obtain ⟨B5, e5, h⟩ := Option.bind_eq_some_iff.mp h
      have f5 := x225_fr hZ _ _ Frm.refl _ e5
      dsimp only [Frm] at f5
      simp only [mdb_0, mdb_n, mdb_s, and_true] at f5
      have g6 : ∀ a b, rT Z a b → B5 a b = I a b := fun a b hc => (f5 a b (by unfold rT at hc; omega)).trans (g5 a b hc)
      by_cases z3 : B5 82 22 = 0
      · rw [if_neg (fun y => y z3)] at h
        cases h
        intro a b hc hy
        obtain ⟨y1, y2, y3⟩ := hy rfl
        unfold rY
        rw [clrA_o _ _ _ y2 y3, up2_o (by omega), up2_o (by unfold rT at hc; omega), g6 a b hc]
      · rw [if_pos z3] at h
        cases h
        exact fun a b hc _ => g6 a b hc
    · rw [if_pos z2] at h
      cases h
      exact fun a b hc _ => g5 a b hc
