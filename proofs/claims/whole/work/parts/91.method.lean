/-! A METHOD's head in lockstep -/
def kdR (Z : Nat) (a : Int32) (B : St) : Option (St ⊕ St) := (x204 B 40).bind (elm fun q7 => (x203 q7 41).bind fun q8 => if q8 = 0 then (x210 Z q7 a).bind (elm fun q9 => (l209_128 Z a 100000 q9).bind (Sum.elim (fun q13 => x204 q13 41) (fun r => some r))) else x204 q7 41)
theorem l209_128_nr {Z : Nat} {a : Int32} : ∀ n B x, l209_128 Z a n B ≠ some (.inr (.inr x)) := by
  intro n
  induction n with
  | zero => intro B x h; cases h
  | succ n ih =>
    intro B x h
    rw [l209_128] at h
    cases h1 : x203 B 44 with
    | none => rw [h1] at h; cases h
    | some q =>
      rw [h1, Option.bind_some] at h
      split at h
      · cases h
      · split at h
        · split at h
          · cases h
          · cases h2 : x192 B with
            | none => rw [h2] at h; cases h
            | some q2 =>
              rw [h2, Option.bind_some] at h
              cases h3 : x210 Z q2 a with
              | none => rw [h3] at h; cases h
              | some q3 =>
                rw [h3, Option.bind_some] at h
                cases q3 with
                | inl J => cases h
                | inr J => exact ih J x h
        · cases h
theorem nr_a {X : Option (St ⊕ (St ⊕ St))} (h : ∀ x, X ≠ some (.inr (.inr x))) (f g : St → Option (St ⊕ St)) : X.bind (Sum.elim (fun q => (f q).bind (elm g)) (fun r => some r)) = (X.bind (Sum.elim f (fun r => some r))).bind (elm g) := by
  cases X with
  | none => rfl
  | some x =>
    cases x with
    | inl q => rfl
    | inr r =>
      cases r with
      | inl J => rfl
      | inr y => exact absurd rfl (h y)
theorem kd_a {Z : Nat} {a : Int32} {B : St} (T : St → Option (St ⊕ St)) : ((x204 B 40).bind (Sum.elim (fun J => some (.inl J)) (fun q7 => (x203 q7 41).bind fun q8 => if q8 = 0 then (x210 Z q7 a).bind (Sum.elim (fun J => some (.inl J)) (fun q9 => (l209_128 Z a 100000 q9).bind (Sum.elim (fun q13 => (x204 q13 41).bind (Sum.elim (fun J => some (.inl J)) T)) (fun r => some r)))) else (x204 q7 41).bind (Sum.elim (fun J => some (.inl J)) T)))) = (kdR Z a B).bind (elm T) := by
  unfold kdR
  cases x204 B 40 with
  | none => rfl
  | some y =>
    cases y with
    | inl J => rfl
    | inr q7 =>
      rw [Option.bind_some, Option.bind_some, Sum.elim_inr, elm, Sum.elim_inr]
      cases x203 q7 41 with
      | none => rfl
      | some q8 =>
        rw [Option.bind_some, Option.bind_some]
        split
        · cases x210 Z q7 a with
          | none => rfl
          | some q9 =>
            cases q9 with
            | inl J => rfl
            | inr q9 =>
              rw [Option.bind_some, Option.bind_some, Sum.elim_inr]
              exact nr_a (l209_128_nr 100000 q9) _ _
        · rfl
section
variable {T : Tp} {L : List (List Nat)} {K P Z m : Nat}
theorem kall_l (hP : P = 3 ∨ P = 18) (hZ : Z = 85 ∨ Z = 126) (hm : m < 24) {M : List (List Nat)} {u p : Nat} {A B : St} (h : Pa T L M K Z u p A B) (hk : Mk P Z m 0 0 A B) : (∃ k' rf' p' A' B', x70 P A (Int32.ofNat m) = some A' ∧ kdR Z (Int32.ofNat m) B = some (.inr B') ∧ Pa T L M K Z u p' A' B' ∧ p < p' ∧ Mk P Z m k' rf' A' B' ∧ A' (P + 8) (16 * m + 4) = Int32.ofNat k' ∧ (∀ a b, ((a ≠ 56 ∨ b ≠ 3) ∧ (a ≠ P + 8 ∨ (b ≠ 16 * m + 4 ∧ (b < 16 * m + 10 ∨ 16 * m + 16 ≤ b)))) → A' a b = A a b) ∧ (∀ a b, ((a ≠ Z ∨ (b ≠ 3 ∧ b ≠ 4)) ∧ (a < Z + 1 ∨ Z + 3 < a) ∧ (a ≠ 82 ∨ b < 11 ∨ 16 < b) ∧ a ≠ 84 ∧ ((a ≠ Z + 18 ∧ a ≠ Z + 19) ∨ b ≠ m)) → B' a b = B a b)) ∨ Bad (x70 P A (Int32.ofNat m)) (kdR Z (Int32.ofNat m) B) := by
  obtain ⟨s1, s2, s3, s4, s5, s6, s7⟩ := sfP hP
  have hX : x70 P A (Int32.ofNat m) = (x62 A 40).bind fun q1 => (if (x61 q1 41) = 0 then (x67 q1 0).bind fun q2 => some (1, (tset q2.2 (P + 7) (Int32.ofNat m) 10 q2.1)) else some (0, q1)).bind fun (q3 : Int32 × St) => (l70_37 P (Int32.ofNat m) 100000 q3.1 q3.2).bind fun q5 => (x62 (tset q5.2 (P + 7) (Int32.ofNat m) 4 q5.1) 41) := by
    unfold x70
    simp only [Option.bind_fun_some]
  rcases sign_l hZ h (s := 40) (x := 40) rfl (by decide) (by decide) with ⟨B1, b1, b2, b3, b4, b5⟩ | ⟨w, w1, w2, w3⟩
  · have hB1 : ∀ a b, (a ≠ Z ∨ (b ≠ 3 ∧ b ≠ 4)) → (a < Z + 1 ∨ Z + 3 < a) → (a ≠ 82 ∨ b < 11 ∨ 16 < b) → a ≠ 84 → B1 a b = B a b := b4
    have hk1 : Mk P Z m 0 0 (adv A) B1 := hk.of (fun a b z => adv_r (by omega)) (fun a b z => hB1 a b (by omega) (by omega) (by omega) (by omega))
    rw [b1, Option.bind_some, x61_n b3.1 (s := 41) (x := 41) rfl (by decide) (by decide)] at hX
    have hY : kdR Z (Int32.ofNat m) B = if (if cA T (nx T p) = 41 then (1 : Int32) else 0) = 0 then (x210 Z B1 (Int32.ofNat m)).bind (elm fun q9 => (l209_128 Z (Int32.ofNat m) 100000 q9).bind (Sum.elim (fun q13 => x204 q13 41) (fun r => some r))) else x204 B1 41 := by
      unfold kdR
      rw [b2, Option.bind_some, elm, Sum.elim_inr, x203_n b3.2.1 (s := 41) (x := 41) rfl (by decide) (by decide), Option.bind_some]
    by_cases z : cA T (nx T p) = 41
    · rw [if_pos z, if_neg (by decide), Option.bind_some, show (100000 : Nat) = 99999 + 1 from rfl, l70_37, if_pos (show (0 : Int32) ≤ 0 by decide), Option.bind_some] at hX
      rw [if_pos z, if_neg (by decide)] at hY
      simp (disch := omega) only [tP7 hP] at hX
      have b3' : Pa T L M K Z u (nx T p) (up2 (adv A) (P + 8) (16 * m + 4) 0) B1 := b3.of (fun a b z => up2_o (by omega)) (fun _ _ _ => rfl)
      rcases sign_l hZ b3' (s := 41) (x := 41) rfl (by decide) (by decide) with ⟨B2, c1, c2, c3, c4, c5⟩ | ⟨w, w1, w2, w3⟩
      · left
        have hB2 : ∀ a b, (a ≠ Z ∨ (b ≠ 3 ∧ b ≠ 4)) → (a < Z + 1 ∨ Z + 3 < a) → (a ≠ 82 ∨ b < 11 ∨ 16 < b) → a ≠ 84 → B2 a b = B1 a b := c4
        refine ⟨0, 0, _, _, B2, by rw [hX, c1], by rw [hY, c2], c3, by omega, hk1.of (fun a b z => by omega) (fun a b z => hB2 a b (by omega) (by omega) (by omega) (by omega)), by rw [adv_r (by omega), up2_s]; rfl, fun a b z => by rw [adv_r (by omega), up2_o (by omega), adv_r (by omega)], fun a b z => by rw [hB2 a b (by omega) (by omega) (by omega) (by omega), hB1 a b (by omega) (by omega) (by omega) (by omega)]⟩
      · right
        exact ⟨w, _, _, w1, by rw [hX, w2], by rw [hY, w3], wrC_5, Wr_0⟩
    · rw [if_neg z, if_pos rfl] at hX hY
      rcases kind1_l hP hZ hm b3 hk1 (by omega) (x := 10) rfl with ⟨rf', p', A2, B2, e1, e2, e3, e4, e5, e6, e7⟩ | ⟨w, A2, B2, w1, w2, w3, w4, w5⟩
      · have e1' : ((x67 (adv A) 0).bind fun q2 => some ((1 : Int32), (tset q2.2 (P + 7) (Int32.ofNat m) 10 q2.1))) = some (1, A2) := by
          cases y : x67 (adv A) 0 with
          | none => rw [y] at e1; cases e1
          | some q =>
            rw [y] at e1
            have e1 : tset q.2 (P + 7) (Int32.ofNat m) 10 q.1 = A2 := Option.some.inj e1
            rw [Option.bind_some, e1]
        rw [e1', Option.bind_some] at hX
        rw [e2, Option.bind_some, elm, Sum.elim_inr] at hY
        rcases kinds_l hP hZ hm 5 1 rf' p' u M A2 B2 99994 99994 rfl (by omega) e3 e5 with ⟨k2, rf2, p2, A3, B3, f1, f2, f3, f4, f5, f6, f7, f8⟩ | ⟨w, A3, B3, w1, w2, w3, w4, w5⟩
        · left
          exact ⟨k2, rf2, p2, A3, B3, hX.trans f1, hY.trans f2, f3, by omega, f5, f6, fun a b z => by rw [f7 a b (by omega), e6 a b (by omega), adv_r (by omega)], fun a b z => by rw [f8 a b (by omega), e7 a b (by omega), hB1 a b (by omega) (by omega) (by omega) (by omega)]⟩
        · right
          exact ⟨w, A3, B3, w1, hX.trans w2, hY.trans w3, w4, w5⟩
      · right
        have hE : Er A2 := er_of (by omega) w4
        have e1' : ((x67 (adv A) 0).bind fun q2 => some ((1 : Int32), (tset q2.2 (P + 7) (Int32.ofNat m) 10 q2.1))) = some (1, A2) := by
          cases y : x67 (adv A) 0 with
          | none => rw [y] at w2; cases w2
          | some q =>
            rw [y] at w2
            have e1 : tset q.2 (P + 7) (Int32.ofNat m) 10 q.1 = A2 := Option.some.inj w2
            rw [Option.bind_some, e1]
        rw [e1', Option.bind_some, show (100000 : Nat) = 99999 + 1 from rfl, l70_e hE, Option.bind_some] at hX
        rw [w3] at hY
        have hs : Sw A2 (tset A2 (P + 7) (Int32.ofNat m) 4 1) := Sw.rf.ts (by omega)
        exact ⟨w, _, B2, w1, hX.trans (x62_e (hE.sw hs)), hY, hs.trans w4, w5⟩
  · right
    obtain ⟨J, j1, j2⟩ : ∃ J, x70 P A (Int32.ofNat m) = some J ∧ Sw (wrC A w) J := by
      have hE := wrC_er (A := A) w1
      have h1 : Sw (wrC A w) (tset (wrC A w) (P + 7) (Int32.ofNat m) 10 0) := Sw.rf.ts (by omega)
      have h2 : Sw (wrC A w) (tset (tset (wrC A w) (P + 7) (Int32.ofNat m) 10 0) (P + 7) (Int32.ofNat m) 4 1) := h1.ts (by omega)
      refine ⟨_, ?_, h2⟩
      rw [hX, w2, Option.bind_some, x61_e hE, if_pos rfl, x67_e hE, Option.bind_some, Option.bind_some]
      dsimp only
      rw [show (100000 : Nat) = 99999 + 1 from rfl, l70_e (hE.sw h1), Option.bind_some]
      dsimp only
      rw [x62_e (hE.sw h2)]
    refine ⟨w, J, Wr B w, w1, j1, ?_, j2.trans wrC_5, Wr_0⟩
    unfold kdR
    rw [w3]
    rfl
end
