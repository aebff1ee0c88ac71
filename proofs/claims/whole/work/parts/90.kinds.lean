/-! KINDS of a method in lockstep -/
theorem kb_or : ∀ k, k < 6 → ∀ rf, rf < 32 → rf < 2 ^ k → Int32.ofNat rf ||| ((1 : Int32) <<< (Int32.ofNat k &&& 31)) = Int32.ofNat (rf + 2 ^ k) := by decide +kernel
theorem kb_bit : ∀ k, k < 6 → ∀ rf, rf < 32 → rf < 2 ^ k → ∀ i, i < 6 → (rf + 2 ^ k).testBit i = if i = k then true else rf.testBit i := by decide +kernel
theorem kb_lt : ∀ k, k < 6 → 2 ^ k ≤ 32 := by decide
theorem kb_2 : ∀ k, k < 6 → 2 ^ (k + 1) = 2 ^ k + 2 ^ k := by decide
theorem tsP7k {P m k : Nat} {I : St} {v x : Int32} (hP : P = 3 ∨ P = 18) (hm : m < 24) (hk : k < 6) (hx : x = Int32.ofNat (10 + k)) : tset I (P + 7) (Int32.ofNat m) x v = up2 I (P + 8) (16 * m + 10 + k) v := by
  have e : 16 * m + 10 + k = 16 * m + (10 + k) := by omega
  rw [e]
  rcases hP with rfl | rfl
  all_goals exact ts_n (by decide) (by decide) hm hx (by show 10 + k < 16; omega)
theorem i32_10 {k : Nat} : (10 : Int32) + Int32.ofNat k = Int32.ofNat (10 + k) := by
  rw [show (10 : Int32) = Int32.ofNat 10 from rfl, ← Int32.ofNat_add]
section
variable {T : Tp} {L : List (List Nat)} {K P Z m : Nat}
/-- one kind more -/
theorem kind1_l (hP : P = 3 ∨ P = 18) (hZ : Z = 85 ∨ Z = 126) (hm : m < 24) {M : List (List Nat)} {u p k rf : Nat} {A B : St} (h : Pa T L M K Z u p A B) (hk : Mk P Z m k rf A B) (hk6 : k < 6) {x : Int32} (hx : x = Int32.ofNat (10 + k)) : (∃ rf' p' A' B', ((x67 A 0).bind fun q => some (tset q.2 (P + 7) (Int32.ofNat m) x q.1)) = some A' ∧ x210 Z B (Int32.ofNat m) = some (.inr B') ∧ Pa T L M K Z u p' A' B' ∧ p < p' ∧ Mk P Z m (k + 1) rf' A' B' ∧ (∀ a b, ((a ≠ 56 ∨ b ≠ 3) ∧ (a ≠ P + 8 ∨ b ≠ 16 * m + 10 + k)) → A' a b = A a b) ∧ (∀ a b, ((a ≠ Z ∨ (b ≠ 3 ∧ b ≠ 4)) ∧ (a < Z + 1 ∨ Z + 3 < a) ∧ (a ≠ 82 ∨ b < 11 ∨ 16 < b) ∧ a ≠ 84 ∧ ((a ≠ Z + 18 ∧ a ≠ Z + 19) ∨ b ≠ m)) → B' a b = B a b)) ∨ (∃ w A' B', w < 2000 ∧ ((x67 A 0).bind fun q => some (tset q.2 (P + 7) (Int32.ofNat m) x q.1)) = some A' ∧ x210 Z B (Int32.ofNat m) = some (.inl B') ∧ A' 56 5 = Int32.ofNat w ∧ B' 84 0 = Int32.ofNat w) := by
  obtain ⟨k1, k2, k3, k4, k5⟩ := hk
  have hin : inb (Int32.ofNat m) 24 := (i32_inb (by omega)).mpr hm
  have hcl : (Int32.ofNat m).toNatClampNeg = m := i32_cl (by omega)
  have hl := kb_lt k hk6
  have h2 := kb_2 k hk6
  obtain ⟨s1, s2, s3, s4, s5, s6, s7⟩ := sfP hP
  rcases kind_l hZ h false (x := 0) rfl with ⟨d, B1, a1, a2, a3, a4, a5, a6, hge⟩ | ⟨w, w1, w2, w3⟩
  · left
    have hB1 : ∀ a b, (a ≠ Z ∨ (b ≠ 3 ∧ b ≠ 4)) → (a < Z + 1 ∨ Z + 3 < a) → (a ≠ 82 ∨ b < 11 ∨ 16 < b) → a ≠ 84 → B1 a b = B a b := a4
    have a6 := a6 rfl
    have e18 : B1 (Z + 18) m = Int32.ofNat k := by rw [hB1 _ _ (by omega) (by omega) (by omega) (by omega)]; exact k1
    have e19 : B1 (Z + 19) m = Int32.ofNat rf := by rw [hB1 _ _ (by omega) (by omega) (by omega) (by omega)]; exact k2
    rw [a1, Option.bind_some]
    dsimp only
    rw [tsP7k hP hm hk6 hx]
    unfold x210
    rw [a2, Option.bind_some, Sum.elim_inr]
    dsimp only
    have hd : d = 1 ∨ d = 2 := by omega
    rcases hd with rfl | rfl
    · have hd2 : ¬ (Int32.ofNat 1 = 2) := by decide
      refine ⟨rf, nx T p, _, up2 B1 (Z + 18) m (Int32.ofNat (k + 1)), rfl, ?_, a3.of (fun a b z => up2_o (by omega)) (fun a b z => up2_o (by omega)), hge, ⟨up2_s _ _ _ _, by rw [up2_o (by omega)]; exact e19, by omega, by omega, fun i hi => ?_⟩, fun a b z => by rw [up2_o (by omega), adv_r (by omega)], fun a b z => by rw [up2_o (by omega), hB1 a b (by omega) (by omega) (by omega) (by omega)]⟩
      · simp only [if_neg hd2, if_pos hin, hcl, e18, i32_s]
      · rcases Nat.lt_or_ge i k with y | y
        · rw [up2_o (by omega), adv_r (by omega)]
          exact k5 i y
        · obtain rfl : i = k := by omega
          rw [up2_s, Nat.testBit_lt_two_pow k4]
          rfl
    · have hd2 : Int32.ofNat 2 = 2 := by decide
      refine ⟨rf + 2 ^ k, nx T p, _, up2 (up2 B1 (Z + 19) m (Int32.ofNat (rf + 2 ^ k))) (Z + 18) m (Int32.ofNat (k + 1)), rfl, ?_, a3.of (fun a b z => up2_o (by omega)) (fun a b z => by rw [up2_o (by omega), up2_o (by omega)]), hge, ⟨up2_s _ _ _ _, by rw [up2_o (by omega), up2_s], by omega, by omega, fun i hi => ?_⟩, fun a b z => by rw [up2_o (by omega), adv_r (by omega)], fun a b z => by rw [up2_o (by omega), up2_o (by omega), hB1 a b (by omega) (by omega) (by omega) (by omega)]⟩
      · simp (disch := omega) only [if_pos hd2, if_pos hin, hcl, e18, e19, Lt, kb_or k hk6 rf (by omega) k4, up2_o, i32_s]
      · rw [kb_bit k hk6 rf (by omega) k4 i (by omega)]
        rcases Nat.lt_or_ge i k with y | y
        · rw [up2_o (by omega), adv_r (by omega), if_neg (show ¬ i = k by omega)]
          exact k5 i y
        · obtain rfl : i = k := by omega
          rw [up2_s, if_pos rfl]
          rfl
  · right
    refine ⟨w, _, Wr B w, w1, by rw [w2]; rfl, by unfold x210; rw [w3]; rfl, ?_, Wr_0⟩
    exact (Sw.rf.ts (by omega) : Sw (wrC A w) _).trans wrC_5
/-- the kinds behind the first one, and the sign behind them -/
theorem kinds_l (hP : P = 3 ∨ P = 18) (hZ : Z = 85 ∨ Z = 126) (hm : m < 24) : ∀ d k rf p u (M : List (List Nat)) (A B : St) (n n' : Nat), k + d = 6 → 1 ≤ k → Pa T L M K Z u p A B → Mk P Z m k rf A B → (∃ k' rf' p' A' B', ((l70_37 P (Int32.ofNat m) (n + d + 1) (Int32.ofNat k) A).bind fun q5 => x62 (tset q5.2 (P + 7) (Int32.ofNat m) 4 q5.1) 41) = some A' ∧ ((l209_128 Z (Int32.ofNat m) (n' + d + 1) B).bind (Sum.elim (fun q13 => x204 q13 41) (fun r => some r))) = some (.inr B') ∧ Pa T L M K Z u p' A' B' ∧ p < p' ∧ Mk P Z m k' rf' A' B' ∧ A' (P + 8) (16 * m + 4) = Int32.ofNat k' ∧ (∀ a b, ((a ≠ 56 ∨ b ≠ 3) ∧ (a ≠ P + 8 ∨ (b ≠ 16 * m + 4 ∧ (b < 16 * m + 10 + k ∨ 16 * m + 16 ≤ b)))) → A' a b = A a b) ∧ (∀ a b, ((a ≠ Z ∨ (b ≠ 3 ∧ b ≠ 4)) ∧ (a < Z + 1 ∨ Z + 3 < a) ∧ (a ≠ 82 ∨ b < 11 ∨ 16 < b) ∧ a ≠ 84 ∧ ((a ≠ Z + 18 ∧ a ≠ Z + 19) ∨ b ≠ m)) → B' a b = B a b)) ∨ Bad ((l70_37 P (Int32.ofNat m) (n + d + 1) (Int32.ofNat k) A).bind fun q5 => x62 (tset q5.2 (P + 7) (Int32.ofNat m) 4 q5.1) 41) ((l209_128 Z (Int32.ofNat m) (n' + d + 1) B).bind (Sum.elim (fun q13 => x204 q13 41) (fun r => some r))) := by
  obtain ⟨s1, s2, s3, s4, s5, s6, s7⟩ := sfP hP
  have hin : inb (Int32.ofNat m) 24 := (i32_inb (by omega)).mpr hm
  have hcl : (Int32.ofNat m).toNatClampNeg = m := i32_cl (by omega)
  have fin : ∀ k rf p u (M : List (List Nat)) (A B : St), 1 ≤ k → k ≤ 6 → Pa T L M K Z u p A B → Mk P Z m k rf A B → (∃ k' rf' p' A' B', x62 (tset A (P + 7) (Int32.ofNat m) 4 (Int32.ofNat k)) 41 = some A' ∧ x204 B 41 = some (.inr B') ∧ Pa T L M K Z u p' A' B' ∧ p < p' ∧ Mk P Z m k' rf' A' B' ∧ A' (P + 8) (16 * m + 4) = Int32.ofNat k' ∧ (∀ a b, ((a ≠ 56 ∨ b ≠ 3) ∧ (a ≠ P + 8 ∨ (b ≠ 16 * m + 4 ∧ (b < 16 * m + 10 + k ∨ 16 * m + 16 ≤ b)))) → A' a b = A a b) ∧ (∀ a b, ((a ≠ Z ∨ (b ≠ 3 ∧ b ≠ 4)) ∧ (a < Z + 1 ∨ Z + 3 < a) ∧ (a ≠ 82 ∨ b < 11 ∨ 16 < b) ∧ a ≠ 84 ∧ ((a ≠ Z + 18 ∧ a ≠ Z + 19) ∨ b ≠ m)) → B' a b = B a b)) ∨ Bad (x62 (tset A (P + 7) (Int32.ofNat m) 4 (Int32.ofNat k)) 41) (x204 B 41) := by
    intro k rf p u M A B h1 h6 h hk
    simp (disch := omega) only [tP7 hP]
    have h' : Pa T L M K Z u p (up2 A (P + 8) (16 * m + 4) (Int32.ofNat k)) B := h.of (fun a b z => up2_o (by omega)) (fun _ _ _ => rfl)
    rcases sign_l hZ h' (s := 41) (x := 41) rfl (by decide) (by decide) with ⟨B1, b1, b2, b3, b4, b5⟩ | ⟨w, w1, w2, w3⟩
    · left
      have hB1 : ∀ a b, (a ≠ Z ∨ (b ≠ 3 ∧ b ≠ 4)) → (a < Z + 1 ∨ Z + 3 < a) → (a ≠ 82 ∨ b < 11 ∨ 16 < b) → a ≠ 84 → B1 a b = B a b := b4
      refine ⟨k, rf, _, _, B1, b1, b2, b3, b5, hk.of (fun a b z => by rw [adv_r (by omega), up2_o (by omega)]) (fun a b z => hB1 a b (by omega) (by omega) (by omega) (by omega)), by rw [adv_r (by omega), up2_s], fun a b z => by rw [adv_r (by omega), up2_o (by omega)], fun a b z => hB1 a b (by omega) (by omega) (by omega) (by omega)⟩
    · right
      exact ⟨w, _, _, w1, w2, w3, wrC_5, Wr_0⟩
  intro d
  induction d with
  | zero =>
    intro k rf p u M A B n n' hd h1 h hk
    obtain rfl : k = 6 := by omega
    have c1 : ¬ (Int32.ofNat 6 ≤ 0) := by decide
    have c2 : (6 : Int32) ≤ Int32.ofNat 6 := by decide
    rw [l70_37, if_neg c1, if_pos c2, Option.bind_some, l209_128, x203_n h.2.1 (s := 44) (x := 44) rfl (by decide) (by decide), Option.bind_some]
    by_cases z : cA T p = 44
    · right
      have e18 : B (Z + 18) m = 6 := hk.1
      rw [if_pos z, if_neg (by decide), if_pos hin, hcl, if_pos e18, Option.bind_some, Sum.elim_inr, h.at]
      dsimp only
      have h' : PS T L K p (tset A (P + 7) (Int32.ofNat m) 4 (Int32.ofNat 6)) := by
        simp (disch := omega) only [tP7 hP]
        exact h.1.of (fun a b z => up2_o (by omega))
      have hp := h.le
      exact ⟨p, _, _, by omega, x62_no h' (s := 41) (x := 41) rfl (by decide) (by decide) (by omega), rfl, wrC_5, up2_s _ _ _ _⟩
    · rw [if_neg z, if_pos rfl, Option.bind_some, Sum.elim_inl]
      exact fin 6 rf p u M A B (by omega) (by omega) h hk
  | succ d ih =>
    intro k rf p u M A B n n' hd h1 h hk
    have c1 : ¬ (Int32.ofNat k ≤ 0) := by show ¬ _ ≤ Int32.ofNat 0; rw [i32_le (by omega) (by omega)]; omega
    have c2 : ¬ (6 : Int32) ≤ Int32.ofNat k := by show ¬ Int32.ofNat 6 ≤ _; rw [i32_le (by omega) (by omega)]; omega
    rw [show n + (d + 1) + 1 = (n + d + 1) + 1 by omega, show n' + (d + 1) + 1 = (n' + d + 1) + 1 by omega]
    rw [l70_37, if_neg c1, if_neg c2, l209_128, x203_n h.2.1 (s := 44) (x := 44) rfl (by decide) (by decide), Option.bind_some, x61_n h.1 (s := 44) (x := 44) rfl (by decide) (by decide)]
    by_cases z : cA T p = 44
    · obtain ⟨B1, a1, a2, a3, a4⟩ := next_l hZ h (by omega)
      have hB1 : ∀ a b, (a ≠ Z ∨ (b ≠ 3 ∧ b ≠ 4)) → (a < Z + 1 ∨ Z + 3 < a) → (a ≠ 82 ∨ b < 11 ∨ 16 < b) → a ≠ 84 → B1 a b = B a b := a3
      have e18 : ¬ (B (Z + 18) m = 6) := by
        rw [hk.1]
        show ¬ _ = Int32.ofNat 6
        rw [i32_eq (by omega) (by omega)]
        omega
      rw [if_pos z, if_neg (by decide), if_neg (by decide), if_pos hin, hcl, if_neg e18, a1, Option.bind_some]
      have hk' : Mk P Z m k rf (adv A) B1 := hk.of (fun a b z => adv_r (by omega)) (fun a b z => hB1 a b (by omega) (by omega) (by omega) (by omega))
      have hadv : up2 A 56 3 (A 56 3 + 1) = adv A := rfl
      rw [hadv]
      rcases kind1_l hP hZ hm a2 hk' (by omega) (x := 10 + Int32.ofNat k) i32_10 with ⟨rf', p', A2, B2, e1, e2, e3, e4, e5, e6, e7⟩ | ⟨w, A2, B2, w1, w2, w3, w4, w5⟩
      · have e1' : ((x67 (adv A) 0).bind fun q4 => l70_37 P (Int32.ofNat m) (n + d + 1) (Int32.ofNat k + 1) (tset q4.2 (P + 7) (Int32.ofNat m) (10 + Int32.ofNat k) q4.1)) = l70_37 P (Int32.ofNat m) (n + d + 1) (Int32.ofNat (k + 1)) A2 := by
          cases y : x67 (adv A) 0 with
          | none => rw [y] at e1; cases e1
          | some q =>
            rw [y] at e1
            rw [Option.bind_some, i32_s]
            have e1 : tset q.2 (P + 7) (Int32.ofNat m) (10 + Int32.ofNat k) q.1 = A2 := Option.some.inj e1
            rw [e1]
        rw [e1', e2, Option.bind_some, Sum.elim_inr]
        rcases ih (k + 1) rf' p' u M A2 B2 n n' (by omega) (by omega) e3 e5 with ⟨k2, rf2, p2, A3, B3, f1, f2, f3, f4, f5, f6, f7, f8⟩ | hbad
        · left
          exact ⟨k2, rf2, p2, A3, B3, f1, f2, f3, by omega, f5, f6, fun a b z => by rw [f7 a b (by omega), e6 a b (by omega), adv_r (by omega)], fun a b z => by rw [f8 a b (by omega), e7 a b (by omega), hB1 a b (by omega) (by omega) (by omega) (by omega)]⟩
        · right
          exact hbad
      · right
        have hE : Er A2 := er_of (by omega) w4
        have e1' : ((x67 (adv A) 0).bind fun q4 => l70_37 P (Int32.ofNat m) (n + d + 1) (Int32.ofNat k + 1) (tset q4.2 (P + 7) (Int32.ofNat m) (10 + Int32.ofNat k) q4.1)) = some (Int32.ofNat (k + 1), A2) := by
          cases y : x67 (adv A) 0 with
          | none => rw [y] at w2; cases w2
          | some q =>
            rw [y] at w2
            rw [Option.bind_some, i32_s]
            have e1 : tset q.2 (P + 7) (Int32.ofNat m) (10 + Int32.ofNat k) q.1 = A2 := Option.some.inj w2
            rw [e1, l70_e hE]
        rw [e1', w3, Option.bind_some, Option.bind_some, Sum.elim_inl]
        have hs : Sw A2 (tset A2 (P + 7) (Int32.ofNat m) 4 (Int32.ofNat (k + 1))) := Sw.rf.ts (by omega)
        exact ⟨w, _, B2, w1, x62_e (hE.sw hs), rfl, hs.trans w4, w5⟩
    · rw [if_neg z, if_pos rfl, if_pos rfl, Option.bind_some, Option.bind_some, Sum.elim_inl]
      exact fin k rf p u M A B h1 (by omega) h hk
end
