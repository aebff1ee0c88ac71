/-! ITEMS of a method in lockstep: the class's turns, the reference's loop -/
/-- e turns of the class's loop -/
def Go (P : Nat) (A A' : St) (e : Nat) : Prop := ∀ n b, b + e ≤ 4000 → l53_36 P (n + e) (Int32.ofNat b) A = l53_36 P n (Int32.ofNat (b + e)) A'
theorem Go.rf {P : Nat} {A : St} : Go P A A 0 := fun _ _ _ => rfl
theorem Go.tr {P e e' : Nat} {A A' A'' : St} (h : Go P A A' e) (h' : Go P A' A'' e') : Go P A A'' (e + e') := fun n b hb => by
  rw [show n + (e + e') = (n + e') + e by omega, h (n + e') b (by omega), h' n (b + e) (by omega), Nat.add_assoc]
theorem n4000 {b : Nat} (hb : b + 1 ≤ 4000) : ¬ (4000 : Int32) < Int32.ofNat b := by
  show ¬ Int32.ofNat 4000 < _
  rw [i32_lt (by decide) (by omega)]
  omega
theorem go_i {P : Nat} {A A' : St} (h5 : A 56 5 = -1) (h4 : A 56 4 = 2) (hx : x71 P A = some A') : Go P A A' 1 := fun n b hb => by
  rw [l53_36, if_neg (n4000 hb), if_pos h5, h4, if_neg (by decide), if_neg (by decide), if_neg (by decide), hx, Option.bind_some, i32_s]
theorem go_m {P : Nat} {A A' : St} (h5 : A 56 5 = -1) (h4 : A 56 4 = 1) (hx : x63 P A = some A') : Go P A A' 1 := fun n b hb => by
  rw [l53_36, if_neg (n4000 hb), if_pos h5, h4, if_neg (by decide), if_neg (by decide), if_pos rfl, hx, Option.bind_some, i32_s]
theorem go_c {P : Nat} {A A' : St} (h5 : A 56 5 = -1) (h4 : A 56 4 = 0) (hx : x55 P A = some A') : Go P A A' 1 := fun n b hb => by
  rw [l53_36, if_neg (n4000 hb), if_pos h5, h4, if_neg (by decide), if_pos rfl, hx, Option.bind_some, i32_s]
/-- wrong on both sides behind e turns -/
def BadG (P p : Nat) (A : St) (Y : Option (St ⊕ St)) : Prop := ∃ w e A' B', w < 2000 ∧ e + p ≤ 1281 ∧ Go P A A' e ∧ Y = some (.inl B') ∧ A' 56 5 = Int32.ofNat w ∧ B' 84 0 = Int32.ofNat w
theorem BadG.pre {P p p1 e1 : Nat} {A A1 : St} {Y : Option (St ⊕ St)} (g : Go P A A1 e1) (he : e1 + p ≤ p1) (h : BadG P p1 A1 Y) : BadG P p A Y := by
  obtain ⟨w, e, A', B', h1, h2, h3, h4⟩ := h
  exact ⟨w, e1 + e, A', B', h1, by omega, g.tr h3, h4⟩
theorem lab_a {Z : Nat} {b3 : Int32} {I : St} (hin : inb (I Z 10) 2000) (f : St → Option (St ⊕ (St ⊕ St))) : (if inb (I Z 10) 2000 then if inb (I Z 10) 2000 then Lt (up2 (up2 I 174 (I Z 10).toNatClampNeg (I 82 13)) (Z + 34) (I Z 10).toNatClampNeg b3) fun J25 => (x201 Z J25).bind (Sum.elim (fun J => some (.inr (.inl J))) (fun q26 => if inb (I Z 10) 2000 then if inb (I Z 10) 2000 then Lt (up2 (up2 q26.2 (Z + 35) (I Z 10).toNatClampNeg q26.1) (Z + 36) (I Z 10).toNatClampNeg ((up2 q26.2 (Z + 35) (I Z 10).toNatClampNeg q26.1) Z 9)) fun J27 => (x204 (up2 J27 Z 10 ((J27 Z 10) + 1)) 58).bind (Sum.elim (fun J => some (.inr (.inl J))) f) else none else none)) else none else none) = (labR Z b3 I).bind (Sum.elim (fun J => some (.inr (.inl J))) f) := by
  unfold labR
  simp only [if_pos hin, Lt]
  cases x201 Z (up2 (up2 I 174 (I Z 10).toNatClampNeg (I 82 13)) (Z + 34) (I Z 10).toNatClampNeg b3) with
  | none => rfl
  | some y =>
    cases y with
    | inl J => rfl
    | inr q => rfl
section
variable {T : Tp} {L : List (List Nat)} {K P Z n m s : Nat} {E : Nat → Nat}
theorem close_l (hP : P = 3 ∨ P = 18) (hZ : Z = 85 ∨ Z = 126) {M : List (List Nat)} {u p : Nat} {F H G : Nat → Nat} {A B : St} (h : Bq T L M K P Z u p n (m + 1) m s E F H G A B) (h0 : cA T p = 125) : ∃ A' B', x71 P A = some A' ∧ metE Z (Int32.ofNat m) B = some (.inr B') ∧ Bq T L M K P Z u (nx T p) n (m + 1) (m + 1) s E F H G A' B' ∧ A' 56 4 = 1 ∧ p < nx T p := by
  obtain ⟨hPa, hb, hf, hs, hc, hm, hz, hk, hl, ht, n1, n2, n3, n4, n5, n6, n7, n8⟩ := h
  have hP2 : 3 ≤ P ∧ P ≤ 18 := by omega
  have hZ2 : 85 ≤ Z ∧ Z ≤ 126 := by omega
  replace hP : Hid (P = 3 ∨ P = 18) := hP
  replace hZ : Hid (Z = 85 ∨ Z = 126) := hZ
  have hp := hPa.le
  have m4 := hm.2.2.2
  obtain ⟨q1, q2, q3, q4, q5, q6, q7, q8, q9⟩ := m4 m (by omega)
  have k7 := (hk.2.2.2.2.1 m (by omega)).1
  have hin : inb (Int32.ofNat m) 24 := (i32_inb (by omega)).mpr (by omega)
  have hcl : (Int32.ofNat m).toNatClampNeg = m := i32_cl (by omega)
  generalize hA1 : up2 A 49 (4 * m + 1) (Int32.ofNat p) = A1
  have hx : x71 P A = some (up2 (adv A1) 56 4 1) := by
    have e1 : tset A 48 (x72 P A) 1 (x60 A) = A1 := by
      unfold x72
      rw [hm.1, i32_p, x60_n hPa.1]
      simp (disch := omega) only [t48]
      exact hA1
    unfold x71
    rw [x61_n hPa.1 (s := 125) (x := 125) rfl (by decide) (by decide), if_pos h0, if_neg (by decide), e1]
    rfl
  generalize hB2 : up2 (up2 B (Z + 22) m (Int32.ofNat (F (m + 1) - F m))) (Z + 23) m (Int32.ofNat p) = B2
  have hy : metE Z (Int32.ofNat m) B = (x192 B2).bind fun q => some (.inr q) := by
    unfold metE
    simp (disch := omega) only [Lt, if_pos hin, hcl, hk.2.2.1, q4, i32_sb k7, up2_o, hPa.at, hB2]
  have hPa1 : Pa T L M K Z u p A1 B2 := hPa.of (fun a b z => by rw [← hA1, up2_o (by omega)]) (fun a b z => by rw [← hB2, up2_o (by omega), up2_o (by omega)])
  obtain ⟨B3, a1, a2, a3, a4⟩ := next_l hZ hPa1 (by omega)
  have hB3 : ∀ a b, (a ≠ Z ∨ (b ≠ 3 ∧ b ≠ 4)) → (a < Z + 1 ∨ Z + 3 < a) → (a ≠ 82 ∨ b < 11 ∨ 16 < b) → a ≠ 84 → B3 a b = B2 a b := a3
  have rA : ∀ a b, (a ≠ 56 ∧ (a ≠ 49 ∨ b ≠ 4 * m + 1)) → up2 (adv A1) 56 4 1 a b = A a b := fun a b z => by
    rw [up2_o (by omega), adv_r (by omega), ← hA1, up2_o (by omega)]
  have rB : ∀ a b, ((a ≠ Z ∨ (b ≠ 3 ∧ b ≠ 4)) ∧ (a < Z + 1 ∨ Z + 3 < a) ∧ (a ≠ 82 ∨ b < 11 ∨ 16 < b) ∧ a ≠ 84 ∧ ((a ≠ Z + 22 ∧ a ≠ Z + 23) ∨ b ≠ m)) → B3 a b = B a b := fun a b z => by
    rw [hB3 a b (by omega) (by omega) (by omega) (by omega), ← hB2, up2_o (by omega), up2_o (by omega)]
  refine ⟨_, B3, hx, by rw [hy, a1]; rfl, ⟨?_, ?_, ?_, ?_, ?_, ?_, ?_, ?_, ?_, ?_, n1, n2, n3, n4, n5, by omega, by omega, n8.of (fun a b z => rB a b ⟨by omega, by omega, by omega, by omega, by omega⟩)⟩, up2_s _ _ _ _, a4⟩
  · exact a2.of (fun a b z => up2_o (by omega)) (fun _ _ _ => rfl)
  · exact hb.of Mo.rf (fun a b z => rA a b ⟨by omega, by omega⟩) (fun a b z => rB a b ⟨by omega, by omega, by omega, by omega, by omega⟩)
  · exact hf.of Mo.rf (fun a b z => rA a b ⟨by omega, by omega⟩) (fun a b z => rB a b ⟨by omega, by omega, by omega, by omega, by omega⟩)
  · exact hs.of Mo.rf (fun a b z => rA a b ⟨by omega, by omega⟩) (fun a b z => rB a b ⟨by omega, by omega, by omega, by omega, by omega⟩)
  · exact hc.of Mo.rf (fun a b z => rA a b ⟨by omega, by omega⟩) (fun a b z => rB a b ⟨by omega, by omega, by omega, by omega, by omega⟩)
  · exact hm.of Mo.rf (fun a b z => rA a b ⟨by omega, by omega⟩) (fun a b z => rB a b ⟨by omega, by omega, by omega, by omega, by omega⟩)
  · intro x hx
    rcases Nat.lt_or_ge x m with y | y
    · have := hz x y
      simp (disch := omega) only [rA, rB]
      exact this
    · obtain rfl : x = m := by omega
      have e1 : up2 (adv A1) 56 4 1 49 (4 * x + 1) = Int32.ofNat p := by rw [up2_o (by omega), adv_r (by omega), ← hA1, up2_s]
      rw [e1, hB3 _ _ (by omega) (by omega) (by omega) (by omega), hB3 _ _ (by omega) (by omega) (by omega) (by omega), ← hB2]
      simp (disch := omega) only [up2_o, up2_e]
      exact ⟨trivial, trivial, ⟨p, by omega, rfl⟩⟩
  · exact hk.of Mo.rf (fun a b z => rA a b ⟨by omega, by omega⟩) (fun a b z => rB a b ⟨by omega, by omega, by omega, by omega, by omega⟩)
  · exact hl.of Mo.rf (fun _ _ => ⟨rfl, Nat.le_refl _⟩) (fun a b z => rA a b ⟨by omega, by omega⟩) (fun a b z => rB a b ⟨by omega, by omega, by omega, by omega, by omega⟩)
  · exact ht.of Mo.rf (fun a b z => rA a b ⟨by omega, by omega⟩) (fun a b z => rB a b ⟨by omega, by omega, by omega, by omega, by omega⟩)
set_option maxHeartbeats 40000000 in
theorem items_l (hP : P = 3 ∨ P = 18) (hZ : Z = 85 ∨ Z = 126) : ∀ d p u (M : List (List Nat)) (F H G : Nat → Nat) (A B : St) n', T.1 < p + d → Bq T L M K P Z u p n (m + 1) m s E F H G A B → A 56 4 = 2 → (∃ M' u' p' F' H' G' A' B' e, Go P A A' e ∧ e + p ≤ p' ∧ (l209_217 Z (Int32.ofNat m) (n' + d) (Int32.ofNat (G (m + 1) - G m)) B).bind (Sum.elim (fun q31 => metE Z (Int32.ofNat m) q31) (fun r => some r)) = some (.inr B') ∧ Bq T L M' K P Z u' p' n (m + 1) (m + 1) s E F' H' G' A' B' ∧ A' 56 4 = 1 ∧ p < p') ∨ BadG P p A ((l209_217 Z (Int32.ofNat m) (n' + d) (Int32.ofNat (G (m + 1) - G m)) B).bind (Sum.elim (fun q31 => metE Z (Int32.ofNat m) q31) (fun r => some r))) := by
  intro d
  induction d with
  | zero =>
    intro p u M F H G A B n' hd h h4
    have := h.1.2.1.2.2
    omega
  | succ d ih =>
    intro p u M F H G A B n' hd h h4
    have hPa := h.1
    have hp := hPa.le
    have h5 : A 56 5 = -1 := hPa.1.2.2.2.2.2.2.1
    have k12 : B 82 12 = rkd T p := hPa.2.1.2.1.2.1
    have m24 : m + 1 ≤ 24 := h.2.2.2.2.2.2.2.2.2.2.2.2.1
    rw [show n' + (d + 1) = (n' + d) + 1 by omega]
    have go1 : ∀ A', x71 P A = some A' → Go P A A' 1 := fun A' => go_i h5 h4
    -- one step more, or wrong
    have fin : ∀ (X : Option St) (Y : Option (St ⊕ St)) (F' H' G' : Nat → Nat) (b6 : Int32), x71 P A = X → l209_217 Z (Int32.ofNat m) (n' + d + 1) (Int32.ofNat (G (m + 1) - G m)) B = Y.bind (Sum.elim (fun J => some (.inr (.inl J))) (fun q => l209_217 Z (Int32.ofNat m) (n' + d) b6 q)) → b6 = Int32.ofNat (G' (m + 1) - G' m) → ((∃ M' u' p' A' B', X = some A' ∧ Y = some (.inr B') ∧ Bq T L M' K P Z u' p' n (m + 1) m s E F' H' G' A' B' ∧ A' 56 4 = A 56 4 ∧ p < p') ∨ Bad X Y) → (∃ M' u' p' F' H' G' A' B' e, Go P A A' e ∧ e + p ≤ p' ∧ (l209_217 Z (Int32.ofNat m) (n' + d + 1) (Int32.ofNat (G (m + 1) - G m)) B).bind (Sum.elim (fun q31 => metE Z (Int32.ofNat m) q31) (fun r => some r)) = some (.inr B') ∧ Bq T L M' K P Z u' p' n (m + 1) (m + 1) s E F' H' G' A' B' ∧ A' 56 4 = 1 ∧ p < p') ∨ BadG P p A ((l209_217 Z (Int32.ofNat m) (n' + d + 1) (Int32.ofNat (G (m + 1) - G m)) B).bind (Sum.elim (fun q31 => metE Z (Int32.ofNat m) q31) (fun r => some r))) := by
      intro X Y F' H' G' b6 hX hY hb6 hh
      rcases hh with ⟨M', u', p', A', B', e1, e2, e3, e4, e5⟩ | ⟨w, A', B', w1, w2, w3, w4, w5⟩
      · rw [hY, e2, Option.bind_some, Sum.elim_inr, hb6]
        have g1 := go1 A' (hX.trans e1)
        rcases ih p' u' M' F' H' G' A' B' n' (by omega) e3 (e4.trans h4) with ⟨M2, u2, p2, F2, H2, G2, A2, B2, e, f1, f2, f3, f4, f5, f6⟩ | hbad
        · left
          exact ⟨M2, u2, p2, F2, H2, G2, A2, B2, 1 + e, g1.tr f1, by omega, f3, f4, f5, by omega⟩
        · right
          exact hbad.pre g1 (by omega)
      · right
        rw [hY, w3]
        exact ⟨w, 1, A', B', w1, by omega, go1 A' (hX.trans w2), rfl, w4, w5⟩
    by_cases z1 : cA T p = 125
    · left
      obtain ⟨A', B', e1, e2, e3, e4, e5⟩ := close_l hP hZ h z1
      refine ⟨M, u, _, F, H, G, A', B', 1, go1 A' e1, by omega, ?_, e3, e4, e5⟩
      rw [l209_217, x203_n hPa.2.1 (s := 125) (x := 125) rfl (by decide) (by decide), Option.bind_some, if_pos z1, if_neg (by decide), Option.bind_some, Sum.elim_inl]
      exact e2
    · have hx0 : x71 P A = if (x57 A 67) = 0 then if (x56 A) = 3 then if 59 ≤ (x74 A) then x80 P A else x75 P A (x74 A) else x80 P A else x73 P A := by
        unfold x71
        rw [x61_n hPa.1 (s := 125) (x := 125) rfl (by decide) (by decide), if_neg z1, if_pos rfl]
        simp only [Option.bind_fun_some]
      have hy0 := x203_n hPa.2.1 (s := 125) (x := 125) rfl (by decide) (by decide)
      rw [if_neg z1] at hy0
      have hw : x57 A 67 = if owd T p = some 8 then 1 else 0 := x57_n hPa.1 (n := 8) rfl (by decide)
      have hv : x199 B 8 = some (if owd T p = some 8 then 1 else 0, B) := x199_n hPa.2.1 (n := 8) rfl (by decide)
      have hm := h.2.2.2.2.2.1
      obtain ⟨q1, q2, q3, q4, q5, q6, q7, q8, q9⟩ := hm.2.2.2 m (by omega)
      by_cases z2 : owd T p = some 8
      · rw [if_pos z2] at hw hv
        rw [hw, if_neg (by decide)] at hx0
        have ht := h.2.2.2.2.2.2.2.2.2.1
        obtain ⟨t5, t6, -⟩ := ht.2.2.2.2 m (by omega)
        by_cases z3 : G (m + 1) < G m + 8
        · refine fin _ _ F H (updN G (m + 1) (G (m + 1) + 1)) (Int32.ofNat (G (m + 1) - G m) + 1) hx0 ?_ ?_ (try_l hP hZ h z3 (owd_ne z2))
          · rw [l209_217, hy0, Option.bind_some, if_pos rfl, hv, Option.bind_some]
            dsimp only
            rw [if_neg (by decide), if_neg (by show ¬ _ = Int32.ofNat 8; rw [i32_eq (by omega) (by decide)]; omega)]
          · rw [updN_s, updN_n (by omega), i32_s]
            congr 1
            omega
        · right
          have hx1 : x71 P A = some (wrC A p) := by
            have e0 : tget A (P + 7) (x72 P A) 8 = Int32.ofNat (G (m + 1) - G m) := by
              unfold x72
              rw [hm.1, i32_p]
              simp (disch := omega) only [tP7 hP]
              exact q7
            rw [hx0]
            unfold x73
            rw [e0, if_neg (by show ¬ _ < Int32.ofNat 8; rw [i32_lt (by omega) (by decide)]; omega), x58_n hPa.1]
            rfl
          refine ⟨p, 1, _, up2 B 84 0 (B 82 13), by omega, by omega, go1 _ hx1, ?_, wrC_5, by rw [up2_s, hPa.at]⟩
          rw [l209_217, hy0, Option.bind_some, if_pos rfl, hv, Option.bind_some]
          dsimp only
          rw [if_neg (by decide), if_pos (by show _ = Int32.ofNat 8; rw [i32_eq (by omega) (by decide)]; omega)]
          rfl
      · rw [if_neg z2] at hw hv
        rw [hw, if_pos rfl] at hx0
        by_cases z3 : rkd T p = 1
        · have hl := h.2.2.2.2.2.2.2.2.1
          have hin : inb (B Z 10) 2000 := by
            rw [hl.2.1]
            have := h.2.2.2.2.2.2.2.2.2.2.2.2.2.2.2.2.1
            exact (i32_inb (by omega)).mpr (by omega)
          have c3 : ¬ x56 A = 3 := by
            rw [x56_n hPa.1, ckd_3 hPa.1.le, z3]
            decide
          rw [if_neg c3] at hx0
          refine fin _ _ F (updN H (m + 1) (H (m + 1) + 1)) G (Int32.ofNat (G (m + 1) - G m)) hx0 ?_ rfl (label_l hP hZ h)
          rw [l209_217, hy0, Option.bind_some, if_pos rfl, hv, Option.bind_some]
          dsimp only
          rw [if_pos rfl, if_pos (k12.trans z3)]
          exact lab_a hin _
        · have hy1 : l209_217 Z (Int32.ofNat m) (n' + d + 1) (Int32.ofNat (G (m + 1) - G m)) B = (x212 Z B (Int32.ofNat m)).bind (Sum.elim (fun J => some (.inr (.inl J))) (fun q => l209_217 Z (Int32.ofNat m) (n' + d) (Int32.ofNat (G (m + 1) - G m)) q)) := by
            rw [l209_217, hy0, Option.bind_some, if_pos rfl, hv, Option.bind_some]
            dsimp only
            rw [if_pos rfl, if_neg (show ¬ B 82 12 = 1 by rw [k12]; exact z3)]
          cases z4 : opw T p with
          | some o =>
            obtain ⟨o1, o2, o3⟩ := opw_A hPa.1 z4
            rw [if_pos o1, o2, if_neg (by show ¬ Int32.ofNat 59 ≤ _; rw [i32_le (by decide) (by omega)]; omega)] at hx0
            have hk := h.2.2.2.2.2.2.2.1
            have k7 := hk.2.2.2.2.1 m (by omega)
            by_cases z5 : F (m + 1) < F m + 100
            · exact fin _ _ (updN F (m + 1) (F (m + 1) + 1)) H G (Int32.ofNat (G (m + 1) - G m)) hx0 hy1 rfl (ins_l hP hZ h z5 z4)
            · right
              have hx1 : x71 P A = some (wrC A p) := by
                have e0 : tget A (P + 7) (x72 P A) 6 = Int32.ofNat (F (m + 1) - F m) := by
                  unfold x72
                  rw [hm.1, i32_p]
                  simp (disch := omega) only [tP7 hP]
                  exact q5
                rw [hx0]
                unfold x75
                rw [e0, if_neg (by show ¬ _ < Int32.ofNat 100; rw [i32_lt (by omega) (by decide)]; omega), x58_n hPa.1]
                rfl
              refine ⟨p, 1, _, up2 B 84 0 (B 82 13), by omega, by omega, go1 _ hx1, ?_, wrC_5, by rw [up2_s, hPa.at]⟩
              have hin : inb (Int32.ofNat m) 24 := (i32_inb (by omega)).mpr (by omega)
              have hcl : (Int32.ofNat m).toNatClampNeg = m := i32_cl (by omega)
              have r5 : rkd T p = 5 := by
                unfold opw at z4
                split at z4
                · assumption
                · cases z4
              have hw3 : wi wl3 (str T p) 0 = some o := by
                unfold opw at z4
                rw [if_pos r5] at z4
                exact z4
              rw [hy1, x212_h, if_pos (k12.trans r5), x200_n hPa.2.1 (t := 3) (Or.inl rfl), Option.bind_some, Option.bind_some]
              dsimp only
              have e3 : wv (wi (wlT 3) (str T p) 0) = Int32.ofNat o := by
                show wv (wi wl3 (str T p) 0) = _
                rw [hw3]
                rfl
              rw [e3, if_neg (i32_m1 (by omega)), if_pos hin, if_pos (by rw [hcl, hk.2.2.1, q4, i32_sb (by omega)]; show _ = Int32.ofNat 100; rw [i32_eq (by omega) (by decide)]; omega)]
              rfl
          | none =>
            right
            have o1 := opw_N hPa.1 z4
            have hx1 : x71 P A = x80 P A := by
              rw [hx0]
              split
              · rename_i y
                rw [if_pos (o1 y)]
              · rfl
            obtain ⟨s1, s2, s3, s4, s5, s6, s7⟩ := sfP hP
            obtain ⟨A', hx2, hs⟩ : ∃ A', x80 P A = x62 A' 58 ∧ Sw (wrC A p) A' := by
              refine ⟨_, by unfold x80; rw [x59_no hPa.1 z3, Option.bind_some]; simp only [Lt, Option.bind_fun_some]; rfl, ?_⟩
              exact ((((Sw.rf.ta (by decide)).ts (by decide)).ts (by decide)).ts (by decide)).ts (by decide)
            have hx3 : x71 P A = some A' := by rw [hx1, hx2, x62_e ((wrC_er (by omega)).sw hs)]
            refine ⟨p, 1, A', up2 B 84 0 (B 82 13), by omega, by omega, go1 _ hx3, ?_, hs.trans wrC_5, by rw [up2_s, hPa.at]⟩
            have hq : (if (B 82 12) = 5 then (x200 3 B).bind fun q1 => some (q1.1, q1.2) else some ((-1), B)) = some (-1, B) := by
              by_cases y : B 82 12 = 5
              · rw [if_pos y]
                have hw3 : wi wl3 (str T p) 0 = none := by
                  unfold opw at z4
                  rw [if_pos (k12.symm.trans y)] at z4
                  exact z4
                rw [x200_n hPa.2.1 (t := 3) (Or.inl rfl), Option.bind_some]
                have e3 : wv (wi (wlT 3) (str T p) 0) = -1 := by
                  show wv (wi wl3 (str T p) 0) = _
                  rw [hw3]
                  rfl
                rw [e3]
              · rw [if_neg y]
            rw [hy1, x212_h, hq, Option.bind_some]
            dsimp only
            rw [if_pos rfl]
            rfl
end
