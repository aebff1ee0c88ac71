/-! A CLASS's head in lockstep -/
def S4 (Z n : Nat) (q3 : Int32 × St) : St := up2 (up2 q3.2 (Z + 4) n q3.1) (Z + 6) n (-1)
def cnR (Z n : Nat) (q3 : Int32 × St) : Option (St ⊕ St) := (x203 (S4 Z n q3) 58).bind fun q4 => (if q4 = 0 then some (.inr (S4 Z n q3)) else (x192 (S4 Z n q3)).bind fun q5 => (x201 Z (up2 q5 (Z + 7) n (q5 82 13))).bind (elm fun q6 => some (.inr (up2 q6.2 (Z + 6) n q6.1)))).bind (elm (chR Z n))
section
variable {T : Tp} {L M : List (List Nat)} {K P Z u p n k s : Nat} {E F H G : Nat → Nat} {A B : St}
set_option maxHeartbeats 40000000 in
theorem class_h (hP : P = 3 ∨ P = 18) (hZ : Z = 85 ∨ Z = 126) (h : Bq T L M K P Z u p n k k s E F H G A B) (h0 : cA T p ≠ 256) : (∃ M' u' p' A' B', x55 P A = some A' ∧ x198 Z B = MbR Z n 100000 0 B' ∧ n < 19 ∧ Bq T L M' K P Z u' p' (n + 1) k k s (updN E (n + 1) (E n)) F H G A' B' ∧ A' 56 4 = 1 ∧ p < p') ∨ Bad (x55 P A) (x198 Z B) := by
  have hq := h
  obtain ⟨hPa, hb, hf, hs, hc, hm, hz, hk, hl, ht, n1, n2, n3, n4, n5, n6, n7, n8⟩ := h
  have hP2 : 3 ≤ P ∧ P ≤ 18 := by omega
  have hZ2 : 85 ≤ Z ∧ Z ≤ 126 := by omega
  replace hP : Hid (P = 3 ∨ P = 18) := hP
  replace hZ : Hid (Z = 85 ∨ Z = 126) := hZ
  have hp := hPa.le
  obtain ⟨i1, i2, i3, i4⟩ := hc
  have hw0 : x57 A 59 = if owd T p = some 0 then 1 else 0 := x57_n hPa.1 (n := 0) rfl (by decide)
  have hv0 : x199 B 0 = some (if owd T p = some 0 then 1 else 0, B) := x199_n hPa.2.1 (n := 0) rfl (by decide)
  have hX : x55 P A = if (if owd T p = some 0 then (1 : Int32) else 0) = 0 then some (wrC A p) else if Int32.ofNat n < 19 then (x59 (adv A)).bind (cnA P (Int32.ofNat n)) else some (wrC A p) := by
    have hk0 : ¬ x56 A = 0 := by
      rw [x56_n hPa.1, ckd_0 hPa.1.le]
      exact h0
    unfold x55
    rw [if_neg hk0, hw0, i1, x58_n hPa.1]
    rfl
  have hY : x198 Z B = if (if owd T p = some 0 then (1 : Int32) else 0) = 0 then some (.inl (up2 B 84 0 (B 82 13))) else if B Z 5 = 19 then some (.inl (up2 B 84 0 (B 82 13))) else (x192 B).bind fun q2 => if inb (q2 Z 5) 19 then (x201 Z (up2 q2 (Z + 5) (q2 Z 5).toNatClampNeg (q2 82 13))).bind (Sum.elim (fun J => some (.inl J)) (fun q3 => if inb (q2 Z 5) 19 then if inb (q2 Z 5) 19 then (x203 (up2 (up2 q3.2 (Z + 4) (q2 Z 5).toNatClampNeg q3.1) (Z + 6) (q2 Z 5).toNatClampNeg (-1)) 58).bind fun q4 => (if q4 = 0 then some (.inr (up2 (up2 q3.2 (Z + 4) (q2 Z 5).toNatClampNeg q3.1) (Z + 6) (q2 Z 5).toNatClampNeg (-1))) else (x192 (up2 (up2 q3.2 (Z + 4) (q2 Z 5).toNatClampNeg q3.1) (Z + 6) (q2 Z 5).toNatClampNeg (-1))).bind fun q5 => if inb (q2 Z 5) 19 then (x201 Z (up2 q5 (Z + 7) (q2 Z 5).toNatClampNeg (q5 82 13))).bind (Sum.elim (fun J => some (.inl J)) (fun q6 => if inb (q2 Z 5) 19 then some (.inr (up2 q6.2 (Z + 6) (q2 Z 5).toNatClampNeg q6.1)) else none)) else none).bind (Sum.elim (fun J => some (.inl J)) (fun (q7 : St) => (x204 (up2 q7 Z 5 ((q7 Z 5) + 1)) 123).bind (Sum.elim (fun J => some (.inl J)) (fun q8 => (l198_137 Z (q2 Z 5) 100000 0 q8).bind (Sum.elim mbE (fun r => some r)))))) else none else none)) else none := by
    unfold x198
    rw [hv0, Option.bind_some]
    rfl
  have wr : x55 P A = some (wrC A p) → x198 Z B = some (.inl (up2 B 84 0 (B 82 13))) → Bad (x55 P A) (x198 Z B) := fun e1 e2 => ⟨p, _, _, by omega, e1, e2, wrC_5, by rw [up2_s, hPa.at]⟩
  by_cases z0 : owd T p = some 0
  · rw [if_pos z0, if_neg (by decide)] at hX hY
    rcases Nat.lt_or_ge n 19 with h19 | h19
    · rw [if_pos (by show _ < Int32.ofNat 19; rw [i32_lt (by omega) (by decide)]; exact h19)] at hX
      rw [if_neg (by rw [i3]; show ¬ _ = Int32.ofNat 19; rw [i32_eq (by omega) (by decide)]; omega)] at hY
      have hin : inb (Int32.ofNat n) 19 := (i32_inb (by omega)).mpr h19
      have hcl : (Int32.ofNat n).toNatClampNeg = n := i32_cl (by omega)
      obtain ⟨B1, a1, a2, a3, a4⟩ := next_l hZ hPa h0
      have hB1 : ∀ a b, ((a ≠ Z ∨ (b ≠ 3 ∧ b ≠ 4)) ∧ (a < Z + 1 ∨ Z + 3 < a) ∧ (a ≠ 82 ∨ b < 11 ∨ 16 < b) ∧ a ≠ 84) → B1 a b = B a b := fun a b z => a3 a b z.1 z.2.1 z.2.2.1 z.2.2.2
      have hp1 := a2.le
      have z5 : B1 Z 5 = Int32.ofNat n := by rw [hB1 _ _ ⟨by omega, by omega, by omega, by omega⟩]; exact i3
      have hY2 : x198 Z B = (x201 Z (up2 B1 (Z + 5) n (Int32.ofNat (nx T p)))).bind (elm (cnR Z n)) := by
        rw [hY, a1, Option.bind_some, z5]
        simp only [if_pos hin, hcl, a2.at]
        rfl
      have hPa1 : Pa T L M K Z u (nx T p) (adv A) (up2 B1 (Z + 5) n (Int32.ofNat (nx T p))) := a2.of (fun _ _ _ => rfl) (fun a b z => up2_o (by omega))
      rcases name_l hZ hPa1 with ⟨i, r, sx, M1, u1, B2, c1, c2, c3, c4, c5, c6, c7, c8, c9, c10⟩ | ⟨w, w1, w2, w3⟩
      · have hne : NE L M1 (Int32.ofNat i) (Int32.ofNat r) := ⟨i, r, sx, rfl, rfl, c6, c7⟩
        have hB2 : ∀ a b, ((a ≠ Z ∨ (b ≠ 3 ∧ b ≠ 4)) ∧ (a < Z + 1 ∨ Z + 3 < a) ∧ (a ≠ 82 ∨ b < 11 ∨ 16 < b) ∧ a ≠ 84) → B2 a b = up2 B1 (Z + 5) n (Int32.ofNat (nx T p)) a b := fun a b z => c4 a b z.1 z.2.1 z.2.2.1 z.2.2.2
        rw [c1, Option.bind_some] at hX
        rw [c2, Option.bind_some, elm, Sum.elim_inr] at hY2
        have rA2 : ∀ a b, a ≠ 56 → nmA (adv A) (nx T p) a b = A a b := fun a b z => by rw [nmA_r (by omega), adv_r (by omega)]
        have r26 : nmA (adv A) (nx T p) 56 6 = Int32.ofNat (nx T p) := nmA_6
        generalize nmA (adv A) (nx T p) = A2 at c3 hX rA2 r26
        have hE3 : A2 (P + 3) 3 = Int32.ofNat (E n) := by rw [rA2 _ _ (by omega)]; exact hf.1
        generalize hA4 : up2 (up2 (up2 (up2 (up2 (up2 (up2 (up2 (up2 (up2 A2 (P + 1) 3 (Int32.ofNat (n + 1))) (P + 2) (6 * n) 0) (P + 2) (6 * n + 1) (Int32.ofNat i)) (P + 2) (6 * n + 2) (Int32.ofNat (E n))) (P + 2) (6 * n + 3) 0) (P + 2) (6 * n + 4) 0) (P + 2) (6 * n + 5) 0) 44 3 (Int32.ofNat (n + 1))) 45 (3 * n) (Int32.ofNat (nx T p))) 45 (3 * n + 1) (-1) = A4
        have hX2 : x55 P A = (if (x61 A4 58) = 0 then some A4 else (x59 (adv A4)).bind fun q5 => some (tset (tset q5.2 44 (Int32.ofNat n) 1 q5.1) 44 (Int32.ofNat n) 2 ((tset q5.2 44 (Int32.ofNat n) 1 q5.1) 56 6))).bind chA := by
          have hsf : sf (P + 1) 0 = 19 := by rcases hP with rfl | rfl <;> decide
          obtain ⟨t1, t2⟩ := tadd_n (I := A2) (k := P + 1) (n := n) (by rw [rA2 _ _ (by omega)]; exact i1) (by omega) (by omega)
          have e6 : x6 P A2 (Int32.ofNat i) = some (Int32.ofNat n, up2 (up2 (up2 (up2 (up2 (up2 (up2 A2 (P + 1) 3 (Int32.ofNat (n + 1))) (P + 2) (6 * n) 0) (P + 2) (6 * n + 1) (Int32.ofNat i)) (P + 2) (6 * n + 2) (Int32.ofNat (E n))) (P + 2) (6 * n + 3) 0) (P + 2) (6 * n + 4) 0) (P + 2) (6 * n + 5) 0) := by
            unfold x6
            rw [t1, t2]
            simp (disch := omega) only [Lt, tP1 hP, up2_o, hE3]
          rw [hX]
          unfold cnA
          rw [e6, Option.bind_some]
          dsimp only
          obtain ⟨t3, t4⟩ := tadd_n (I := up2 (up2 (up2 (up2 (up2 (up2 (up2 A2 (P + 1) 3 (Int32.ofNat (n + 1))) (P + 2) (6 * n) 0) (P + 2) (6 * n + 1) (Int32.ofNat i)) (P + 2) (6 * n + 2) (Int32.ofNat (E n))) (P + 2) (6 * n + 3) 0) (P + 2) (6 * n + 4) 0) (P + 2) (6 * n + 5) 0) (k := 44) (n := n) (by simp (disch := omega) only [up2_o, rA2]; exact i2) (by show n < 19; omega) (by decide)
          rw [t3]
          have a563 : A4 56 3 = A2 56 3 := by
            rw [← hA4]
            simp (disch := omega) only [up2_o]
          simp (disch := omega) only [Lt, t44, up2_o, r26, hA4]
          unfold adv
          rw [a563]
        have sA4 : ∀ a b, (a ≠ 56 ∧ (a ≠ P + 1 ∨ b ≠ 3) ∧ (a ≠ 44 ∨ b ≠ 3) ∧ (a ≠ P + 2 ∨ b < 6 * n) ∧ (a ≠ 45 ∨ b < 3 * n)) → A4 a b = A a b := fun a b z => by
          rw [← hA4]
          simp (disch := omega) only [up2_o, rA2]
        have o1 : A4 (P + 1) 3 = Int32.ofNat (n + 1) := by rw [← hA4]; simp (disch := omega) only [up2_o, up2_e]
        have o4 : A4 44 3 = Int32.ofNat (n + 1) := by rw [← hA4]; simp (disch := omega) only [up2_o, up2_e]
        have v0 : A4 (P + 2) (6 * n) = 0 := by rw [← hA4]; simp (disch := omega) only [up2_o, up2_e]
        have v1 : A4 (P + 2) (6 * n + 1) = Int32.ofNat i := by rw [← hA4]; simp (disch := omega) only [up2_o, up2_e]
        have v2 : A4 (P + 2) (6 * n + 2) = Int32.ofNat (E n) := by rw [← hA4]; simp (disch := omega) only [up2_o, up2_e]
        have v3 : A4 (P + 2) (6 * n + 3) = 0 := by rw [← hA4]; simp (disch := omega) only [up2_o, up2_e]
        have v4 : A4 (P + 2) (6 * n + 4) = 0 := by rw [← hA4]; simp (disch := omega) only [up2_o, up2_e]
        have v5 : A4 (P + 2) (6 * n + 5) = 0 := by rw [← hA4]; simp (disch := omega) only [up2_o, up2_e]
        have y0 : A4 45 (3 * n) = Int32.ofNat (nx T p) := by rw [← hA4]; simp (disch := omega) only [up2_o, up2_e]
        have y1 : A4 45 (3 * n + 1) = -1 := by rw [← hA4]; simp (disch := omega) only [up2_e]
        have hS : S4 Z n (Int32.ofNat r, B2) = up2 (up2 B2 (Z + 4) n (Int32.ofNat r)) (Z + 6) n (-1) := rfl
        generalize hB4 : up2 (up2 B2 (Z + 4) n (Int32.ofNat r)) (Z + 6) n (-1) = B4 at hS
        unfold cnR at hY2
        rw [hS] at hY2
        have rB4 : ∀ a b, ((a ≠ Z ∨ (b ≠ 3 ∧ b ≠ 4)) ∧ (a < Z + 1 ∨ Z + 3 < a) ∧ (a ≠ 82 ∨ b < 11 ∨ 16 < b) ∧ a ≠ 84 ∧ ((a < Z + 4 ∨ Z + 8 < a) ∨ b < n)) → B4 a b = B a b := fun a b z => by
          rw [← hB4]
          simp (disch := omega) only [up2_o, hB2, hB1]
        have u4 : B4 (Z + 4) n = Int32.ofNat r := by rw [← hB4]; simp (disch := omega) only [up2_o, up2_e]
        have u6 : B4 (Z + 6) n = -1 := by rw [← hB4]; simp (disch := omega) only [up2_e]
        have u5 : B4 (Z + 5) n = Int32.ofNat (nx T p) := by rw [← hB4]; simp (disch := omega) only [up2_o, hB2, up2_e]
        have hPa4 : Pa T L M1 K Z u1 (nx T (nx T p)) A4 B4 := c3.of (fun a b z => by rw [← hA4]; simp (disch := omega) only [up2_o]) (fun a b z => by rw [← hB4]; simp (disch := omega) only [up2_o])
        have hp2 := hPa4.le
        rw [x203_n hPa4.2.1 (s := 58) (x := 58) rfl (by decide) (by decide), Option.bind_some] at hY2
        rw [x61_n hPa4.1 (s := 58) (x := 58) rfl (by decide) (by decide)] at hX2
        by_cases z1 : cA T (nx T (nx T p)) = 58
        · rw [if_pos z1, if_neg (by decide)] at hX2 hY2
          obtain ⟨B5, d1, d2, d3, d4⟩ := next_l hZ hPa4 (by omega)
          have hB5 : ∀ a b, ((a ≠ Z ∨ (b ≠ 3 ∧ b ≠ 4)) ∧ (a < Z + 1 ∨ Z + 3 < a) ∧ (a ≠ 82 ∨ b < 11 ∨ 16 < b) ∧ a ≠ 84) → B5 a b = B4 a b := fun a b z => d3 a b z.1 z.2.1 z.2.2.1 z.2.2.2
          have hp3 := d2.le
          rw [d1, Option.bind_some, d2.at] at hY2
          generalize nx T (nx T (nx T p)) = p3 at d2 d4 hY2 hp3
          have hPa5 : Pa T L M1 K Z u1 p3 (adv A4) (up2 B5 (Z + 7) n (Int32.ofNat p3)) := d2.of (fun _ _ _ => rfl) (fun a b z => up2_o (by omega))
          rcases name_l hZ hPa5 with ⟨i2, r2, sx2, M2, u2, B6, e1, e2, e3, e4, e5, e6, e7, e8, e9, e10⟩ | ⟨w, w1, w2, w3⟩
          · have hne2 : NE L M2 (Int32.ofNat i2) (Int32.ofNat r2) := ⟨i2, r2, sx2, rfl, rfl, e6, e7⟩
            have hB6 : ∀ a b, ((a ≠ Z ∨ (b ≠ 3 ∧ b ≠ 4)) ∧ (a < Z + 1 ∨ Z + 3 < a) ∧ (a ≠ 82 ∨ b < 11 ∨ 16 < b) ∧ a ≠ 84) → B6 a b = up2 B5 (Z + 7) n (Int32.ofNat p3) a b := fun a b z => e4 a b z.1 z.2.1 z.2.2.1 z.2.2.2
            rw [e1, Option.bind_some, Option.bind_some] at hX2
            rw [e2, Option.bind_some, elm, Sum.elim_inr, Option.bind_some, elm, Sum.elim_inr] at hY2
            dsimp only at hX2 hY2
            have rA5 : ∀ a b, a ≠ 56 → nmA (adv A4) p3 a b = A4 a b := fun a b z => by rw [nmA_r (by omega), adv_r (by omega)]
            have r56 : nmA (adv A4) p3 56 6 = Int32.ofNat p3 := nmA_6
            generalize nmA (adv A4) p3 = A5 at e3 hX2 rA5 r56
            simp (disch := omega) only [t44, up2_o, r56] at hX2
            generalize hA7 : up2 (up2 A5 45 (3 * n + 1) (Int32.ofNat i2)) 45 (3 * n + 2) (Int32.ofNat p3) = A7 at hX2
            generalize hB7 : up2 B6 (Z + 6) n (Int32.ofNat r2) = B7 at hY2
            have sA7 : ∀ a b, (a ≠ 56 ∧ (a ≠ 45 ∨ (b ≠ 3 * n + 1 ∧ b ≠ 3 * n + 2))) → A7 a b = A4 a b := fun a b z => by
              rw [← hA7]
              simp (disch := omega) only [up2_o, rA5]
            have sB7 : ∀ a b, ((a ≠ Z ∨ (b ≠ 3 ∧ b ≠ 4)) ∧ (a < Z + 1 ∨ Z + 3 < a) ∧ (a ≠ 82 ∨ b < 11 ∨ 16 < b) ∧ a ≠ 84 ∧ ((a ≠ Z + 6 ∧ a ≠ Z + 7) ∨ b ≠ n)) → B7 a b = B4 a b := fun a b z => by
              rw [← hB7]
              simp (disch := omega) only [up2_o, hB6, hB5]
            have hC : C1 L M2 P Z n A7 B7 := by
              refine ⟨?_, by rw [sA7 _ _ ⟨by omega, by omega⟩]; exact v4, fun z => by omega, fun _ => ⟨?_, ?_, by rw [sA7 _ _ ⟨by omega, by omega⟩]; exact v0, Or.inr ⟨?_, ?_, ?_⟩⟩⟩
              · rw [sA7 _ _ ⟨by omega, by omega⟩, sB7 _ _ ⟨by omega, by omega, by omega, by omega, by omega⟩, v1, u4]
                exact hne.mono e5
              · rw [sA7 _ _ ⟨by omega, by omega⟩, sB7 _ _ ⟨by omega, by omega, by omega, by omega, by omega⟩, y0, u5]
              · rw [sB7 _ _ ⟨by omega, by omega, by omega, by omega, by omega⟩, u5]
                exact ⟨_, by omega, rfl⟩
              · rw [← hA7, ← hB7]
                simp (disch := omega) only [up2_o, up2_e]
                exact hne2
              · rw [← hA7, ← hB7]
                simp (disch := omega) only [up2_o, up2_e, hB6]
              · rw [← hB7]
                simp (disch := omega) only [up2_o, up2_e, hB6]
                exact ⟨_, by omega, rfl⟩
            have hPa7 : Pa T L M2 K Z u2 (nx T p3) A7 B7 := e3.of (fun a b z => by rw [← hA7]; simp (disch := omega) only [up2_o]) (fun a b z => by rw [← hB7]; simp (disch := omega) only [up2_o])
            rw [hX2, hY2]
            rcases chead_out hP hZ hq h19 hPa7 (by omega) (c5.tr e5) hC (by rw [sA7 _ _ ⟨by omega, by omega⟩]; exact v2) (by rw [sA7 _ _ ⟨by omega, by omega⟩]; exact v3) (by rw [sA7 _ _ ⟨by omega, by omega⟩]; exact v5) (by rw [sA7 _ _ ⟨by omega, by omega⟩]; exact o1) (by rw [sA7 _ _ ⟨by omega, by omega⟩]; exact o4) (fun a b z => by rw [sA7 a b ⟨by omega, by omega⟩, sA4 a b ⟨by omega, by omega, by omega, by omega, by omega⟩]) (fun a b z => by rw [sB7 a b ⟨by omega, by omega, by omega, by omega, by omega⟩, rB4 a b ⟨by omega, by omega, by omega, by omega, by omega⟩]) with ⟨M', u', p', A', B', f1, f2, f3, f4, f5⟩ | hbad
            · exact Or.inl ⟨M', u', p', A', B', f1, f2, h19, f3, f4, f5⟩
            · exact Or.inr hbad
          · right
            have s44 : sf 44 2 ≠ 56 := by decide
            rw [w2, Option.bind_some, Option.bind_some] at hX2
            dsimp only at hX2
            have hs : Sw (wrC (adv A4) w) (tset (tset (wrC (adv A4) w) 44 (Int32.ofNat n) 1 (-1)) 44 (Int32.ofNat n) 2 (tset (wrC (adv A4) w) 44 (Int32.ofNat n) 1 (-1) 56 6)) := (Sw.rf.ts s44).ts s44
            have hE := (wrC_er w1).sw hs
            rw [chA, x62_e hE, Option.bind_some] at hX2
            rw [w3] at hY2
            exact ⟨w, _, _, w1, hX2, hY2, (hs.u (k := 56) (j := 4) (v := 1) (by decide)).trans wrC_5, Wr_0⟩
        · rw [if_neg z1, if_pos rfl, Option.bind_some] at hX2 hY2
          rw [elm, Sum.elim_inr] at hY2
          have hC : C1 L M1 P Z n A4 B4 := by
            refine ⟨by rw [v1, u4]; exact hne, v4, fun z => by omega, fun _ => ⟨by rw [y0, u5], by rw [u5]; exact ⟨_, by omega, rfl⟩, v0, Or.inl ⟨y1, u6⟩⟩⟩
          rw [hX2, hY2]
          rcases chead_out hP hZ hq h19 hPa4 (by omega) c5 hC v2 v3 v5 o1 o4 sA4 rB4 with ⟨M', u', p', A', B', f1, f2, f3, f4, f5⟩ | hbad
          · exact Or.inl ⟨M', u', p', A', B', f1, f2, h19, f3, f4, f5⟩
          · exact Or.inr hbad
      · right
        obtain ⟨J, j1, j2⟩ := cnA_e hP (x := Int32.ofNat n) (v := -1) (wrC_er (A := adv A) w1)
        rw [w2, Option.bind_some, j1] at hX
        rw [w3] at hY2
        exact ⟨w, J, _, w1, hX, hY2, j2.trans wrC_5, Wr_0⟩
    · right
      rw [if_neg (by show ¬ _ < Int32.ofNat 19; rw [i32_lt (by omega) (by decide)]; omega)] at hX
      rw [if_pos (by rw [i3]; show _ = Int32.ofNat 19; rw [i32_eq (by omega) (by decide)]; omega)] at hY
      exact wr hX hY
  · right
    rw [if_neg z0, if_pos rfl] at hX hY
    exact wr hX hY
theorem class_l (hP : P = 3 ∨ P = 18) (hZ : Z = 85 ∨ Z = 126) (h : Bq T L M K P Z u p n k k s E F H G A B) (h0 : cA T p ≠ 256) (h4 : A 56 4 = 0) : MbG T L K P Z n p A (x198 Z B) := by
  have hPa := h.1
  have hp := hPa.le
  have h7 : 7 ≤ n := h.2.2.2.2.2.2.2.2.2.2.1
  have hT : T.1 ≤ 1280 := hPa.2.1.1.2.1
  have h5 : A 56 5 = -1 := hPa.1.2.2.2.2.2.2.1
  rcases class_h hP hZ h h0 with ⟨M', u', p', A', B', e1, e2, e3, e4, e5, e6⟩ | ⟨w, A', B', w1, w2, w3, w4, w5⟩
  · have q1 := members_l hP hZ h7 1281 p' u' M' k s _ F H G A' B' 98719 (by omega) e4 e5
    rw [updN_s, updN_n (show n ≠ n + 1 by omega), Nat.sub_self, show Int32.ofNat 0 = 0 from rfl, show 98719 + 1281 = 100000 from rfl, ← e2] at q1
    exact q1.pre (go_c h5 h4 e1) (by omega)
  · exact Or.inr ⟨w, 1, A', B', w1, by omega, go_c h5 h4 w2, w3, w4, w5⟩
end
