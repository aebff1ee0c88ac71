/-! A METHOD's head in lockstep, whole -/
def metE (Z : Nat) (m : Int32) (q31 : St) : Option (St ⊕ St) := if inb m 24 then if inb m 24 then Lt (up2 q31 (Z + 22) m.toNatClampNeg ((q31 Z 9) - (q31 (Z + 21) m.toNatClampNeg))) fun J38 => if inb m 24 then (x192 (up2 J38 (Z + 23) m.toNatClampNeg (J38 82 13))).bind fun q39 => some (.inr q39) else none else none else none
def metT (Z : Nat) (m : Int32) (q20 : St) : Option (St ⊕ St) := (x207 q20 1).bind (Sum.elim (fun J => some (.inl J)) (fun q21 => if inb m 24 then (x204 (up2 q21.2 (Z + 20) m.toNatClampNeg q21.1) 123).bind (Sum.elim (fun J => some (.inl J)) (fun q22 => if inb m 24 then (l209_217 Z m 100000 0 (up2 q22 (Z + 21) m.toNatClampNeg (q22 Z 9))).bind (Sum.elim (fun q31 => metE Z m q31) (fun r => some r)) else none)) else none))
theorem x209_h {Z : Nat} {I : St} {a1 a2 : Int32} : x209 Z I a1 a2 = (x192 I).bind fun q1 => (x201 Z q1).bind (Sum.elim (fun J => some (.inl J)) (fun q2 => (x206 q2.2 a1 q2.1 (q1 82 13)).bind fun q3 => if inb (q1 Z 8) 24 then if inb (q1 Z 8) 24 then if inb (q1 Z 8) 24 then Lt (up2 (up2 (up2 q3 (Z + 15) (q1 Z 8).toNatClampNeg a1) (Z + 16) (q1 Z 8).toNatClampNeg q2.1) (Z + 17) (q1 Z 8).toNatClampNeg (q1 82 13)) fun J4 => if inb (q1 Z 8) 24 then if inb (q1 Z 8) 24 then Lt (up2 (up2 J4 (Z + 25) (q1 Z 8).toNatClampNeg (vp_nar .boolean a2)) (Z + 18) (q1 Z 8).toNatClampNeg 0) fun J5 => if inb (q1 Z 8) 24 then Lt (up2 (up2 J5 (Z + 19) (q1 Z 8).toNatClampNeg 0) Z 8 (((up2 J5 (Z + 19) (q1 Z 8).toNatClampNeg 0) Z 8) + 1)) fun J6 => (kdR Z (q1 Z 8) J6).bind (elm (metT Z (q1 Z 8))) else none else none else none else none else none else none)) := by
  unfold x209
  simp only [← kd_a]
  rfl
def mtA (P : Nat) (x : Int32) (q4 : Int32 × St) : Option St := Lt (tset (tset q4.2 (P + 7) x 3 q4.1) (P + 7) x 5 ((tset q4.2 (P + 7) x 3 q4.1) (P + 9) 3)) fun J5 => Lt (tset (tset (tset J5 (P + 7) x 6 0) (P + 7) x 7 ((tset J5 (P + 7) x 6 0) (P + 11) 3)) (P + 7) x 8 0) fun J6 => (x62 (tset J6 (P + 7) x 9 0) 123).bind fun q7 => some (up2 q7 56 4 2)
theorem mtA_e {P : Nat} (hP : P = 3 ∨ P = 18) {x v : Int32} {A : St} (h : Er A) : ∃ J, mtA P x (v, A) = some J ∧ Sw A J := by
  obtain ⟨s1, s2, s3, s4, s5, s6, s7⟩ := sfP hP
  have sk : sf (P + 7) 2 ≠ 56 := by omega
  obtain ⟨J, j1, j2⟩ : ∃ J, mtA P x (v, A) = (x62 J 123).bind (fun q7 => some (up2 q7 56 4 2)) ∧ Sw A J := by
    refine ⟨_, rfl, ?_⟩
    exact (((((Sw.rf.ts sk).ts sk).ts sk).ts sk).ts sk).ts sk
  refine ⟨_, by rw [j1, x62_e (h.sw j2), Option.bind_some], j2.u (by decide)⟩
section
variable {T : Tp} {L M : List (List Nat)} {K P Z u p c k s v : Nat} {E F H G : Nat → Nat} {A B : St}
theorem method_l (hP : P = 3 ∨ P = 18) (hZ : Z = 85 ∨ Z = 126) (h : Bq T L M K P Z u p (c + 1) k k s E F H G A B) (h7 : 7 ≤ c) (h24 : k < 24) (h0 : cA T p ≠ 256) (hv : v = 0 ∨ v = 1) : (∃ M' u' p' A' B', x69 P A (Int32.ofNat v) = some A' ∧ x209 Z B (Int32.ofNat c) (Int32.ofNat v) = (l209_217 Z (Int32.ofNat k) 100000 0 B').bind (Sum.elim (fun q31 => metE Z (Int32.ofNat k) q31) (fun r => some r)) ∧ Bq T L M' K P Z u' p' (c + 1) (k + 1) k s E (updN F (k + 1) (F k)) (updN H (k + 1) (H k)) (updN G (k + 1) (G k)) A' B' ∧ A' 56 4 = 2 ∧ p < p') ∨ Bad (x69 P A (Int32.ofNat v)) (x209 Z B (Int32.ofNat c) (Int32.ofNat v)) := by
  obtain ⟨hPa, hb, hf, hs, hc, hm, hz, hk, hl, ht, n1, n2, n3, n4, n5, n6, n7⟩ := h
  obtain ⟨i1, i2, i3, i4⟩ := hc
  have hE := E_le n5 (fun x hx => (i4 x (by omega)).2.2.2.2.1) (c + 1) (by omega) (Nat.le_refl _)
  obtain ⟨m1, m2, m3, m4⟩ := hm
  obtain ⟨k1, k2, k3, k4, k5, k6⟩ := hk
  obtain ⟨l1, l2, l3, l4⟩ := hl
  obtain ⟨t1, t2, t3, t4, t5⟩ := ht
  have hpl := hPa.le
  have hmc := mcn_le (f := B (Z + 15)) (v := Int32.ofNat c) k
  obtain ⟨s1, s2, s3, s4, s5, s6, s7⟩ := sfP hP
  have hnar : vp_nar .boolean (Int32.ofNat v) = Int32.ofNat v := by rcases hv with rfl | rfl <;> decide
  generalize hA1 : up2 A (P + 2) (6 * c + 5) (Int32.ofNat (mcn (B (Z + 15)) (Int32.ofNat c) k + 1)) = A1
  have rA1 : ∀ a d, (a ≠ P + 2 ∨ d ≠ 6 * c + 5) → A1 a d = A a d := fun a d z => by rw [← hA1, up2_o z]
  have hXs : x69 P A (Int32.ofNat v) = (x66 (P + 7) P A1 (Int32.ofNat v)).bind fun q1 => Lt (tset (tset (tadd q1.2 48) 48 q1.1 0 ((tadd q1.2 48) 56 6)) 48 q1.1 2 ((tset (tadd q1.2 48) 48 q1.1 0 ((tadd q1.2 48) 56 6)) 50 3)) fun J2 => (x70 P (tset J2 48 q1.1 3 0) q1.1).bind fun q3 => (x67 q3 1).bind (mtA P q1.1) := by
    have e0 : tget A (P + 1) (x65 P A) 5 = Int32.ofNat (mcn (B (Z + 15)) (Int32.ofNat c) k) := by
      simp (disch := omega) only [x65, i1, i32_p, tP1 hP]
      exact (i4 c (by omega)).2.2.2.2.2.2
    have e1 : tset A (P + 1) (x65 P A) 5 (Int32.ofNat (mcn (B (Z + 15)) (Int32.ofNat c) k) + 1) = A1 := by
      simp (disch := omega) only [x65, i1, i32_p, tP1 hP, i32_s]
      exact hA1
    unfold x69
    rw [e0, e1, m1, if_pos (show Int32.ofNat k < 24 by show _ < Int32.ofNat 24; rw [i32_lt (by omega) (by decide)]; omega)]
    rfl
  have hPa1 : Pa T L M K Z u p A1 B := hPa.of (fun a b z => rA1 a b (by omega)) (fun _ _ _ => rfl)
  have hb1 : CB L M (E (c + 1) + s + k) A1 B := hb.of Mo.rf (fun a b z => rA1 a b (by omega)) (fun _ _ _ => rfl)
  have hin : inb (Int32.ofNat k) 24 := (i32_inb (by omega)).mpr (by omega)
  have hcl : (Int32.ofNat k).toNatClampNeg = k := i32_cl (by omega)
  rcases member_l hP hZ (k := P + 7) (R := 24) (C := 16) (n := k) (c := c) (by omega) hPa1 h0 hb1 (by omega) (by rw [rA1 _ _ (by omega)]; exact m1) (by omega) (by rw [rA1 _ _ (by omega)]; exact i1) (Int32.ofNat v) with ⟨i, r, M', u', B1, B2, B3, a1, a2, a3, a4, a5, a6, a7, a8, a9, a10, a11, a12, a13, a14⟩ | ⟨w, v', J, B1, w1, w2, w3, w4, w5⟩
  · generalize hAm : memA (P + 7) 16 k (E (c + 1) + s + k) c i (nx T p) (Int32.ofNat v) A1 = Am at a1 a6 a9
    have rAm : ∀ a d, ((a ≠ 56 ∨ (d ≠ 3 ∧ d ≠ 6)) ∧ (a ≠ P + 7 ∨ d ≠ 3) ∧ (a ≠ P + 8 ∨ d < 16 * k ∨ 16 * k + 2 < d) ∧ (a ≠ 46 ∨ d ≠ 3) ∧ a ≠ 47) → Am a d = A1 a d := fun a d z => by
      rw [← hAm]
      unfold memA
      simp (disch := omega) only [up2_o, nmA_r, adv_r]
    have am6 : Am 56 6 = Int32.ofNat (nx T p) := by
      rw [← hAm]
      unfold memA
      simp (disch := omega) only [up2_o, nmA_6]
    have q0 : Am (P + 8) (16 * k) = Int32.ofNat c := by
      rw [← hAm]; unfold memA; simp (disch := omega) only [up2_o, up2_e]
    have q1 : Am (P + 8) (16 * k + 1) = Int32.ofNat i := by
      rw [← hAm]; unfold memA; simp (disch := omega) only [up2_o, up2_e]
    have q2 : Am (P + 8) (16 * k + 2) = Int32.ofNat v := by
      rw [← hAm]; unfold memA; simp (disch := omega) only [up2_o, up2_e]
    have q3 : Am (P + 7) 3 = Int32.ofNat (k + 1) := by
      rw [← hAm]; unfold memA; simp (disch := omega) only [up2_o, up2_e]
    generalize hA2 : up2 (up2 (up2 (up2 Am 48 3 (Int32.ofNat (k + 1))) 49 (4 * k) (Int32.ofNat (nx T p))) 49 (4 * k + 2) (Int32.ofNat (H k))) 49 (4 * k + 3) 0 = A2
    have hX : x69 P A (Int32.ofNat v) = (x70 P A2 (Int32.ofNat k)).bind fun q3 => (x67 q3 1).bind (mtA P (Int32.ofNat k)) := by
      obtain ⟨y1, y2⟩ := tadd_n (I := Am) (k := 48) (n := k) (by rw [rAm _ _ (by omega), rA1 _ _ (by omega)]; exact m2) (by show k < 24; omega) (by decide)
      have hl1 : Am 50 3 = Int32.ofNat (H k) := by rw [rAm _ _ (by omega), rA1 _ _ (by omega)]; exact l1
      rw [hXs, a1, Option.bind_some]
      dsimp only
      rw [Lt, y1]
      simp (disch := omega) only [t48, up2_o, am6, hl1, hA2]
    generalize hB4 : up2 (up2 (up2 (up2 (up2 (up2 (up2 B3 (Z + 15) k (Int32.ofNat c)) (Z + 16) k (Int32.ofNat r)) (Z + 17) k (Int32.ofNat (nx T p))) (Z + 25) k (Int32.ofNat v)) (Z + 18) k 0) (Z + 19) k 0) Z 8 (Int32.ofNat (k + 1)) = B4
    have hY : x209 Z B (Int32.ofNat c) (Int32.ofNat v) = (kdR Z (Int32.ofNat k) B4).bind (elm (metT Z (Int32.ofNat k))) := by
      have e8 : B3 Z 8 = Int32.ofNat k := by rw [a10 _ _ (by omega)]; exact m3
      rw [x209_h, a2, Option.bind_some, a3, Option.bind_some, Sum.elim_inr]
      dsimp only
      rw [a5, a4, Option.bind_some, a11, m3]
      simp (disch := omega) only [hcl, if_pos hin, Lt, up2_o, hnar, e8, i32_s, hB4]
    have rB4 : ∀ a d, ((a ≠ Z ∨ (d ≠ 3 ∧ d ≠ 4 ∧ d ≠ 8)) ∧ (a < Z + 1 ∨ Z + 3 < a) ∧ (a ≠ 82 ∨ ((d < 11 ∨ 16 < d) ∧ d ≠ 20)) ∧ a ≠ 84 ∧ (a < 171 ∨ 173 < a) ∧ ((a < Z + 15 ∨ Z + 19 < a) ∧ a ≠ Z + 25 ∨ d ≠ k)) → B4 a d = B a d := fun a d z => by
      rw [← hB4]
      simp (disch := omega) only [up2_o, a10]
    have hPa4 : Pa T L M' K Z u' (nx T (nx T p)) A2 B4 := a6.of (fun a b z => by rw [← hA2]; simp (disch := omega) only [up2_o]) (fun a b z => by rw [← hB4]; simp (disch := omega) only [up2_o])
    have hMk0 : Mk P Z k 0 0 A2 B4 := ⟨by rw [← hB4]; simp (disch := omega) only [up2_o, up2_e]; rfl, by rw [← hB4]; simp (disch := omega) only [up2_o, up2_e]; rfl, by omega, by omega, fun i hi => by omega⟩
    rcases kall_l hP hZ h24 hPa4 hMk0 with ⟨kn, rf, p2, A3, B5, e1, e2, e3, e4, e5, e6, e7, e8⟩ | ⟨w, A3, B5, w1, w2, w3, w4, w5⟩
    · rw [e1, Option.bind_some] at hX
      rw [e2, Option.bind_some, elm, Sum.elim_inr] at hY
      rcases kind_l hZ e3 true (x := 1) rfl with ⟨d, B6, f1, f2, f3, f4, f5, f6, f7⟩ | ⟨w, w1, w2, w3⟩
      · have hB6 : ∀ a b, (a ≠ Z ∨ (b ≠ 3 ∧ b ≠ 4)) → (a < Z + 1 ∨ Z + 3 < a) → (a ≠ 82 ∨ b < 11 ∨ 16 < b) → a ≠ 84 → B6 a b = B5 a b := f4
        rw [f1, Option.bind_some] at hX
        have g9 : A3 (P + 9) 3 = Int32.ofNat (F k) := by
          rw [e7 _ _ (by omega), ← hA2]
          simp (disch := omega) only [up2_o, rAm, rA1]
          exact k1
        have g11 : A3 (P + 11) 3 = Int32.ofNat (G k) := by
          rw [e7 _ _ (by omega), ← hA2]
          simp (disch := omega) only [up2_o, rAm, rA1]
          exact t1
        generalize hA6 : up2 (up2 (up2 (up2 (up2 (up2 (adv A3) (P + 8) (16 * k + 3) (Int32.ofNat d)) (P + 8) (16 * k + 5) (Int32.ofNat (F k))) (P + 8) (16 * k + 6) 0) (P + 8) (16 * k + 7) (Int32.ofNat (G k))) (P + 8) (16 * k + 8) 0) (P + 8) (16 * k + 9) 0 = A6
        have hX2 : x69 P A (Int32.ofNat v) = (x62 A6 123).bind fun q7 => some (up2 q7 56 4 2) := by
          rw [hX]
          unfold mtA
          simp (disch := omega) only [Lt, tP7 hP, up2_o, adv_r, g9, g11, hA6]
        generalize hB7 : up2 B6 (Z + 20) k (Int32.ofNat d) = B7
        have hY2 : x209 Z B (Int32.ofNat c) (Int32.ofNat v) = (x204 B7 123).bind (elm fun q22 => (l209_217 Z (Int32.ofNat k) 100000 0 (up2 q22 (Z + 21) k (q22 Z 9))).bind (Sum.elim (fun q31 => metE Z (Int32.ofNat k) q31) (fun r => some r))) := by
          rw [hY]
          unfold metT
          rw [f2, Option.bind_some, Sum.elim_inr]
          simp only [if_pos hin, hcl, hB7]
        have hPa6 : Pa T L M' K Z u' (nx T p2) A6 B7 := f3.of (fun a b z => by rw [← hA6]; simp (disch := omega) only [up2_o]) (fun a b z => by rw [← hB7, up2_o (by omega)])
        rcases sign_l hZ hPa6 (s := 123) (x := 123) rfl (by decide) (by decide) with ⟨B8, b1, b2, b3, b4, b5⟩ | ⟨w, w1, w2, w3⟩
        · left
          have hB8 : ∀ a b, (a ≠ Z ∨ (b ≠ 3 ∧ b ≠ 4)) → (a < Z + 1 ∨ Z + 3 < a) → (a ≠ 82 ∨ b < 11 ∨ 16 < b) → a ≠ 84 → B8 a b = B7 a b := b4
          have rB8 : ∀ a d', ((a ≠ Z ∨ (d' ≠ 3 ∧ d' ≠ 4)) ∧ (a < Z + 1 ∨ Z + 3 < a) ∧ (a ≠ 82 ∨ ((d' < 11 ∨ 16 < d'))) ∧ a ≠ 84 ∧ ((a ≠ Z + 18 ∧ a ≠ Z + 19 ∧ a ≠ Z + 20) ∨ d' ≠ k)) → B8 a d' = B4 a d' := fun a d' z => by
            rw [hB8 a d' (by omega) (by omega) (by omega) (by omega), ← hB7, up2_o (by omega), hB6 a d' (by omega) (by omega) (by omega) (by omega), e8 a d' (by omega)]
          have z9 : B8 Z 9 = Int32.ofNat (F k) := by
            rw [rB8 _ _ (by omega), rB4 _ _ (by omega)]
            exact k3
          generalize hB9 : up2 B8 (Z + 21) k (Int32.ofNat (F k)) = B9
          generalize hA7 : up2 (adv A6) 56 4 2 = A7
          have rA2 : ∀ a d', ((a ≠ 56 ∨ (d' ≠ 3 ∧ d' ≠ 6)) ∧ (a ≠ P + 7 ∨ d' ≠ 3) ∧ (a ≠ P + 8 ∨ d' < 16 * k ∨ 16 * k + 2 < d') ∧ (a ≠ 46 ∨ d' ≠ 3) ∧ a ≠ 47 ∧ (a ≠ 48 ∨ d' ≠ 3) ∧ (a ≠ 49 ∨ d' < 4 * k ∨ d' = 4 * k + 1) ∧ (a ≠ P + 2 ∨ d' ≠ 6 * c + 5)) → A2 a d' = A a d' := fun a d' z => by
            rw [← hA2]
            simp (disch := omega) only [up2_o, rAm, rA1]
          have rA7 : ∀ a d', ((a ≠ 56 ∨ (d' ≠ 3 ∧ d' ≠ 4)) ∧ (a ≠ P + 8 ∨ (d' < 16 * k + 3 ∨ 16 * k + 16 ≤ d'))) → A7 a d' = A2 a d' := fun a d' z => by
            rw [← hA7, up2_o (by omega), adv_r (by omega), ← hA6]
            simp (disch := omega) only [up2_o, adv_r]
            rw [e7 a d' (by omega)]
          have rA : ∀ a d', (a ≠ 56 ∧ (a ≠ P + 7 ∨ d' ≠ 3) ∧ (a ≠ P + 8 ∨ d' < 16 * k) ∧ (a ≠ 46 ∨ d' ≠ 3) ∧ a ≠ 47 ∧ (a ≠ 48 ∨ d' ≠ 3) ∧ (a ≠ 49 ∨ d' < 4 * k) ∧ (a ≠ P + 2 ∨ d' ≠ 6 * c + 5)) → A7 a d' = A a d' := fun a d' z => by
            rw [rA7 a d' (by omega), rA2 a d' (by omega)]
          have rB9 : ∀ a d', ((a ≠ Z ∨ (d' ≠ 3 ∧ d' ≠ 4)) ∧ (a < Z + 1 ∨ Z + 3 < a) ∧ (a ≠ 82 ∨ ((d' < 11 ∨ 16 < d'))) ∧ a ≠ 84 ∧ ((a < Z + 18 ∨ Z + 21 < a) ∨ d' ≠ k)) → B9 a d' = B4 a d' := fun a d' z => by
            rw [← hB9, up2_o (by omega), rB8 a d' (by omega)]
          have rB : ∀ a d', ((a ≠ Z ∨ (d' ≠ 3 ∧ d' ≠ 4 ∧ d' ≠ 8)) ∧ (a < Z + 1 ∨ Z + 3 < a) ∧ (a ≠ 82 ∨ ((d' < 11 ∨ 16 < d') ∧ d' ≠ 20)) ∧ a ≠ 84 ∧ (a < 171 ∨ 173 < a) ∧ ((a < Z + 15 ∨ Z + 21 < a) ∧ a ≠ Z + 25 ∨ d' < k)) → B9 a d' = B a d' := fun a d' z => by
            rw [rB9 a d' (by omega), rB4 a d' (by omega)]
          have b15 : B9 (Z + 15) k = Int32.ofNat c := by
            rw [rB9 _ _ (by omega), ← hB4]
            simp (disch := omega) only [up2_o, up2_e]
          refine ⟨M', u', _, A7, B9, by rw [hX2, b1, Option.bind_some, hA7], by rw [hY2, b2, Option.bind_some, elm, Sum.elim_inr, z9, hB9], ⟨?_, ?_, ?_, ?_, ?_, ?_, ?_, ?_, ?_, ?_, n1, n2, by omega, n4, n5, by rw [updN_s]; omega, by rw [updN_s]; omega⟩, by rw [← hA7, up2_s], by omega⟩
          · exact b3.of (fun a b z => by rw [← hA7, up2_o (by omega)]) (fun a b z => by rw [← hB9, up2_o (by omega)])
          · have := a9.of (A' := A7) (B' := B9) Mo.rf (fun a d' z => by rw [rA7 a d' (by omega), ← hA2]; simp (disch := omega) only [up2_o]) (fun a d' z => by rw [rB9 a d' (by omega), ← hB4]; simp (disch := omega) only [up2_o])
            have e : E (c + 1) + s + (k + 1) = E (c + 1) + s + k + 1 := by omega
            rw [e]
            exact this
          · exact hf.of a7 (fun a b z => rA a b (by omega)) (fun a b z => rB a b (by omega))
          · exact hs.of a7 (fun a b z => rA a b (by omega)) (fun a b z => rB a b (by omega))
          · refine ⟨by rw [rA _ _ (by omega)]; exact i1, by rw [rA _ _ (by omega)]; exact i2, by rw [rB _ _ (by omega)]; exact i3, fun x hx => ?_⟩
            obtain ⟨g1, g2, g3, g4, g5, g6, g7⟩ := i4 x hx
            have hmc2 : mcn (B9 (Z + 15)) (Int32.ofNat x) k = mcn (B (Z + 15)) (Int32.ofNat x) k := mcn_of k (fun y hy => rB _ _ (by omega))
            refine ⟨g1.of a7 (fun a b z => rA a b (by omega)) (fun a b z => rB a b (by omega)), by rw [rA _ _ (by omega)]; exact g2, by rw [rA _ _ (by omega)]; exact g3, g4, g5, fun f z1 z2 => by rw [rB _ _ (by omega)]; exact g6 f z1 z2, ?_⟩
            rw [mcn, hmc2, b15]
            by_cases y : x = c
            · subst y
              rw [if_pos rfl, rA7 _ _ (by omega), ← hA2]
              simp (disch := omega) only [up2_o, rAm]
              rw [← hA1, up2_s]
            · rw [if_neg (by rw [i32_eq (by omega) (by omega)]; omega), rA _ _ (by omega)]
              exact g7
          · refine ⟨by rw [rA7 _ _ (by omega), ← hA2]; simp (disch := omega) only [up2_o]; exact q3, by rw [rA7 _ _ (by omega), ← hA2]; simp (disch := omega) only [up2_o, up2_e], by rw [rB9 _ _ (by omega), ← hB4, up2_s], fun x hx => ?_⟩
            rw [updN_n (show x ≠ k + 1 by omega), updN_n (show x ≠ k + 1 by omega), updN_n (show x ≠ k + 1 by omega)]
            rcases Nat.lt_or_ge x k with y | y
            · obtain ⟨g1, ⟨c', rf', g2, g3⟩, g4, g5, g6, g7, g8, g9, g10⟩ := m4 x y
              have g11 : c' ≤ 6 := g3.2.2.1
              rw [updN_n (show x + 1 ≠ k + 1 by omega), updN_n (show x + 1 ≠ k + 1 by omega), updN_n (show x + 1 ≠ k + 1 by omega)]
              refine ⟨g1.of a7 (fun a b z => rA a b (by omega)) (fun a b z => rB a b (by omega)), ⟨c', rf', by rw [rA _ _ (by omega)]; exact g2, g3.of (fun a b z => rA a b (by omega)) (fun a b z => rB a b (by omega))⟩, ?_⟩
              simp (disch := omega) only [rA, rB]
              exact ⟨g4, g5, g6, g7, g8, g9, g10⟩
            · have hxk : x = k := by omega
              subst hxk
              rw [updN_s, updN_s, updN_s]
              have o1 : ∀ d', 16 * x ≤ d' → d' < 16 * x + 3 → A7 (P + 8) d' = Am (P + 8) d' := fun d' z1 z2 => by
                rw [rA7 _ _ (by omega), ← hA2]
                simp (disch := omega) only [up2_o]
              have o2 : ∀ d', 4 * x ≤ d' → A7 49 d' = A2 49 d' := fun d' z1 => rA7 _ _ (by omega)
              have o6 : ∀ d', A7 (P + 8) d' = A6 (P + 8) d' := fun d' => by
                rw [← hA7, up2_o (by omega), adv_r (by omega)]
              have o20 : B9 (Z + 20) x = Int32.ofNat d := by
                rw [← hB9, up2_o (by omega), hB8 _ _ (by omega) (by omega) (by omega) (by omega), ← hB7, up2_s]
              refine ⟨⟨?_, ⟨c, by omega, b15⟩, ?_, ?_, ?_, ?_, ?_, ?_, ⟨d, f5, o20⟩, ?_⟩, ⟨kn, rf, ?_, ?_⟩, ?_, ?_, ?_, ?_, ?_, ?_, ?_⟩
              · rw [o1 _ (by omega) (by omega), q0, b15]
              · rw [o1 _ (by omega) (by omega), q1, rB9 _ _ (by omega), ← hB4]
                simp (disch := omega) only [up2_o, up2_e]
                exact a8
              · rw [o2 _ (by omega), ← hA2, rB9 _ _ (by omega), ← hB4]
                simp (disch := omega) only [up2_o, up2_e]
              · rw [rB9 _ _ (by omega), ← hB4]
                simp (disch := omega) only [up2_o, up2_e]
                exact ⟨_, by omega, rfl⟩
              · rw [o1 _ (by omega) (by omega), q2, rB9 _ _ (by omega), ← hB4]
                simp (disch := omega) only [up2_o, up2_e]
              · rw [rB9 _ _ (by omega), ← hB4]
                simp (disch := omega) only [up2_o, up2_e]
                rcases hv with rfl | rfl
                · exact Or.inl rfl
                · exact Or.inr rfl
              · rw [o6, o20, ← hA6]
                simp (disch := omega) only [up2_o, up2_e]
              · rw [o6, ← hA6]
                simp (disch := omega) only [up2_o, up2_e]
              · rw [o6, ← hA6]
                simp (disch := omega) only [up2_o, adv_r]
                exact e6
              · have kn6 : kn ≤ 6 := e5.2.2.1
                exact e5.of (fun a b z => by rw [z.1, o6, ← hA6]; simp (disch := omega) only [up2_o, adv_r]) (fun a b z => by rw [← hB9, up2_o (by omega), hB8 _ _ (by omega) (by omega) (by omega) (by omega), ← hB7, up2_o (by omega), hB6 _ _ (by omega) (by omega) (by omega) (by omega)])
              · rw [o6, ← hA6]
                simp (disch := omega) only [up2_o, up2_e]
              · rw [← hB9, up2_s]
              · rw [o6, ← hA6]
                simp (disch := omega) only [up2_o, up2_e, Nat.sub_self]
                rfl
              · rw [o6, ← hA6]
                simp (disch := omega) only [up2_o, up2_e]
              · rw [o6, ← hA6]
                simp (disch := omega) only [up2_o, up2_e, Nat.sub_self]
                rfl
              · rw [o2 _ (by omega), ← hA2]
                simp (disch := omega) only [up2_o, up2_e]
              · rw [o2 _ (by omega), ← hA2, up2_s, Nat.sub_self]
                rfl
          · exact hz.of (fun x hx => updN_n (by omega)) (fun a b z => rA a b (by omega)) (fun a b z => rB a b (by omega))
          · have hk2 := CK.of (M' := M') (A' := A7) (B' := B9) ⟨k1, k2, k3, k4, k5, k6⟩ a7 (fun a b z => rA a b (by omega)) (fun a b z => rB a b (by omega))
            obtain ⟨y1, y2, y3, y4, y5, y6⟩ := hk2
            refine ⟨by rw [updN_s]; exact y1, by rw [updN_s]; exact y2, by rw [updN_s]; exact y3, by rw [updN_n (by omega)]; exact y4, fun x hx => ?_, by rw [updN_s]; exact y6⟩
            rw [updN_n (show x ≠ k + 1 by omega)]
            rcases Nat.lt_or_ge x k with y | y
            · rw [updN_n (show x + 1 ≠ k + 1 by omega)]
              exact y5 x y
            · have hxk : x = k := by omega
              subst hxk
              rw [updN_s]
              omega
          · obtain ⟨y1, y2, y3, y4⟩ := CL.of (M' := M') (F' := updN F (k + 1) (F k)) (A' := A7) (B' := B9) ⟨l1, l2, l3, l4⟩ a7 (fun x hx => by
              rw [updN_n (show x ≠ k + 1 by omega), updN_n (show x + 1 ≠ k + 1 by omega)]
              exact ⟨rfl, Nat.le_refl _⟩) (fun a b z => rA a b (by omega)) (fun a b z => rB a b (by omega))
            refine ⟨by rw [updN_s]; exact y1, by rw [updN_s]; exact y2, by rw [updN_n (by omega)]; exact y3, fun x hx => ?_⟩
            rw [updN_n (F := H) (show x ≠ k + 1 by omega)]
            rcases Nat.lt_or_ge x k with y | y
            · rw [updN_n (F := H) (show x + 1 ≠ k + 1 by omega)]
              exact y4 x y
            · have hxk : x = k := by omega
              subst hxk
              rw [updN_s]
              exact ⟨Nat.le_refl _, fun l z1 z2 => by omega⟩
          · obtain ⟨y1, y2, y3, y4, y5⟩ := CT.of (M' := M') (A' := A7) (B' := B9) ⟨t1, t2, t3, t4, t5⟩ a7 (fun a b z => rA a b (by omega)) (fun a b z => rB a b (by omega))
            refine ⟨by rw [updN_s]; exact y1, by rw [updN_s]; exact y2, by rw [updN_s]; exact y3, by rw [updN_n (by omega)]; exact y4, fun x hx => ?_⟩
            rw [updN_n (show x ≠ k + 1 by omega)]
            rcases Nat.lt_or_ge x k with y | y
            · rw [updN_n (show x + 1 ≠ k + 1 by omega)]
              exact y5 x y
            · have hxk : x = k := by omega
              subst hxk
              rw [updN_s]
              exact ⟨Nat.le_refl _, by omega, fun l z1 z2 => by omega⟩
        · right
          rw [w2, Option.bind_some] at hX2
          rw [w3] at hY2
          exact ⟨w, _, _, w1, hX2, hY2, (Sw.rf.u (by decide) : Sw (wrC A6 w) _).trans wrC_5, Wr_0⟩
      · right
        obtain ⟨J, j1, j2⟩ := mtA_e hP (x := Int32.ofNat k) (v := 0) (wrC_er (A := A3) w1)
        rw [w2, Option.bind_some, j1] at hX
        unfold metT at hY
        rw [w3] at hY
        exact ⟨w, J, _, w1, hX, hY, j2.trans wrC_5, Wr_0⟩
    · right
      have hE : Er A3 := er_of (by omega) w4
      obtain ⟨J, j1, j2⟩ := mtA_e hP (x := Int32.ofNat k) (v := 0) hE
      rw [w2, Option.bind_some, x67_e hE, Option.bind_some, j1] at hX
      rw [w3] at hY
      exact ⟨w, J, B5, w1, hX, hY, j2.trans w4, w5⟩
  · right
    have hE : Er J := er_of (by omega) w3
    obtain ⟨J3, d1, d2⟩ : ∃ J3, x69 P A (Int32.ofNat v) = (x70 P J3 v').bind (fun q3 => (x67 q3 1).bind (mtA P v')) ∧ Sw J J3 := by
      refine ⟨_, by rw [hXs, w2, Option.bind_some]; rfl, ?_⟩
      dsimp only
      exact (((Sw.rf.ta (k := 48) (by decide)).ts (k := 48) (by decide)).ts (k := 48) (by decide)).ts (k := 48) (by decide)
    obtain ⟨J4, d3, d4⟩ := x70_e hP (hE.sw d2) (x := v')
    have hE4 := (hE.sw d2).sw d4
    obtain ⟨J5, d5, d6⟩ := mtA_e hP (x := v') (v := 0) hE4
    refine ⟨w, J5, Wr B1 w, w1, by rw [d1, d3, Option.bind_some, x67_e hE4, Option.bind_some, d5], ?_, ((d2.tr d4).tr d6).trans w3, Wr_0⟩
    rw [x209_h, w4, Option.bind_some, w5]
    rfl
end
