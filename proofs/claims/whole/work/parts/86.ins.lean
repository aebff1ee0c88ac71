/-! AN INSTRUCTION in lockstep: its end; its shapes -/
/-- which instruction's word stands there -/
def opw (T : Tp) (p : Nat) : Option Nat := if rkd T p = 5 then wi wl3 (str T p) 0 else none
theorem x212_h {Z : Nat} {I : St} {a1 : Int32} : x212 Z I a1 = (if (I 82 12) = 5 then (x200 3 I).bind fun q1 => some (q1.1, q1.2) else some ((-1), I)).bind fun (q2 : Int32 × St) => if q2.1 = (-1) then some (.inl (up2 q2.2 84 0 (q2.2 82 13))) else if inb a1 24 then if ((q2.2 Z 9) - (q2.2 (Z + 21) a1.toNatClampNeg)) = 100 then some (.inl (up2 q2.2 84 0 (q2.2 82 13))) else if inb (q2.2 Z 9) 2400 then if inb (q2.2 Z 9) 2400 then Lt (up2 (up2 q2.2 (Z + 26) (q2.2 Z 9).toNatClampNeg q2.1) (Z + 28) (q2.2 Z 9).toNatClampNeg ((up2 q2.2 (Z + 26) (q2.2 Z 9).toNatClampNeg q2.1) 82 13)) fun J3 => if inb (q2.2 Z 9) 2400 then if inb (q2.2 Z 9) 2400 then Lt (up2 (up2 J3 (Z + 29) (q2.2 Z 9).toNatClampNeg (-1)) (Z + 31) (q2.2 Z 9).toNatClampNeg (-1)) fun J4 => if inb (q2.2 Z 9) 2400 then (x192 (up2 J4 (Z + 27) (q2.2 Z 9).toNatClampNeg 0)).bind fun q5 => insR Z (q2.2 Z 9) q2.1 q5 else none else none else none else none else none else none := rfl
section
variable {T : Tp} {L M M' : List (List Nat)} {K P Z u u' p p' n m q s o : Nat} {E F H G : Nat → Nat} {A B A5 B6 : St}
theorem x60_n (h : PS T L K p A) : x60 A = Int32.ofNat p := h.tk.2.1
theorem opw_A (h : PS T L K p A) (ho : opw T p = some o) : x56 A = 3 ∧ x74 A = Int32.ofNat o ∧ o < 59 := by
  have hc := h.le
  unfold opw at ho
  split at ho
  · rename_i z
    have e := (ckd_3 hc).mpr z
    have h59 := wi3_lt _ ho
    obtain ⟨t1, t2, t3, t4, t5⟩ := h.tk
    obtain ⟨i, g1, g2, g3, g4⟩ := t3 (Or.inr (t1.trans e))
    refine ⟨(x56_n h).trans e, ?_, h59⟩
    unfold x74
    rw [g1, (wi3_iff h.2.2.2.1 h.2.2.2.2.1 g3 h59).mp ho]
  · cases ho
theorem opw_N (h : PS T L K p A) (ho : opw T p = none) : x56 A = 3 → (59 : Int32) ≤ x74 A := by
  have hc := h.le
  intro hx
  rw [x56_n h] at hx
  have z := (ckd_3 hc).mp hx
  unfold opw at ho
  rw [if_pos z] at ho
  obtain ⟨t1, t2, t3, t4, t5⟩ := h.tk
  obtain ⟨i, g1, g2, g3, g4⟩ := t3 (Or.inr (t1.trans hx))
  unfold x74
  rw [g1]
  show Int32.ofNat 59 ≤ _
  rw [i32_le (by decide) (by omega)]
  rcases Nat.lt_or_ge i 59 with y | y
  · have := (wi3_iff h.2.2.2.1 h.2.2.2.2.1 g3 y).mpr rfl
    rw [this] at ho
    cases ho
  · exact y
theorem ins_fin (hP : P = 3 ∨ P = 18) (hZ : Z = 85 ∨ Z = 126) (h : Bq T L M K P Z u p n (m + 1) m s E F H G A B) (h1 : F (m + 1) < F m + 100) (hPa5 : Pa T L M' K Z u' p' A5 B6) (hp : p < p') (hM : Mo M M') (hK : K1 L M' P Z (F (m + 1)) A5 B6) (rA : ∀ a b, ((a ≠ 56 ∨ b = 4) ∧ (a ≠ P + 8 ∨ b ≠ 16 * m + 6) ∧ (a ≠ P + 9 ∨ b ≠ 3) ∧ (a ≠ 52 ∨ b ≠ 3) ∧ (a ≠ P + 10 ∨ b < 3 * F (m + 1)) ∧ (a ≠ 53 ∨ b < 3 * F (m + 1))) → A5 a b = A a b) (rB : ∀ a b, ((a ≠ Z ∨ (b ≠ 3 ∧ b ≠ 4)) ∧ (a < Z + 1 ∨ Z + 3 < a) ∧ (a ≠ 82 ∨ b < 11 ∨ 16 < b) ∧ a ≠ 84 ∧ (a < Z + 26 ∨ Z + 32 < a ∨ b < F (m + 1))) → B6 a b = B a b) (e1 : A5 (P + 8) (16 * m + 6) = Int32.ofNat (F (m + 1) - F m + 1)) (e2 : A5 (P + 9) 3 = Int32.ofNat (F (m + 1) + 1)) (e3 : A5 52 3 = Int32.ofNat (F (m + 1) + 1)) : (∃ p'' A' B', x62 A5 59 = some A' ∧ fin9 Z B6 = some (.inr B') ∧ Bq T L M' K P Z u' p'' n (m + 1) m s E (updN F (m + 1) (F (m + 1) + 1)) H G A' B' ∧ A' 56 4 = A 56 4 ∧ p < p'') ∨ (∃ w, w < 2000 ∧ x62 A5 59 = some (wrC A5 w) ∧ ∃ B', fin9 Z B6 = some (.inl B') ∧ B' 84 0 = Int32.ofNat w) := by
  obtain ⟨hPa, hb, hf, hs, hc, hm, hz, hk, hl, ht, n1, n2, n3, n4, n5, n6, n7, n8⟩ := h
  obtain ⟨m1, m2, m3, m4⟩ := hm
  obtain ⟨k1, k2, k3, k4, k5, k6⟩ := hk
  have k7 := (k5 m (by omega)).1
  generalize hB7 : up2 B6 Z 9 (Int32.ofNat (F (m + 1) + 1)) = B7
  have hR : fin9 Z B6 = x204 B7 59 := by
    unfold fin9
    rw [rB _ _ (by omega), k3, i32_s, hB7]
  have hPa7 : Pa T L M' K Z u' p' A5 B7 := hPa5.of (fun _ _ _ => rfl) (fun a b z => by rw [← hB7, up2_o (by omega)])
  rcases sign_l hZ hPa7 (s := 59) (x := 59) rfl (by decide) (by decide) with ⟨B8, b1, b2, b3, b4, b5⟩ | ⟨w, w1, w2, w3⟩
  · left
    have hB8 : ∀ a b, (a ≠ Z ∨ (b ≠ 3 ∧ b ≠ 4)) → (a < Z + 1 ∨ Z + 3 < a) → (a ≠ 82 ∨ b < 11 ∨ 16 < b) → a ≠ 84 → B8 a b = B7 a b := b4
    have rA' : ∀ a b, ((a ≠ 56 ∨ b = 4) ∧ (a ≠ P + 8 ∨ b ≠ 16 * m + 6) ∧ (a ≠ P + 9 ∨ b ≠ 3) ∧ (a ≠ 52 ∨ b ≠ 3) ∧ (a ≠ P + 10 ∨ b < 3 * F (m + 1)) ∧ (a ≠ 53 ∨ b < 3 * F (m + 1))) → adv A5 a b = A a b := fun a b z => by
      rw [adv_r (by omega), rA a b z]
    have rB' : ∀ a b, ((a ≠ Z ∨ (b ≠ 3 ∧ b ≠ 4 ∧ b ≠ 9)) ∧ (a < Z + 1 ∨ Z + 3 < a) ∧ (a ≠ 82 ∨ b < 11 ∨ 16 < b) ∧ a ≠ 84 ∧ (a < Z + 26 ∨ Z + 32 < a ∨ b < F (m + 1))) → B8 a b = B a b := fun a b z => by
      rw [hB8 a b (by omega) (by omega) (by omega) (by omega), ← hB7, up2_o (by omega), rB a b (by omega)]
    refine ⟨_, adv A5, B8, b1, by rw [hR, b2], ⟨b3, ?_, ?_, ?_, ?_, ?_, ?_, ?_, ?_, ?_, n1, n2, n3, n4, n5, by rw [updN_s]; omega, by omega, n8.of (fun a b z => rB' a b (by omega))⟩, rA' _ _ (by omega), by omega⟩
    · exact hb.of hM (fun a b z => rA' a b (by omega)) (fun a b z => rB' a b (by omega))
    · exact hf.of hM (fun a b z => rA' a b (by omega)) (fun a b z => rB' a b (by omega))
    · exact hs.of hM (fun a b z => rA' a b (by omega)) (fun a b z => rB' a b (by omega))
    · exact hc.of hM (fun a b z => rA' a b (by omega)) (fun a b z => rB' a b (by omega))
    · refine ⟨by rw [rA' _ _ (by omega)]; exact m1, by rw [rA' _ _ (by omega)]; exact m2, by rw [rB' _ _ (by omega)]; exact m3, fun x hx' => ?_⟩
      obtain ⟨g1, ⟨c, rf, g2, g3⟩, g4, g5, g6, g7, g8, g9, g10⟩ := m4 x hx'
      have g11 : c ≤ 6 := g3.2.2.1
      refine ⟨g1.of hM (fun a b z => rA' a b (by omega)) (fun a b z => rB' a b (by omega)), ⟨c, rf, by rw [rA' _ _ (by omega)]; exact g2, g3.of (fun a b z => rA' a b (by omega)) (fun a b z => rB' a b (by omega))⟩, ?_⟩
      rw [updN_n (show x ≠ m + 1 by omega)]
      rcases Nat.lt_or_ge x m with y | y
      · rw [updN_n (show x + 1 ≠ m + 1 by omega)]
        simp (disch := omega) only [rA', rB']
        exact ⟨g4, g5, g6, g7, g8, g9, g10⟩
      · obtain rfl : x = m := by omega
        refine ⟨by rw [rA' _ _ (by omega)]; exact g4, by rw [rB' _ _ (by omega)]; exact g5, ?_, by rw [rA' _ _ (by omega)]; exact g7, by rw [rA' _ _ (by omega)]; exact g8, by rw [rA' _ _ (by omega)]; exact g9, by rw [rA' _ _ (by omega)]; exact g10⟩
        rw [adv_r (by omega), e1, updN_s]
        congr 1
        omega
    · exact hz.of (fun x hx' => updN_n (by omega)) (fun a b z => rA' a b (by omega)) (fun a b z => rB' a b (by omega))
    · refine ⟨by rw [adv_r (by omega), e2, updN_s], by rw [adv_r (by omega), e3, updN_s], by rw [hB8 _ _ (by omega) (by omega) (by omega) (by omega), ← hB7, up2_s, updN_s], by rw [updN_n (by omega)]; exact k4, fun x hx' => ?_, fun i hi => ?_⟩
      · obtain ⟨g1, g2⟩ := k5 x hx'
        rw [updN_n (show x ≠ m + 1 by omega)]
        rcases Nat.lt_or_ge x m with y | y
        · rw [updN_n (show x + 1 ≠ m + 1 by omega)]
          exact ⟨g1, g2⟩
        · obtain rfl : x = m := by omega
          rw [updN_s]
          omega
      · rw [updN_s] at hi
        rcases Nat.lt_or_ge i (F (m + 1)) with y | y
        · exact (k6 i y).of hM (fun a b z => rA' a b (by omega)) (fun a b z => rB' a b (by omega))
        · obtain rfl : i = F (m + 1) := by omega
          exact hK.of Mo.rf (fun a b z => adv_r (by omega)) (fun a b z => by rw [hB8 a b (by omega) (by omega) (by omega) (by omega), ← hB7, up2_o (by omega)])
    · exact hl.of hM (fun x hx' => by
        rw [updN_n (show x ≠ m + 1 by omega)]
        refine ⟨rfl, ?_⟩
        rcases Nat.lt_or_ge x m with y | y
        · rw [updN_n (show x + 1 ≠ m + 1 by omega)]
          exact Nat.le_refl _
        · obtain rfl : x = m := by omega
          rw [updN_s]
          omega) (fun a b z => rA' a b (by omega)) (fun a b z => rB' a b (by omega))
    · exact ht.of hM (fun a b z => rA' a b (by omega)) (fun a b z => rB' a b (by omega))
  · right
    exact ⟨w, w1, w2, _, by rw [hR, w3], Wr_0⟩
/-- where both stand behind the word of an instruction -/
theorem ins_head (hP : P = 3 ∨ P = 18) (hZ : Z = 85 ∨ Z = 126) (h : Bq T L M K P Z u p n (m + 1) m s E F H G A B) (h1 : F (m + 1) < F m + 100) (ho : opw T p = some o) : ∃ A4 B5, Pa T L M K Z u (nx T p) A4 B5 ∧ p < nx T p ∧ x212 Z B (Int32.ofNat m) = insR Z (Int32.ofNat (F (m + 1))) (Int32.ofNat o) B5 ∧ x75 P A (Int32.ofNat o) = ((if Int32.ofNat (shp o) = 1 then (x77 A4 2147483647).bind fun q4 => some (tset q4.2 (P + 9) (Int32.ofNat (F (m + 1))) 1 q4.1) else if Int32.ofNat (shp o) = 2 then (x78 A4 15).bind fun q5 => some (tset q5.2 (P + 9) (Int32.ofNat (F (m + 1))) 1 q5.1) else if Int32.ofNat (shp o) = 3 then (x78 A4 15).bind fun q6 => (x77 (tset q6.2 (P + 9) (Int32.ofNat (F (m + 1))) 1 q6.1) 32767).bind fun q7 => some (tset q7.2 (P + 9) (Int32.ofNat (F (m + 1))) 2 q7.1) else if Int32.ofNat (shp o) = 4 then (x79 P A4 (Int32.ofNat (F (m + 1))) 1).bind fun q8 => some q8 else if Int32.ofNat (shp o) = 5 then (x79 P A4 (Int32.ofNat (F (m + 1))) 1).bind fun q9 => some q9 else if Int32.ofNat (shp o) = 6 then (x79 P A4 (Int32.ofNat (F (m + 1))) 1).bind fun q10 => (x79 P q10 (Int32.ofNat (F (m + 1))) 2).bind fun q11 => some q11 else if Int32.ofNat (shp o) = 7 then (x78 A4 65535).bind fun q12 => some (tset q12.2 (P + 9) (Int32.ofNat (F (m + 1))) 1 q12.1) else some A4).bind fun (q13 : St) => (x62 q13 59).bind fun q14 => some q14) ∧ (∀ a b, ((a ≠ 56 ∨ b = 4) ∧ (a ≠ P + 8 ∨ b ≠ 16 * m + 6) ∧ (a ≠ P + 9 ∨ b ≠ 3) ∧ (a ≠ 52 ∨ b ≠ 3) ∧ (a ≠ P + 10 ∨ b < 3 * F (m + 1)) ∧ (a ≠ 53 ∨ b < 3 * F (m + 1))) → A4 a b = A a b) ∧ (∀ a b, ((a ≠ Z ∨ (b ≠ 3 ∧ b ≠ 4)) ∧ (a < Z + 1 ∨ Z + 3 < a) ∧ (a ≠ 82 ∨ b < 11 ∨ 16 < b) ∧ a ≠ 84 ∧ (a < Z + 26 ∨ Z + 32 < a ∨ b < F (m + 1))) → B5 a b = B a b) ∧ A4 (P + 8) (16 * m + 6) = Int32.ofNat (F (m + 1) - F m + 1) ∧ A4 (P + 9) 3 = Int32.ofNat (F (m + 1) + 1) ∧ A4 52 3 = Int32.ofNat (F (m + 1) + 1) ∧ A4 (P + 10) (3 * F (m + 1)) = Int32.ofNat o ∧ A4 53 (3 * F (m + 1)) = Int32.ofNat p ∧ B5 (Z + 26) (F (m + 1)) = Int32.ofNat o ∧ B5 (Z + 28) (F (m + 1)) = Int32.ofNat p := by
  obtain ⟨hPa, hb, hf, hs, hc, hm, hz, hk, hl, ht, n1, n2, n3, n4, n5, n6, n7, n8⟩ := h
  obtain ⟨m1, m2, m3, m4⟩ := hm
  obtain ⟨q1, q2, q3, q4, q5, q6, q7, q8, q9⟩ := m4 m (by omega)
  obtain ⟨k1, k2, k3, k4, k5, k6⟩ := hk
  have k7 := (k5 m (by omega)).1
  have hp := hPa.le
  obtain ⟨o1, o2, o3⟩ := opw_A hPa.1 ho
  have h0 : cA T p ≠ 256 := fun z => by
    have e : rkd T p = 4 := (rkd_4 (by omega)).mpr z
    unfold opw at ho
    rw [if_neg (by rw [e]; decide)] at ho
    cases ho
  have hin : inb (Int32.ofNat (F (m + 1))) 2400 := (i32_inb (by omega)).mpr (by omega)
  have hcl : (Int32.ofNat (F (m + 1))).toNatClampNeg = F (m + 1) := i32_cl (by omega)
  have hin2 : inb (Int32.ofNat m) 24 := (i32_inb (by omega)).mpr (by omega)
  have hcl2 : (Int32.ofNat m).toNatClampNeg = m := i32_cl (by omega)
  -- the reference
  generalize hB0 : up2 (up2 (up2 (up2 (up2 B (Z + 26) (F (m + 1)) (Int32.ofNat o)) (Z + 28) (F (m + 1)) (Int32.ofNat p)) (Z + 29) (F (m + 1)) (-1)) (Z + 31) (F (m + 1)) (-1)) (Z + 27) (F (m + 1)) 0 = B0
  -- the class
  generalize hA3 : up2 (up2 (up2 (up2 (up2 A (P + 8) (16 * m + 6) (Int32.ofNat (F (m + 1) - F m + 1))) (P + 9) 3 (Int32.ofNat (F (m + 1) + 1))) 52 3 (Int32.ofNat (F (m + 1) + 1))) (P + 10) (3 * F (m + 1)) (Int32.ofNat o)) 53 (3 * F (m + 1)) (Int32.ofNat p) = A3
  have hPa3 : Pa T L M K Z u p A3 B0 := hPa.of (fun a b z => by rw [← hA3]; simp (disch := omega) only [up2_o]) (fun a b z => by rw [← hB0]; simp (disch := omega) only [up2_o])
  obtain ⟨B5, a1, a2, a3, a4⟩ := next_l hZ hPa3 h0
  have hB5 : ∀ a b, (a ≠ Z ∨ (b ≠ 3 ∧ b ≠ 4)) → (a < Z + 1 ∨ Z + 3 < a) → (a ≠ 82 ∨ b < 11 ∨ 16 < b) → a ≠ 84 → B5 a b = B0 a b := a3
  refine ⟨adv A3, B5, a2, a4, ?_, ?_, fun a b z => ?_, fun a b z => ?_, ?_, ?_, ?_, ?_, ?_, ?_, ?_⟩
  · have e1 : (if (B 82 12) = 5 then (x200 3 B).bind fun q1 => some (q1.1, q1.2) else some ((-1), B)) = some (Int32.ofNat o, B) := by
      unfold opw at ho
      split at ho
      · rename_i z
        rw [if_pos (hPa.2.1.2.1.2.1.trans z), x200_n hPa.2.1 (Or.inl rfl), Option.bind_some]
        show some (wv (wi wl3 (str T p) 0), B) = _
        rw [ho]
        rfl
      · cases ho
    have e2 : ¬ (Int32.ofNat (F (m + 1)) - Int32.ofNat (F m) = 100) := by
      rw [i32_sb k7]
      show ¬ Int32.ofNat _ = Int32.ofNat 100
      rw [i32_eq (by omega) (by omega)]
      omega
    rw [x212_h, e1, Option.bind_some]
    simp (disch := omega) only [if_neg (i32_m1 (show o < 2147483648 by omega)), if_pos hin2, hcl2, k3, q4, if_neg e2, if_pos hin, hcl, Lt, up2_o, hPa.at, hB0, a1, Option.bind_some]
  · have e0 : tset A (P + 7) (x72 P A) 6 ((tget A (P + 7) (x72 P A) 6) + 1) = up2 A (P + 8) (16 * m + 6) (Int32.ofNat (F (m + 1) - F m + 1)) := by
      simp (disch := omega) only [x72, m1, i32_p, tP7 hP, q5, i32_s]
    have e1 : tget A (P + 7) (x72 P A) 6 < 100 := by
      simp (disch := omega) only [x72, m1, i32_p, tP7 hP, q5]
      show Int32.ofNat _ < Int32.ofNat 100
      rw [i32_lt (by omega) (by omega)]
      omega
    obtain ⟨y1, y2⟩ := tadd_n (I := up2 A (P + 8) (16 * m + 6) (Int32.ofNat (F (m + 1) - F m + 1))) (k := P + 9) (n := F (m + 1)) (by rw [up2_o (by omega)]; exact k1) (by rcases hP with rfl | rfl <;> (show F (m + 1) < 1333; omega)) (by rcases hP with rfl | rfl <;> decide)
    obtain ⟨y3, y4⟩ := tadd_n (I := up2 (up2 A (P + 8) (16 * m + 6) (Int32.ofNat (F (m + 1) - F m + 1))) (P + 9) 3 (Int32.ofNat (F (m + 1) + 1))) (k := 52) (n := F (m + 1)) (by rw [up2_o (by omega), up2_o (by omega)]; exact k2) (by show F (m + 1) < 1333; omega) (by decide)
    have hx60 : x60 (up2 (up2 (up2 (up2 A (P + 8) (16 * m + 6) (Int32.ofNat (F (m + 1) - F m + 1))) (P + 9) 3 (Int32.ofNat (F (m + 1) + 1))) 52 3 (Int32.ofNat (F (m + 1) + 1))) (P + 10) (3 * F (m + 1)) (Int32.ofNat o)) = Int32.ofNat p := x60_n (hPa.1.of (fun a b z => by simp (disch := omega) only [up2_o]))
    have hadv : ∀ I : St, up2 I 56 3 (I 56 3 + 1) = adv I := fun _ => rfl
    unfold x75
    rw [if_pos e1, e0]
    simp only [Lt]
    rw [y1, y2, y3]
    simp (disch := omega) only [tP9 hP, t52, hx60, hA3, hadv, x76_n _ o3, Option.bind_some]
  · rw [adv_r (by omega), ← hA3]
    simp (disch := omega) only [up2_o]
  · rw [hB5 a b (by omega) (by omega) (by omega) (by omega), ← hB0]
    simp (disch := omega) only [up2_o]
  · rw [adv_r (by omega), ← hA3]
    simp (disch := omega) only [up2_o, up2_s]
  · rw [adv_r (by omega), ← hA3]
    simp (disch := omega) only [up2_o, up2_s]
  · rw [adv_r (by omega), ← hA3]
    simp (disch := omega) only [up2_o, up2_s]
  · rw [adv_r (by omega), ← hA3]
    simp (disch := omega) only [up2_o, up2_s]
  · rw [adv_r (by omega), ← hA3]
    simp (disch := omega) only [up2_o, up2_s]
  · rw [hB5 _ _ (by omega) (by omega) (by omega) (by omega), ← hB0]
    simp (disch := omega) only [up2_o, up2_s]
  · rw [hB5 _ _ (by omega) (by omega) (by omega) (by omega), ← hB0]
    simp (disch := omega) only [up2_o, up2_s]
end
