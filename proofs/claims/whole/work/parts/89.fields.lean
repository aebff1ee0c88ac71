/-! FIELDS and STATICS in lockstep -/
theorem E_le {E : Nat → Nat} {n : Nat} (h7 : E 7 = 0) (h : ∀ c, c < n → E (c + 1) ≤ E c + 8) : ∀ c, 7 ≤ c → c ≤ n → E c ≤ 8 * (c - 7) := by
  intro c
  induction c with
  | zero => intro h1; omega
  | succ c ih =>
    intro h1 h2
    rcases Nat.lt_or_ge c 7 with z | z
    · rw [show c + 1 = 7 by omega, h7]; omega
    · have h3 := ih z (by omega)
      have h4 := h c (by omega)
      omega
section
variable {T : Tp} {L M : List (List Nat)} {K P Z u p c k s : Nat} {E F H G : Nat → Nat} {A B : St}
theorem static_l (hP : P = 3 ∨ P = 18) (hZ : Z = 85 ∨ Z = 126) (h : Bq T L M K P Z u p (c + 1) k k s E F H G A B) (h7 : 7 ≤ c) (hs16 : s < 16) (h0 : cA T p ≠ 256) : (∃ M' u' p' A' B', x68 P A = some A' ∧ x208 Z B (Int32.ofNat c) = some (.inr B') ∧ Bq T L M' K P Z u' p' (c + 1) k k (s + 1) E F H G A' B' ∧ A' 56 4 = A 56 4 ∧ p < p') ∨ Bad (x68 P A) (x208 Z B (Int32.ofNat c)) := by
  obtain ⟨hPa, hb, hf, hs, hc, hm, hz, hk, hl, ht, n1, n2, n3, n4, n5, n6, n7, n8⟩ := h
  obtain ⟨i1, i2, i3, i4⟩ := hc
  have hE := E_le n5 (fun x hx => (i4 x (by omega)).2.2.2.2.1) (c + 1) (by omega) (Nat.le_refl _)
  have hE2 := E_le n5 (fun x hx => (i4 x (by omega)).2.2.2.2.1) c h7 (by omega)
  have hEc := (i4 c (by omega)).2.2.2.1
  obtain ⟨j1, j2, j3⟩ := hs
  have hXs : x68 P A = (x66 (P + 5) P A 0).bind fun q1 => (x67 q1.2 0).bind fun q2 => (x62 (tset q2.2 (P + 5) q1.1 3 q2.1) 59) := by
    unfold x68
    rw [j1, if_pos (show Int32.ofNat s < 16 by show _ < Int32.ofNat 16; rw [i32_lt (by omega) (by decide)]; omega)]
    simp only [Option.bind_fun_some]
  have hPa1 := hPa
  have hb1 := hb
  rcases member_l hP hZ (k := P + 5) (R := 16) (C := 4) (n := s) (c := c) (by omega) hPa1 h0 hb1 (by omega) j1 (by omega) i1 0 with ⟨i, r, M', u', B1, B2, B3, a1, a2, a3, a4, a5, a6, a7, a8, a9, a10, a11, a12, a13, a14⟩ | ⟨w, v, J, B1, w1, w2, w3, w4, w5⟩
  · generalize hAm : memA (P + 5) 4 (s) (E (c + 1) + s + k) c i (nx T p) 0 A = Am at a1 a6 a9
    have rAm : ∀ a d, ((a ≠ 56 ∨ (d ≠ 3 ∧ d ≠ 6)) ∧ (a ≠ P + 5 ∨ d ≠ 3) ∧ (a ≠ P + 6 ∨ d < 4 * s) ∧ (a ≠ 46 ∨ d ≠ 3) ∧ a ≠ 47) → Am a d = A a d := fun a d z => by
      rw [← hAm]
      unfold memA
      simp (disch := omega) only [up2_o, nmA_r, adv_r]
    have hin : inb (Int32.ofNat (s)) 16 := (i32_inb (by omega)).mpr (by omega)
    have hcl : (Int32.ofNat (s)).toNatClampNeg = s := i32_cl (by omega)
    have hz6 : B3 Z 6 = Int32.ofNat (s) := by rw [a10 _ _ (by omega)]; exact j2
    have hX : x68 P A = (x67 Am 0).bind fun q2 => (x62 (tset q2.2 (P + 5) (Int32.ofNat (s)) 3 q2.1) 59) := by
      rw [hXs, a1, Option.bind_some]
    generalize hB4 : up2 (up2 B3 (Z + 12) (s) (Int32.ofNat c)) (Z + 13) (s) (Int32.ofNat r) = B4
    have hY : x208 Z B (Int32.ofNat c) = (x207 B4 0).bind (elm fun q4 => x204 (up2 (up2 q4.2 (Z + 14) (s) q4.1) Z 6 (((up2 q4.2 (Z + 14) (s) q4.1) Z 6) + 1)) 59) := by
      unfold x208
      rw [a2, Option.bind_some, a3, Option.bind_some, Sum.elim_inr]
      dsimp only
      rw [a5, a4, Option.bind_some]
      simp only [hz6, hcl, if_pos hin, hB4, Lt, bs_i]
    have rB4 : ∀ a d, ((a ≠ Z ∨ (d ≠ 3 ∧ d ≠ 4)) ∧ (a < Z + 1 ∨ Z + 3 < a) ∧ (a ≠ 82 ∨ ((d < 11 ∨ 16 < d) ∧ d ≠ 20)) ∧ a ≠ 84 ∧ (a < 171 ∨ 173 < a) ∧ ((a ≠ Z + 12 ∧ a ≠ Z + 13) ∨ d ≠ s)) → B4 a d = B a d := fun a d z => by
      rw [← hB4, up2_o (by omega), up2_o (by omega), a10 a d (by omega)]
    have hPa4 : Pa T L M' K Z u' (nx T (nx T p)) Am B4 := a6.of (fun _ _ _ => rfl) (fun a b z => by rw [← hB4, up2_o (by omega), up2_o (by omega)])
    rcases kindsemi_l hP hZ (k := P + 5) (R := 16) (C := 4) (n := s) (zk := Z + 14) (zn := 6) (by omega) hPa4 (by omega) (by omega) (by rw [rB4 _ _ (by omega)]; exact j2) with ⟨d, B5, p', e1, e2, e3, e4, e5, e6, e7, e8⟩ | hbad
    · left
      have rA : ∀ a d', ((a ≠ 56 ∨ (d' ≠ 3 ∧ d' ≠ 6)) ∧ (a ≠ P + 5 ∨ d' ≠ 3) ∧ (a ≠ P + 6 ∨ d' < 4 * s) ∧ (a ≠ 46 ∨ d' ≠ 3) ∧ a ≠ 47) → adv (up2 (adv Am) (P + 5 + 1) (4 * s + 3) (Int32.ofNat d)) a d' = A a d' := fun a d' z => by
        rw [adv_r (by omega), up2_o (by omega), adv_r (by omega), rAm a d' (by omega)]
      have rB : ∀ a d', ((a ≠ Z ∨ (d' ≠ 3 ∧ d' ≠ 4 ∧ d' ≠ 6)) ∧ (a < Z + 1 ∨ Z + 3 < a) ∧ (a ≠ 82 ∨ ((d' < 11 ∨ 16 < d') ∧ d' ≠ 20)) ∧ a ≠ 84 ∧ (a < 171 ∨ 173 < a) ∧ ((a < Z + 12 ∨ Z + 14 < a) ∨ d' < s)) → B5 a d' = B a d' := fun a d' z => by
        rw [e8 a d' (by omega), rB4 a d' (by omega)]
      refine ⟨M', u', p', _, B5, by rw [hX]; exact e1, by rw [hY]; exact e2, ⟨e3, ?_, ?_, ?_, ?_, ?_, ?_, ?_, ?_, ?_, n1, n2, n3, by omega, n5, by omega, by omega, n8.of (fun a b z => rB a b (by omega))⟩, rA _ _ (by omega), by omega⟩
      · have : CB L M' (E (c + 1) + s + k + 1) (adv (up2 (adv Am) (P + 5 + 1) (4 * s + 3) (Int32.ofNat d))) B5 := a9.of Mo.rf (fun a d' z => by rw [adv_r (by omega), up2_o (by omega), adv_r (by omega)]) (fun a d' z => by rw [e8 a d' (by omega), ← hB4, up2_o (by omega), up2_o (by omega)])
        skip
        have e : E (c + 1) + (s + 1) + k = E (c + 1) + s + k + 1 := by omega
        rw [e]
        exact this
      · exact hf.of a7 (fun a b z => rA a b (by omega)) (fun a b z => rB a b (by omega))
      · refine ⟨?_, ?_, fun x hx => ?_⟩
        · rw [adv_r (by omega), up2_o (by omega), adv_r (by omega), ← hAm]
          unfold memA
          simp (disch := omega) only [up2_o, up2_e]
        · rw [e7]
        · rcases Nat.lt_or_ge x (s) with y | y
          · have := j3 x y
            simp (disch := omega) only [rA, rB]
            exact ⟨this.1, this.2.1.mono a7, this.2.2⟩
          · have hxs : x = s := by omega
            rw [hxs]
            have q1 : Am (P + 6) (4 * s) = Int32.ofNat c := by
              rw [← hAm]; unfold memA; simp (disch := omega) only [up2_o, up2_e]
            have q2 : Am (P + 6) (4 * s + 1) = Int32.ofNat i := by
              rw [← hAm]; unfold memA; simp (disch := omega) only [up2_o, up2_e]
            have q3 : Am (P + 6) (4 * s + 2) = 0 := by
              rw [← hAm]; unfold memA; simp (disch := omega) only [up2_o, up2_e]
            have q4 : B5 (Z + 12) (s) = Int32.ofNat c := by
              rw [e8 _ _ (by omega), ← hB4, up2_o (by omega), up2_s]
            have q5 : B5 (Z + 13) (s) = Int32.ofNat r := by
              rw [e8 _ _ (by omega), ← hB4, up2_s]
            rw [q4, q5, e6]
            simp (disch := omega) only [adv_r, up2_o, up2_e, q1, q2, q3]
            exact ⟨trivial, a8, trivial, trivial, by rcases e5 with e5 | e5 <;> rw [e5] <;> decide, c, by omega, rfl⟩
      · exact CC.of ⟨i1, i2, i3, i4⟩ a7 (fun a b z => rA a b (by omega)) (fun a b z => rB a b (by omega))
      · exact hm.of a7 (fun a b z => rA a b (by omega)) (fun a b z => rB a b (by omega))
      · exact hz.of (fun _ _ => rfl) (fun a b z => rA a b (by omega)) (fun a b z => rB a b (by omega))
      · exact hk.of a7 (fun a b z => rA a b (by omega)) (fun a b z => rB a b (by omega))
      · exact hl.of a7 (fun _ _ => ⟨rfl, Nat.le_refl _⟩) (fun a b z => rA a b (by omega)) (fun a b z => rB a b (by omega))
      · exact ht.of a7 (fun a b z => rA a b (by omega)) (fun a b z => rB a b (by omega))
    · right
      obtain ⟨w, A', B', w1, w2, w3, w4, w5⟩ := hbad
      exact ⟨w, A', B', w1, by rw [hX]; exact w2, by rw [hY]; exact w3, w4, w5⟩
  · right
    obtain ⟨k1, k2, k3, k4, k5⟩ := sfk2 hP (k := P + 5) (R := 16) (C := 4) (by omega)
    have hE : Er J := er_of (by omega) w3
    have sk : sf (P + 5) 2 ≠ 56 := by rw [k5]; omega
    refine ⟨w, _, Wr B1 w, w1, ?_, ?_, (Sw.rf.ts sk : Sw J (tset J (P + 5) v 3 0)).trans w3, Wr_0⟩
    · rw [hXs, w2, Option.bind_some]
      dsimp only
      rw [x67_e hE, Option.bind_some]
      dsimp only
      rw [x62_e (hE.sw (Sw.rf.ts sk))]
    · unfold x208
      rw [w4, Option.bind_some, w5]
      rfl
theorem field_l (hP : P = 3 ∨ P = 18) (hZ : Z = 85 ∨ Z = 126) (h : Bq T L M K P Z u p (c + 1) k k s E F H G A B) (h7 : 7 ≤ c) (h8 : E (c + 1) < E c + 8) (h0 : cA T p ≠ 256) : (∃ M' u' p' A' B', x64 P A = some A' ∧ x205 Z B (Int32.ofNat c) = some (.inr B') ∧ Bq T L M' K P Z u' p' (c + 1) k k s (updN E (c + 1) (E (c + 1) + 1)) F H G A' B' ∧ A' 56 4 = A 56 4 ∧ p < p') ∨ Bad (x64 P A) (x205 Z B (Int32.ofNat c)) := by
  obtain ⟨hPa, hb, hf, hs, hc, hm, hz, hk, hl, ht, n1, n2, n3, n4, n5, n6, n7, n8⟩ := h
  obtain ⟨i1, i2, i3, i4⟩ := hc
  have hE := E_le n5 (fun x hx => (i4 x (by omega)).2.2.2.2.1) (c + 1) (by omega) (Nat.le_refl _)
  have hE2 := E_le n5 (fun x hx => (i4 x (by omega)).2.2.2.2.1) c h7 (by omega)
  have hEc := (i4 c (by omega)).2.2.2.1
  obtain ⟨j1, j2, j3⟩ := hf
  generalize hA1 : up2 A (P + 2) (6 * c + 3) (Int32.ofNat (E (c + 1) - E c + 1)) = A1
  have rA1 : ∀ a d, (a ≠ P + 2 ∨ d ≠ 6 * c + 3) → A1 a d = A a d := fun a d z => by rw [← hA1, up2_o z]
  have hXs : x64 P A = (x66 (P + 3) P A1 0).bind fun q1 => (x67 q1.2 0).bind fun q2 => (x62 (tset q2.2 (P + 3) q1.1 3 q2.1) 59) := by
    have e0 : tget A (P + 1) (x65 P A) 3 = Int32.ofNat (E (c + 1) - E c) := by
      simp (disch := omega) only [x65, i1, i32_p, tP1 hP]
      exact (i4 c (by omega)).2.2.1
    have e1 : tset A (P + 1) (x65 P A) 3 (Int32.ofNat (E (c + 1) - E c) + 1) = A1 := by
      simp (disch := omega) only [x65, i1, i32_p, tP1 hP, i32_s]
      exact hA1
    unfold x64
    rw [e0, e1, if_pos (show Int32.ofNat (E (c + 1) - E c) < 8 by show _ < Int32.ofNat 8; rw [i32_lt (by omega) (by decide)]; omega)]
    simp only [Option.bind_fun_some]
  have hPa1 : Pa T L M K Z u p A1 B := hPa.of (fun a b z => rA1 a b (by omega)) (fun _ _ _ => rfl)
  have hb1 : CB L M (E (c + 1) + s + k) A1 B := hb.of Mo.rf (fun a b z => rA1 a b (by omega)) (fun _ _ _ => rfl)
  rcases member_l hP hZ (k := P + 3) (R := 96) (C := 5) (n := E (c + 1)) (c := c) (by omega) hPa1 h0 hb1 (by omega) (by rw [rA1 _ _ (by omega)]; exact j1) (by omega) (by rw [rA1 _ _ (by omega)]; exact i1) 0 with ⟨i, r, M', u', B1, B2, B3, a1, a2, a3, a4, a5, a6, a7, a8, a9, a10, a11, a12, a13, a14⟩ | ⟨w, v, J, B1, w1, w2, w3, w4, w5⟩
  · generalize hAm : memA (P + 3) 5 (E (c + 1)) (E (c + 1) + s + k) c i (nx T p) 0 A1 = Am at a1 a6 a9
    have rAm : ∀ a d, ((a ≠ 56 ∨ (d ≠ 3 ∧ d ≠ 6)) ∧ (a ≠ P + 3 ∨ d ≠ 3) ∧ (a ≠ P + 4 ∨ d < 5 * E (c + 1)) ∧ (a ≠ 46 ∨ d ≠ 3) ∧ a ≠ 47) → Am a d = A1 a d := fun a d z => by
      rw [← hAm]
      unfold memA
      simp (disch := omega) only [up2_o, nmA_r, adv_r]
    have hin : inb (Int32.ofNat (E (c + 1))) 100 := (i32_inb (by omega)).mpr (by omega)
    have hcl : (Int32.ofNat (E (c + 1))).toNatClampNeg = E (c + 1) := i32_cl (by omega)
    have hz6 : B3 Z 7 = Int32.ofNat (E (c + 1)) := by rw [a10 _ _ (by omega)]; exact j2
    have hX : x64 P A = (x67 Am 0).bind fun q2 => (x62 (tset q2.2 (P + 3) (Int32.ofNat (E (c + 1))) 3 q2.1) 59) := by
      rw [hXs, a1, Option.bind_some]
    generalize hB4 : up2 (up2 B3 (Z + 9) (E (c + 1)) (Int32.ofNat c)) (Z + 10) (E (c + 1)) (Int32.ofNat r) = B4
    have hY : x205 Z B (Int32.ofNat c) = (x207 B4 0).bind (elm fun q4 => x204 (up2 (up2 q4.2 (Z + 11) (E (c + 1)) q4.1) Z 7 (((up2 q4.2 (Z + 11) (E (c + 1)) q4.1) Z 7) + 1)) 59) := by
      unfold x205
      rw [a2, Option.bind_some, a3, Option.bind_some, Sum.elim_inr]
      dsimp only
      rw [a5, a4, Option.bind_some]
      simp only [hz6, hcl, if_pos hin, hB4, Lt, bs_i]
    have rB4 : ∀ a d, ((a ≠ Z ∨ (d ≠ 3 ∧ d ≠ 4)) ∧ (a < Z + 1 ∨ Z + 3 < a) ∧ (a ≠ 82 ∨ ((d < 11 ∨ 16 < d) ∧ d ≠ 20)) ∧ a ≠ 84 ∧ (a < 171 ∨ 173 < a) ∧ ((a ≠ Z + 9 ∧ a ≠ Z + 10) ∨ d ≠ E (c + 1))) → B4 a d = B a d := fun a d z => by
      rw [← hB4, up2_o (by omega), up2_o (by omega), a10 a d (by omega)]
    have hPa4 : Pa T L M' K Z u' (nx T (nx T p)) Am B4 := a6.of (fun _ _ _ => rfl) (fun a b z => by rw [← hB4, up2_o (by omega), up2_o (by omega)])
    rcases kindsemi_l hP hZ (k := P + 3) (R := 96) (C := 5) (n := E (c + 1)) (zk := Z + 11) (zn := 7) (by omega) hPa4 (by omega) (by omega) (by rw [rB4 _ _ (by omega)]; exact j2) with ⟨d, B5, p', e1, e2, e3, e4, e5, e6, e7, e8⟩ | hbad
    · left
      have rA : ∀ a d', ((a ≠ 56 ∨ (d' ≠ 3 ∧ d' ≠ 6)) ∧ (a ≠ P + 3 ∨ d' ≠ 3) ∧ (a ≠ P + 4 ∨ d' < 5 * E (c + 1)) ∧ (a ≠ 46 ∨ d' ≠ 3) ∧ a ≠ 47 ∧ (a ≠ P + 2 ∨ d' ≠ 6 * c + 3)) → adv (up2 (adv Am) (P + 3 + 1) (5 * E (c + 1) + 3) (Int32.ofNat d)) a d' = A a d' := fun a d' z => by
        rw [adv_r (by omega), up2_o (by omega), adv_r (by omega), rAm a d' (by omega), rA1 a d' (by omega)]
      have rB : ∀ a d', ((a ≠ Z ∨ (d' ≠ 3 ∧ d' ≠ 4 ∧ d' ≠ 7)) ∧ (a < Z + 1 ∨ Z + 3 < a) ∧ (a ≠ 82 ∨ ((d' < 11 ∨ 16 < d') ∧ d' ≠ 20)) ∧ a ≠ 84 ∧ (a < 171 ∨ 173 < a) ∧ ((a < Z + 9 ∨ Z + 11 < a) ∨ d' < E (c + 1))) → B5 a d' = B a d' := fun a d' z => by
        rw [e8 a d' (by omega), rB4 a d' (by omega)]
      refine ⟨M', u', p', _, B5, by rw [hX]; exact e1, by rw [hY]; exact e2, ⟨e3, ?_, ?_, ?_, ?_, ?_, ?_, ?_, ?_, ?_, n1, n2, n3, n4, by rw [updN_n (by omega)]; exact n5, by omega, by omega, n8.of (fun a b z => rB a b (by omega))⟩, rA _ _ (by omega), by omega⟩
      · have : CB L M' (E (c + 1) + s + k + 1) (adv (up2 (adv Am) (P + 3 + 1) (5 * E (c + 1) + 3) (Int32.ofNat d))) B5 := a9.of Mo.rf (fun a d' z => by rw [adv_r (by omega), up2_o (by omega), adv_r (by omega)]) (fun a d' z => by rw [e8 a d' (by omega), ← hB4, up2_o (by omega), up2_o (by omega)])
        rw [updN_s]
        have e : E (c + 1) + 1 + s + k = E (c + 1) + s + k + 1 := by omega
        rw [e]
        exact this
      · refine ⟨?_, ?_, fun x hx => ?_⟩
        · rw [adv_r (by omega), up2_o (by omega), adv_r (by omega), ← hAm]
          unfold memA
          simp (disch := omega) only [up2_o, up2_e, updN_s]
        · rw [e7, updN_s]
        · rw [updN_s] at hx
          rcases Nat.lt_or_ge x (E (c + 1)) with y | y
          · have := j3 x y
            simp (disch := omega) only [rA, rB]
            exact ⟨this.1, this.2.1.mono a7, this.2.2⟩
          · have hxs : x = E (c + 1) := by omega
            rw [hxs]
            have q1 : Am (P + 4) (5 * E (c + 1)) = Int32.ofNat c := by
              rw [← hAm]; unfold memA; simp (disch := omega) only [up2_o, up2_e]
            have q2 : Am (P + 4) (5 * E (c + 1) + 1) = Int32.ofNat i := by
              rw [← hAm]; unfold memA; simp (disch := omega) only [up2_o, up2_e]
            have q3 : Am (P + 4) (5 * E (c + 1) + 2) = 0 := by
              rw [← hAm]; unfold memA; simp (disch := omega) only [up2_o, up2_e]
            have q4 : B5 (Z + 9) (E (c + 1)) = Int32.ofNat c := by
              rw [e8 _ _ (by omega), ← hB4, up2_o (by omega), up2_s]
            have q5 : B5 (Z + 10) (E (c + 1)) = Int32.ofNat r := by
              rw [e8 _ _ (by omega), ← hB4, up2_s]
            rw [q4, q5, e6]
            simp (disch := omega) only [adv_r, up2_o, up2_e, q1, q2, q3]
            exact ⟨trivial, a8, trivial, trivial, by rcases e5 with e5 | e5 <;> rw [e5] <;> decide, c, by omega, rfl⟩
      · exact hs.of a7 (fun a b z => rA a b (by omega)) (fun a b z => rB a b (by omega))
      · refine ⟨by rw [rA _ _ (by omega)]; exact i1, by rw [rA _ _ (by omega)]; exact i2, by rw [rB _ _ (by omega)]; exact i3, fun x hx => ?_⟩
        obtain ⟨g1, g2, g3, g4, g5, g6, g7⟩ := i4 x hx
        have hmc : mcn (B5 (Z + 15)) (Int32.ofNat x) k = mcn (B (Z + 15)) (Int32.ofNat x) k := mcn_of k (fun y hy => rB _ _ (by omega))
        rw [updN_n (show x ≠ c + 1 by omega), hmc]
        refine ⟨g1.of a7 (fun a b z => rA a b (by omega)) (fun a b z => rB a b (by omega)), by rw [rA _ _ (by omega)]; exact g2, ?_⟩
        rcases Nat.lt_or_ge x c with y | y
        · rw [updN_n (show x + 1 ≠ c + 1 by omega)]
          have hmo := mono_le (F := E) (k := c + 1) (fun a ha => (i4 a ha).2.2.2.1) (x + 1) (c + 1) (by omega) (by omega)
          refine ⟨by rw [rA _ _ (by omega)]; exact g3, g4, g5, fun f z1 z2 => by rw [rB _ _ (by omega)]; exact g6 f z1 z2, by rw [rA _ _ (by omega)]; exact g7⟩
        · obtain rfl : x = c := by omega
          rw [updN_s]
          refine ⟨?_, by omega, by omega, fun f z1 z2 => ?_, by rw [rA _ _ (by omega)]; exact g7⟩
          · rw [adv_r (by omega), up2_o (by omega), adv_r (by omega), rAm _ _ (by omega), ← hA1, up2_s]
            congr 1
            omega
          · rcases Nat.lt_or_ge f (E (x + 1)) with y2 | y2
            · rw [rB _ _ (by omega)]
              exact g6 f z1 y2
            · obtain rfl : f = E (x + 1) := by omega
              rw [e8 _ _ (by omega), ← hB4, up2_o (by omega), up2_s]
      · exact hm.of a7 (fun a b z => rA a b (by omega)) (fun a b z => rB a b (by omega))
      · exact hz.of (fun _ _ => rfl) (fun a b z => rA a b (by omega)) (fun a b z => rB a b (by omega))
      · exact hk.of a7 (fun a b z => rA a b (by omega)) (fun a b z => rB a b (by omega))
      · exact hl.of a7 (fun _ _ => ⟨rfl, Nat.le_refl _⟩) (fun a b z => rA a b (by omega)) (fun a b z => rB a b (by omega))
      · exact ht.of a7 (fun a b z => rA a b (by omega)) (fun a b z => rB a b (by omega))
    · right
      obtain ⟨w, A', B', w1, w2, w3, w4, w5⟩ := hbad
      exact ⟨w, A', B', w1, by rw [hX]; exact w2, by rw [hY]; exact w3, w4, w5⟩
  · right
    obtain ⟨k1, k2, k3, k4, k5⟩ := sfk2 hP (k := P + 3) (R := 96) (C := 5) (by omega)
    have hE : Er J := er_of (by omega) w3
    have sk : sf (P + 3) 2 ≠ 56 := by rw [k5]; omega
    refine ⟨w, _, Wr B1 w, w1, ?_, ?_, (Sw.rf.ts sk : Sw J (tset J (P + 3) v 3 0)).trans w3, Wr_0⟩
    · rw [hXs, w2, Option.bind_some]
      dsimp only
      rw [x67_e hE, Option.bind_some]
      dsimp only
      rw [x62_e (hE.sw (Sw.rf.ts sk))]
    · unfold x205
      rw [w4, Option.bind_some, w5]
      rfl
end
