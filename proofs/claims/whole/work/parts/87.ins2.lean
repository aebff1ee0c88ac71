/-! AN INSTRUCTION in lockstep: shape by shape -/
section
variable {T : Tp} {L M M' : List (List Nat)} {K P Z u u' p p' n m q s o : Nat} {E F H G : Nat → Nat} {A B A5 B6 : St}
theorem ins_out (hP : P = 3 ∨ P = 18) (hZ : Z = 85 ∨ Z = 126) (h : Bq T L M K P Z u p n (m + 1) m s E F H G A B) (h1 : F (m + 1) < F m + 100) {X : Option St} {Y : Option (St ⊕ St)} (hX : X = x62 A5 59) (hY : Y = fin9 Z B6) (hPa5 : Pa T L M' K Z u' p' A5 B6) (hp : p < p') (hM : Mo M M') (hK : K1 L M' P Z (F (m + 1)) A5 B6) (rA : ∀ a b, ((a ≠ 56 ∨ b = 4) ∧ (a ≠ P + 8 ∨ b ≠ 16 * m + 6) ∧ (a ≠ P + 9 ∨ b ≠ 3) ∧ (a ≠ 52 ∨ b ≠ 3) ∧ (a ≠ P + 10 ∨ b < 3 * F (m + 1)) ∧ (a ≠ 53 ∨ b < 3 * F (m + 1))) → A5 a b = A a b) (rB : ∀ a b, ((a ≠ Z ∨ (b ≠ 3 ∧ b ≠ 4)) ∧ (a < Z + 1 ∨ Z + 3 < a) ∧ (a ≠ 82 ∨ b < 11 ∨ 16 < b) ∧ a ≠ 84 ∧ (a < Z + 26 ∨ Z + 32 < a ∨ b < F (m + 1))) → B6 a b = B a b) (e1 : A5 (P + 8) (16 * m + 6) = Int32.ofNat (F (m + 1) - F m + 1)) (e2 : A5 (P + 9) 3 = Int32.ofNat (F (m + 1) + 1)) (e3 : A5 52 3 = Int32.ofNat (F (m + 1) + 1)) : (∃ M' u' p' A' B', X = some A' ∧ Y = some (.inr B') ∧ Bq T L M' K P Z u' p' n (m + 1) m s E (updN F (m + 1) (F (m + 1) + 1)) H G A' B' ∧ A' 56 4 = A 56 4 ∧ p < p') ∨ Bad X Y := by
  rcases ins_fin hP hZ h h1 hPa5 hp hM hK rA rB e1 e2 e3 with ⟨p'', A', B', f1, f2, f3, f4, f5⟩ | ⟨w, w1, w2, B', w3, w4⟩
  · left
    exact ⟨M', u', p'', A', B', hX.trans f1, hY.trans f2, f3, f4, f5⟩
  · right
    exact ⟨w, _, B', w1, hX.trans w2, hY.trans w3, wrC_5, w4⟩
/-- a name that is told to an instruction -/
theorem told_l (hP : P = 3 ∨ P = 18) (hZ : Z = 85 ∨ Z = 126) (h : Pa T L M K Z u p A B) {i j za : Nat} {x : Int32} (hx : x = Int32.ofNat j) (hj : j = 1 ∨ j = 2) (hi : i < 1333) (hza : Z + 26 ≤ za ∧ za ≤ Z + 32) : (∃ a r M' u' B', x79 P A (Int32.ofNat i) x = some (up2 (up2 (nmA A p) (P + 10) (3 * i + j) (Int32.ofNat a)) 53 (3 * i + j) (Int32.ofNat p)) ∧ x201 Z (up2 B za i (B 82 13)) = some (.inr (Int32.ofNat r, B')) ∧ Pa T L M' K Z u' (nx T p) (up2 (up2 (nmA A p) (P + 10) (3 * i + j) (Int32.ofNat a)) 53 (3 * i + j) (Int32.ofNat p)) B' ∧ Kp Z (up2 B za i (Int32.ofNat p)) B' ∧ Mo M M' ∧ NE L M' (Int32.ofNat a) (Int32.ofNat r) ∧ p < nx T p) ∨ (∃ w A' B', w < 2000 ∧ x79 P A (Int32.ofNat i) x = some A' ∧ x201 Z (up2 B za i (B 82 13)) = some (.inl B') ∧ A' 56 5 = Int32.ofNat w ∧ B' 84 0 = Int32.ofNat w) := by
  rw [h.at]
  have hPa0 : Pa T L M K Z u p A (up2 B za i (Int32.ofNat p)) := h.of (fun _ _ _ => rfl) (fun a b z => up2_o (by omega))
  have ts1 : ∀ (I : St) (v : Int32), tset I (P + 9) (Int32.ofNat i) x v = up2 I (P + 10) (3 * i + j) v := fun I v => by
    rcases hP with rfl | rfl
    all_goals exact ts_n (by decide) (by decide) hi hx (by show j < 3; omega)
  have ts2 : ∀ (I : St) (v : Int32), tset I 52 (Int32.ofNat i) x v = up2 I 53 (3 * i + j) v := fun I v => ts_n (by decide) (by decide) hi hx (by show j < 3; omega)
  rcases name_l hZ hPa0 with ⟨a, r, sx, M', u', B1, a1, a2, a3, a4, a5, a6, a7, a8, a9, a10⟩ | ⟨w, w1, w2, w3⟩
  · left
    refine ⟨a, r, M', u', B1, ?_, a2, a3.of (fun a b z => by simp (disch := omega) only [up2_o]) (fun _ _ _ => rfl), a4, a5, ⟨a, r, sx, rfl, rfl, a6, a7⟩, a10⟩
    unfold x79
    rw [a1, Option.bind_some]
    simp (disch := omega) only [ts1, ts2, up2_o, nmA_6]
  · right
    obtain ⟨s1, s2, s3, s4, s5, s6, s7⟩ := sfP hP
    refine ⟨w, _, _, w1, by unfold x79; rw [w2, Option.bind_some], w3, ?_, Wr_0⟩
    exact ((Sw.rf.ts (by omega)).ts (by decide)).trans (wrC_5 (A := A))
theorem ins_l (hP : P = 3 ∨ P = 18) (hZ : Z = 85 ∨ Z = 126) (h : Bq T L M K P Z u p n (m + 1) m s E F H G A B) (h1 : F (m + 1) < F m + 100) (ho : opw T p = some o) : (∃ M' u' p' A' B', x75 P A (Int32.ofNat o) = some A' ∧ x212 Z B (Int32.ofNat m) = some (.inr B') ∧ Bq T L M' K P Z u' p' n (m + 1) m s E (updN F (m + 1) (F (m + 1) + 1)) H G A' B' ∧ A' 56 4 = A 56 4 ∧ p < p') ∨ Bad (x75 P A (Int32.ofNat o)) (x212 Z B (Int32.ofNat m)) := by
  have hp := h.1.le
  have hFp := h.2.2.2.2.2.2.2.2.2.2.2.2.2.2.2.1
  obtain ⟨o1, o2, o3⟩ := opw_A h.1.1 ho
  obtain ⟨A4, B5, g1, g2, hR, hX, rA, rB, c1, c2, c3, c4, c5, c6, c7⟩ := ins_head hP hZ h h1 ho
  have hin : inb (Int32.ofNat (F (m + 1))) 2400 := (i32_inb (by omega)).mpr (by omega)
  have hcl : (Int32.ofNat (F (m + 1))).toNatClampNeg = F (m + 1) := i32_cl (by omega)
  have hpl : Plc (Int32.ofNat p) := ⟨p, by omega, rfl⟩
  have hpn := g1.le
  have hpl2 : Plc (Int32.ofNat (nx T p)) := ⟨nx T p, by omega, rfl⟩
  obtain ⟨s1, s2, s3, s4, s5, s6, s7⟩ := sfP hP
  have hs8 := shp_le o o3
  have hsh : shp o = 0 ∨ shp o = 1 ∨ (shp o = 2 ∨ shp o = 7) ∨ shp o = 3 ∨ (shp o = 4 ∨ shp o = 5) ∨ shp o = 6 := by omega
  rcases hsh with hs | hs | hs | hs | hs | hs
  · -- nothing
    rw [hs] at hX
    simp (decide := true) only [if_true, if_false, Option.bind_some, Option.bind_fun_some] at hX
    rw [insR_0 o3 hs] at hR
    exact ins_out hP hZ h h1 hX hR g1 g2 Mo.rf ⟨o, o3, c4, c6, by rw [c5, c7], by rw [c7]; exact hpl, fun z => by omega, fun z => by omega, fun z => by omega, fun z => by omega, fun z => by omega⟩ rA rB c1 c2 c3
  · -- push
    rw [hs] at hX
    simp (decide := true) only [if_true, if_false, Option.bind_fun_some] at hX
    rw [insR_1 o3 hs hin, hcl] at hR
    rcases signed_l hZ g1 (m := 2147483647) (x := 2147483647) (y := -1) (push := true) rfl (by decide) (by simp) rfl with ⟨v, q, A5, B6, e1, e2, e3, e4, e5, e6⟩ | ⟨w, v, A5, B6, w1, w2, w3, w4, w5⟩
    · have e4' : ∀ a b, (a ≠ Z ∨ (b ≠ 3 ∧ b ≠ 4)) → (a < Z + 1 ∨ Z + 3 < a) → (a ≠ 82 ∨ b < 11 ∨ 16 < b) → a ≠ 84 → B6 a b = B5 a b := e4
      rw [e1, Option.bind_some, Option.bind_some] at hX
      rw [e2, Option.bind_some] at hR
      simp only [elm, Sum.elim_inr] at hR
      simp (disch := omega) only [tP9 hP] at hX
      refine ins_out hP hZ h h1 hX hR (e3.of (fun a b z => up2_o (by omega)) (fun a b z => up2_o (by omega))) (by omega) Mo.rf ?_ (fun a b z => by rw [up2_o (by omega), e5 a b (by omega), rA a b z]) (fun a b z => by rw [up2_o (by omega), e4' a b (by omega) (by omega) (by omega) (by omega), rB a b z]) (by rw [up2_o (by omega), e5 _ _ (by omega), c1]) (by rw [up2_o (by omega), e5 _ _ (by omega), c2]) (by rw [up2_o (by omega), e5 _ _ (by omega), c3])
      refine ⟨o, o3, ?_⟩
      simp (disch := omega) only [up2_o, up2_s, e5, e4', c4, c5, c6, c7]
      exact ⟨trivial, trivial, trivial, hpl, fun _ => trivial, fun z => by omega, fun z => by omega, fun z => by omega, fun z => by omega⟩
    · right
      rw [w2, Option.bind_some, Option.bind_some, x62_e ((er_of (by omega) w4).sw (Sw.rf.ts (by omega)))] at hX
      rw [w3] at hR
      exact ⟨w, _, _, w1, hX, hR, (Sw.rf.ts (by omega) : Sw A5 _).trans w4, w5⟩
  · -- a local, a channel, marks
    obtain ⟨mx, x, hm1, hm2, hX, hR, hb⟩ : ∃ mx x, x = Int32.ofNat mx ∧ mx < 2147483648 ∧ (x75 P A (Int32.ofNat o) = (x78 A4 x).bind fun q5 => x62 (tset q5.2 (P + 9) (Int32.ofNat (F (m + 1))) 1 q5.1) 59) ∧ (x212 Z B (Int32.ofNat m) = (x214 B5 x).bind (elm fun q => fin9 Z (up2 q.2 (Z + 27) (F (m + 1)) q.1))) ∧ (shp o = 2 → mx = 15) := by
      rcases hs with hs | hs
      · rw [hs] at hX
        simp (decide := true) only [if_true, if_false, Option.bind_fun_some, Option.bind_assoc, Option.bind_some] at hX
        rw [insR_2 o3 hs hin, hcl] at hR
        exact ⟨15, 15, rfl, by decide, hX, hR, fun _ => rfl⟩
      · rw [hs] at hX
        simp (decide := true) only [if_true, if_false, Option.bind_fun_some, Option.bind_assoc, Option.bind_some] at hX
        rw [insR_7 o3 hs hin, hcl] at hR
        exact ⟨65535, 65535, rfl, by decide, hX, hR, fun z => by omega⟩
    rcases number_l hZ g1 hm1 hm2 with ⟨v, B6, e1, e2, e3, e4, e5⟩ | ⟨w, w1, w2, w3⟩
    · have e4' : ∀ a b, (a ≠ Z ∨ (b ≠ 3 ∧ b ≠ 4)) → (a < Z + 1 ∨ Z + 3 < a) → (a ≠ 82 ∨ b < 11 ∨ 16 < b) → a ≠ 84 → B6 a b = B5 a b := e4
      rw [e1, Option.bind_some] at hX
      rw [e2, Option.bind_some] at hR
      simp only [elm, Sum.elim_inr] at hR
      simp (disch := omega) only [tP9 hP] at hX
      have hge := nx_ge' e3.2.1.ge
      have hge2 := nx_ge' g1.2.1.ge
      refine ins_out hP hZ h h1 hX hR (e3.of (fun a b z => up2_o (by omega)) (fun a b z => up2_o (by omega))) (by omega) Mo.rf ?_ (fun a b z => by rw [up2_o (by omega), adv_r (by omega), rA a b z]) (fun a b z => by rw [up2_o (by omega), e4' a b (by omega) (by omega) (by omega) (by omega), rB a b z]) (by rw [up2_o (by omega), adv_r (by omega), c1]) (by rw [up2_o (by omega), adv_r (by omega), c2]) (by rw [up2_o (by omega), adv_r (by omega), c3])
      refine ⟨o, o3, ?_⟩
      simp (disch := omega) only [up2_o, up2_s, adv_r, e4', c4, c5, c6, c7]
      exact ⟨trivial, trivial, trivial, hpl, fun _ => trivial, fun z => ⟨v, by omega, rfl⟩, fun z => by omega, fun z => by omega, fun z => by omega⟩
    · right
      rw [w2, Option.bind_some, x62_e ((wrC_er w1).sw (Sw.rf.ts (by omega)))] at hX
      rw [w3] at hR
      exact ⟨w, _, _, w1, hX, hR, (Sw.rf.ts (by omega) : Sw (wrC A4 w) _).trans wrC_5, Wr_0⟩
  · -- inc
    rw [hs] at hX
    simp (decide := true) only [if_true, if_false, Option.bind_fun_some] at hX
    rw [insR_3 o3 hs hin, hcl] at hR
    rcases number_l hZ g1 (m := 15) (x := 15) rfl (by decide) with ⟨v, B6, e1, e2, e3, e4, e5⟩ | ⟨w, w1, w2, w3⟩
    · have e4' : ∀ a b, (a ≠ Z ∨ (b ≠ 3 ∧ b ≠ 4)) → (a < Z + 1 ∨ Z + 3 < a) → (a ≠ 82 ∨ b < 11 ∨ 16 < b) → a ≠ 84 → B6 a b = B5 a b := e4
      rw [e1, Option.bind_some] at hX
      rw [e2, Option.bind_some] at hR
      simp only [elm, Sum.elim_inr] at hR
      simp (disch := omega) only [tP9 hP] at hX
      have hge2 := nx_ge' g1.2.1.ge
      have e3' : Pa T L M K Z u (nx T (nx T p)) (up2 (adv A4) (P + 10) (3 * F (m + 1) + 1) (Int32.ofNat v)) (up2 B6 (Z + 27) (F (m + 1)) (Int32.ofNat v)) := e3.of (fun a b z => up2_o (by omega)) (fun a b z => up2_o (by omega))
      rcases signed_l hZ e3' (m := 32767) (x := 32767) (y := 32767) (push := false) rfl (by decide) (by simp) rfl with ⟨v2, q, A7, B7, d1, d2, d3, d4, d5, d6⟩ | ⟨w, v2, A7, B7, w1, w2, w3, w4, w5⟩
      · have d4' : ∀ a b, (a ≠ Z ∨ (b ≠ 3 ∧ b ≠ 4)) → (a < Z + 1 ∨ Z + 3 < a) → (a ≠ 82 ∨ b < 11 ∨ 16 < b) → a ≠ 84 → B7 a b = up2 B6 (Z + 27) (F (m + 1)) (Int32.ofNat v) a b := d4
        rw [d1, Option.bind_some, Option.bind_some] at hX
        rw [d2, Option.bind_some] at hR
        simp only [Sum.elim_inr] at hR
        simp (disch := omega) only [tP9 hP] at hX
        refine ins_out hP hZ h h1 hX hR (d3.of (fun a b z => up2_o (by omega)) (fun a b z => up2_o (by omega))) (by omega) Mo.rf ?_ (fun a b z => by rw [up2_o (by omega), d5 a b (by omega), up2_o (by omega), adv_r (by omega), rA a b z]) (fun a b z => by rw [up2_o (by omega), d4' a b (by omega) (by omega) (by omega) (by omega), up2_o (by omega), e4' a b (by omega) (by omega) (by omega) (by omega), rB a b z]) (by rw [up2_o (by omega), d5 _ _ (by omega), up2_o (by omega), adv_r (by omega), c1]) (by rw [up2_o (by omega), d5 _ _ (by omega), up2_o (by omega), adv_r (by omega), c2]) (by rw [up2_o (by omega), d5 _ _ (by omega), up2_o (by omega), adv_r (by omega), c3])
        refine ⟨o, o3, ?_⟩
        simp (disch := omega) only [up2_o, up2_s, adv_r, d5, d4', e4', c4, c5, c6, c7]
        exact ⟨trivial, trivial, trivial, hpl, fun _ => trivial, fun z => ⟨v, by omega, rfl⟩, fun z => trivial, fun z => by omega, fun z => by omega⟩
      · right
        rw [w2, Option.bind_some, Option.bind_some] at hX
        dsimp only at hX
        rw [x62_e ((er_of (by omega) w4).sw (Sw.rf.u (by omega)))] at hX
        rw [w3] at hR
        exact ⟨w, _, _, w1, hX, hR, (Sw.rf.u (by omega) : Sw A7 _).trans w4, w5⟩
    · right
      rw [w2, Option.bind_some, x77_e ((wrC_er w1).sw (Sw.rf.ts (by omega))), Option.bind_some, Option.bind_some, x62_e ((wrC_er w1).sw ((Sw.rf.ts (by omega)).ts (by omega)))] at hX
      rw [w3] at hR
      exact ⟨w, _, _, w1, hX, hR, ((Sw.rf.ts (by omega)).ts (by omega) : Sw (wrC A4 w) _).trans wrC_5, Wr_0⟩
  · -- a label, a class
    have hX : x75 P A (Int32.ofNat o) = (x79 P A4 (Int32.ofNat (F (m + 1))) 1).bind fun q => x62 q 59 := by
      rcases hs with hs | hs
      · rw [hs] at hX
        simp (decide := true) only [if_true, if_false, Option.bind_fun_some] at hX
        exact hX
      · rw [hs] at hX
        simp (decide := true) only [if_true, if_false, Option.bind_fun_some] at hX
        exact hX
    rw [insR_45 o3 hs hin, hcl] at hR
    rcases told_l hP hZ g1 (i := F (m + 1)) (j := 1) (za := Z + 30) (x := 1) rfl (Or.inl rfl) (by omega) (by omega) with ⟨a, r, M', u', B6, e1, e2, e3, e4, e5, e6, e7⟩ | ⟨w, A5, B6, w1, w2, w3, w4, w5⟩
    · have e4' : ∀ a b, (a ≠ Z ∨ (b ≠ 3 ∧ b ≠ 4)) → (a < Z + 1 ∨ Z + 3 < a) → (a ≠ 82 ∨ b < 11 ∨ 16 < b) → a ≠ 84 → B6 a b = up2 B5 (Z + 30) (F (m + 1)) (Int32.ofNat (nx T p)) a b := e4
      rw [e1, Option.bind_some] at hX
      rw [e2, Option.bind_some] at hR
      simp only [elm, Sum.elim_inr] at hR
      refine ins_out hP hZ h h1 hX hR (e3.of (fun _ _ _ => rfl) (fun a b z => up2_o (by omega))) (by omega) e5 ?_ (fun a b z => by rw [up2_o (by omega), up2_o (by omega), nmA_r (by omega), rA a b z]) (fun a b z => by rw [up2_o (by omega), e4' a b (by omega) (by omega) (by omega) (by omega), up2_o (by omega), rB a b z]) (by rw [up2_o (by omega), up2_o (by omega), nmA_r (by omega), c1]) (by rw [up2_o (by omega), up2_o (by omega), nmA_r (by omega), c2]) (by rw [up2_o (by omega), up2_o (by omega), nmA_r (by omega), c3])
      refine ⟨o, o3, ?_⟩
      simp (disch := omega) only [up2_o, up2_s, nmA_r, e4', c4, c5, c6, c7]
      exact ⟨trivial, trivial, trivial, hpl, fun z => by omega, fun z => by omega, fun z => by omega, fun z => ⟨e6, trivial, hpl2⟩, fun z => by omega⟩
    · right
      rw [w2, Option.bind_some, x62_e (er_of (by omega) w4)] at hX
      rw [w3] at hR
      exact ⟨w, _, _, w1, hX, hR, w4, w5⟩
  · -- a class and a member
    rw [hs] at hX
    simp (decide := true) only [if_true, if_false, Option.bind_fun_some, Option.bind_assoc] at hX
    rw [insR_6 o3 hs hin, hcl] at hR
    rcases told_l hP hZ g1 (i := F (m + 1)) (j := 1) (za := Z + 30) (x := 1) rfl (Or.inl rfl) (by omega) (by omega) with ⟨a, r, M1, u1, B6, e1, e2, e3, e4, e5, e6, e7⟩ | ⟨w, A5, B6, w1, w2, w3, w4, w5⟩
    · have e4' : ∀ a b, (a ≠ Z ∨ (b ≠ 3 ∧ b ≠ 4)) → (a < Z + 1 ∨ Z + 3 < a) → (a ≠ 82 ∨ b < 11 ∨ 16 < b) → a ≠ 84 → B6 a b = up2 B5 (Z + 30) (F (m + 1)) (Int32.ofNat (nx T p)) a b := e4
      rw [e1, Option.bind_some] at hX
      rw [e2, Option.bind_some] at hR
      simp only [elm, Sum.elim_inr] at hR
      generalize hA6 : up2 (up2 (nmA A4 (nx T p)) (P + 10) (3 * F (m + 1) + 1) (Int32.ofNat a)) 53 (3 * F (m + 1) + 1) (Int32.ofNat (nx T p)) = A6 at e1 e3 hX
      have e3' : Pa T L M1 K Z u1 (nx T (nx T p)) A6 (up2 B6 (Z + 29) (F (m + 1)) (Int32.ofNat r)) := e3.of (fun _ _ _ => rfl) (fun a b z => up2_o (by omega))
      have hpn2 := e3.le
      rcases told_l hP hZ e3' (i := F (m + 1)) (j := 2) (za := Z + 32) (x := 2) rfl (Or.inr rfl) (by omega) (by omega) with ⟨a2, r2, M2, u2, B7, d1, d2, d3, d4, d5, d6, d7⟩ | ⟨w, A5, B7, w1, w2, w3, w4, w5⟩
      · have d4' : ∀ a b, (a ≠ Z ∨ (b ≠ 3 ∧ b ≠ 4)) → (a < Z + 1 ∨ Z + 3 < a) → (a ≠ 82 ∨ b < 11 ∨ 16 < b) → a ≠ 84 → B7 a b = up2 (up2 B6 (Z + 29) (F (m + 1)) (Int32.ofNat r)) (Z + 32) (F (m + 1)) (Int32.ofNat (nx T (nx T p))) a b := d4
        rw [d1, Option.bind_some] at hX
        rw [d2, Option.bind_some] at hR
        simp only [Sum.elim_inr] at hR
        refine ins_out hP hZ h h1 hX hR (d3.of (fun _ _ _ => rfl) (fun a b z => up2_o (by omega))) (by omega) (e5.tr d5) ?_ (fun a b z => ?_) (fun a b z => ?_) ?_ ?_ ?_
        · refine ⟨o, o3, ?_⟩
          rw [← hA6]
          simp (disch := omega) only [up2_o, up2_s, nmA_r, e4', d4', c4, c5, c6, c7]
          exact ⟨trivial, trivial, trivial, hpl, fun z => by omega, fun z => by omega, fun z => by omega, fun z => ⟨e6.mono d5, trivial, hpl2⟩, fun z => ⟨d6, trivial, ⟨_, by omega, rfl⟩⟩⟩
        · rw [← hA6]
          simp (disch := omega) only [up2_o, nmA_r]
          exact rA a b z
        · simp (disch := omega) only [up2_o, d4', e4']
          exact rB a b z
        · rw [← hA6]
          simp (disch := omega) only [up2_o, nmA_r]
          exact c1
        · rw [← hA6]
          simp (disch := omega) only [up2_o, nmA_r]
          exact c2
        · rw [← hA6]
          simp (disch := omega) only [up2_o, nmA_r]
          exact c3
      · right
        rw [w2, Option.bind_some, x62_e (er_of (by omega) w4)] at hX
        rw [w3] at hR
        exact ⟨w, _, _, w1, hX, hR, w4, w5⟩
    · right
      obtain ⟨J, j1, j2⟩ := x79_e hP (er_of (by omega) w4) (x := Int32.ofNat (F (m + 1))) (y := 2)
      rw [w2, Option.bind_some, j1, Option.bind_some, x62_e ((er_of (by omega) w4).sw j2)] at hX
      rw [w3] at hR
      exact ⟨w, _, _, w1, hX, hR, j2.trans w4, w5⟩
end
