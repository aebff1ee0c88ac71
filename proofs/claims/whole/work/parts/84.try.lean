/-! A TRY in lockstep -/
theorem tsP11 {P t j : Nat} {I : St} {v : Int32} (hP : P = 3 ∨ P = 18) (ht : t < 192) (hj : j < 4) : tset I (P + 11) (Int32.ofNat t) (Int32.ofNat j) v = up2 I (P + 12) (4 * t + j) v := by
  rcases hP with rfl | rfl
  all_goals exact ts_n (by decide) (by decide) ht rfl hj
theorem ts54 {t j : Nat} {I : St} {v : Int32} (ht : t < 192) (hj : j < 4) : tset I 54 (Int32.ofNat t) (Int32.ofNat j) v = up2 I 55 (4 * t + j) v := ts_n (by decide) (by decide) ht rfl hj
theorem i32_4 {t j : Nat} (ht : t < 200) (hj : j < 4) : (4 : Int32) * Int32.ofNat t + Int32.ofNat j = Int32.ofNat (4 * t + j) := by
  rw [show (4 : Int32) = Int32.ofNat 4 from rfl, ← Int32.ofNat_mul, ← Int32.ofNat_add]
section
variable {T : Tp} {L : List (List Nat)} {K P Z t : Nat}
theorem try_loop (hP : P = 3 ∨ P = 18) (hZ : Z = 85 ∨ Z = 126) (ht : t < 192) : ∀ d j p u (M : List (List Nat)) (A B : St) (n n' : Nat), j + d = 4 → Pa T L M K Z u p A B → (∃ M' u' p' A' B', l73_81 P (Int32.ofNat t) (n + d + 1) (Int32.ofNat j) A = some A' ∧ l211_24 Z (Int32.ofNat t) (n' + d + 1) (Int32.ofNat j) B = some (.inl B') ∧ Pa T L M' K Z u' p' A' B' ∧ Mo M M' ∧ p ≤ p' ∧ (∀ a b, ((a ≠ 56 ∨ (b ≠ 3 ∧ b ≠ 6)) ∧ (a ≠ P + 12 ∨ b < 4 * t + j ∨ 4 * t + 4 ≤ b) ∧ (a ≠ 55 ∨ b < 4 * t + j ∨ 4 * t + 4 ≤ b)) → A' a b = A a b) ∧ (∀ a b, ((a ≠ Z ∨ (b ≠ 3 ∧ b ≠ 4)) ∧ (a < Z + 1 ∨ Z + 3 < a) ∧ (a ≠ 82 ∨ b < 11 ∨ 16 < b) ∧ a ≠ 84 ∧ (a < Z + 38 ∨ Z + 39 < a ∨ b < 4 * t + j ∨ 4 * t + 4 ≤ b)) → B' a b = B a b) ∧ ∀ i, j ≤ i → i < 4 → NE L M' (A' (P + 12) (4 * t + i)) (B' (Z + 38) (4 * t + i)) ∧ A' 55 (4 * t + i) = B' (Z + 39) (4 * t + i) ∧ Plc (B' (Z + 39) (4 * t + i))) ∨ (∃ w A' B', w < 2000 ∧ l73_81 P (Int32.ofNat t) (n + d + 1) (Int32.ofNat j) A = some A' ∧ l211_24 Z (Int32.ofNat t) (n' + d + 1) (Int32.ofNat j) B = some (.inr (.inl B')) ∧ A' 56 5 = Int32.ofNat w ∧ B' 84 0 = Int32.ofNat w) := by
  intro d
  induction d with
  | zero =>
    intro j p u M A B n n' hj h
    left
    obtain rfl : j = 4 := by omega
    refine ⟨M, u, p, A, B, ?_, ?_, h, Mo.rf, Nat.le_refl _, fun _ _ _ => rfl, fun _ _ _ => rfl, fun i h1 h2 => by omega⟩
    · rw [l73_81, if_pos (by decide)]
    · rw [l211_24, if_pos (by decide)]
  | succ d ih =>
    intro j p u M A B n n' hj h
    have hp := h.le
    have c1 : ¬ (3 : Int32) < Int32.ofNat j := by show ¬ Int32.ofNat 3 < _; rw [i32_lt (by decide) (by omega)]; omega
    have c2 : ¬ (4 : Int32) ≤ Int32.ofNat j := by show ¬ Int32.ofNat 4 ≤ _; rw [i32_le (by decide) (by omega)]; omega
    have hin : inb (Int32.ofNat (4 * t + j)) 800 := (i32_inb (by omega)).mpr (by omega)
    have hcl : (Int32.ofNat (4 * t + j)).toNatClampNeg = 4 * t + j := i32_cl (by omega)
    rw [show n + (d + 1) + 1 = (n + d + 1) + 1 by omega, show n' + (d + 1) + 1 = (n' + d + 1) + 1 by omega]
    rw [l73_81, if_neg c1, l211_24, if_neg c2]
    simp only [i32_4 (show t < 200 by omega) (show j < 4 by omega), if_pos hin, hcl, h.at, i32_s]
    have hPa0 : Pa T L M K Z u p A (up2 B (Z + 39) (4 * t + j) (Int32.ofNat p)) := h.of (fun _ _ _ => rfl) (fun a b z => up2_o (by omega))
    rcases name_l hZ hPa0 with ⟨i, r, sx, M', u', B1, a1, a2, a3, a4, a5, a6, a7, a8, a9, a10⟩ | ⟨w, w1, w2, w3⟩
    · have hne : NE L M' (Int32.ofNat i) (Int32.ofNat r) := ⟨i, r, sx, rfl, rfl, a6, a7⟩
      rw [a1, Option.bind_some, a2, Option.bind_some, Sum.elim_inr]
      dsimp only
      rw [tsP11 hP ht (by omega), ts54 ht (by omega), up2_o (show 56 ≠ P + 12 ∨ 6 ≠ 4 * t + j by omega), nmA_6]
      have hPa2 : Pa T L M' K Z u' (nx T p) (up2 (up2 (nmA A p) (P + 12) (4 * t + j) (Int32.ofNat i)) 55 (4 * t + j) (Int32.ofNat p)) (up2 B1 (Z + 38) (4 * t + j) (Int32.ofNat r)) := a3.of (fun a b z => by simp (disch := omega) only [up2_o]) (fun a b z => up2_o (by omega))
      have hB1 : ∀ a b, (a ≠ Z ∨ (b ≠ 3 ∧ b ≠ 4)) → (a < Z + 1 ∨ Z + 3 < a) → (a ≠ 82 ∨ b < 11 ∨ 16 < b) → a ≠ 84 → B1 a b = up2 B (Z + 39) (4 * t + j) (Int32.ofNat p) a b := a4
      rcases ih (j + 1) _ _ _ _ _ n n' (by omega) hPa2 with ⟨M2, u2, p2, A2, B2, e1, e2, e3, e4, e5, e6, e7, e8⟩ | ⟨w, A2, B2, w1, w2, w3, w4, w5⟩
      · left
        refine ⟨M2, u2, p2, A2, B2, e1, e2, e3, a5.tr e4, by omega, fun a b z => ?_, fun a b z => ?_, fun x h1 h2 => ?_⟩
        · rw [e6 a b (by omega)]
          simp (disch := omega) only [up2_o, nmA_r]
        · rw [e7 a b (by omega)]
          simp (disch := omega) only [up2_o, hB1]
        · rcases Nat.lt_or_ge j x with z | z
          · exact e8 x (by omega) h2
          · obtain rfl : x = j := by omega
            rw [e6 _ _ (by omega), e6 _ _ (by omega), e7 _ _ (by omega), e7 _ _ (by omega)]
            simp (disch := omega) only [up2_o, up2_s, hB1]
            exact ⟨hne.mono e4, trivial, ⟨p, by omega, rfl⟩⟩
      · right
        exact ⟨w, A2, B2, w1, w2, w3, w4, w5⟩
    · right
      obtain ⟨s1, s2, s3, s4, s5, s6, s7⟩ := sfP hP
      rw [w2, Option.bind_some, w3]
      dsimp only
      have hs : Sw (wrC A w) (tset (tset (wrC A w) (P + 11) (Int32.ofNat t) (Int32.ofNat j) (-1)) 54 (Int32.ofNat t) (Int32.ofNat j) (tset (wrC A w) (P + 11) (Int32.ofNat t) (Int32.ofNat j) (-1) 56 6)) := (Sw.rf.ts (by omega)).ts (by decide)
      obtain ⟨J, j1, j2⟩ := l73_e hP (b2 := Int32.ofNat t) (n + d + 1) (j + 1) _ ((wrC_er w1).sw hs) (by omega) (by omega)
      exact ⟨w, J, Wr (up2 B (Z + 39) (4 * t + j) (Int32.ofNat p)) w, w1, j1, rfl, (hs.tr j2).trans wrC_5, Wr_0⟩
end
section
variable {T : Tp} {L M : List (List Nat)} {K P Z u p n m q s : Nat} {E F H G : Nat → Nat} {A B : St}
theorem G_le {G : Nat → Nat} {k c : Nat} (h0 : G 0 = 0) (h : ∀ m, m < k → G (m + 1) ≤ G m + c) : ∀ a, a ≤ k → G a ≤ c * a := by
  intro a
  induction a with
  | zero => intro _; omega
  | succ a ih =>
    intro ha
    have h1 := ih (by omega)
    have h2 := h a (by omega)
    rw [Nat.mul_add]
    omega
theorem try_l (hP : P = 3 ∨ P = 18) (hZ : Z = 85 ∨ Z = 126) (h : Bq T L M K P Z u p n (m + 1) m s E F H G A B) (h8 : G (m + 1) < G m + 8) (h0 : cA T p ≠ 256) : (∃ M' u' p' A' B', x73 P A = some A' ∧ x211 Z B (Int32.ofNat m) = some (.inr B') ∧ Bq T L M' K P Z u' p' n (m + 1) m s E F H (updN G (m + 1) (G (m + 1) + 1)) A' B' ∧ A' 56 4 = A 56 4 ∧ p < p') ∨ Bad (x73 P A) (x211 Z B (Int32.ofNat m)) := by
  obtain ⟨hPa, hb, hf, hs, hc, hm, hz, hk, hl, ht, n1, n2, n3, n4, n5, n6, n7, n8⟩ := h
  have hp := hPa.le
  obtain ⟨m1, m2, m3, m4⟩ := hm
  obtain ⟨q1, q2, q3, q4, q5, q6, q7, q8, q9⟩ := m4 m (by omega)
  obtain ⟨t1, t2, t3, t4, t5⟩ := ht
  have t6 := (t5 m (by omega)).1
  have t7 : G (m + 1) < 192 := by
    have := G_le t4 (fun a ha => (t5 a ha).2.1) m (by omega)
    omega
  have hin : inb (Int32.ofNat (G (m + 1))) 200 := (i32_inb (by omega)).mpr (by omega)
  have hcl : (Int32.ofNat (G (m + 1))).toNatClampNeg = G (m + 1) := i32_cl (by omega)
  -- the reference's next
  obtain ⟨B1, a1, a2, a3, a4⟩ := next_l hZ hPa h0
  have hB1 : ∀ a b, (a ≠ Z ∨ (b ≠ 3 ∧ b ≠ 4)) → (a < Z + 1 ∨ Z + 3 < a) → (a ≠ 82 ∨ b < 11 ∨ 16 < b) → a ≠ 84 → B1 a b = B a b := a3
  generalize hB2 : up2 B1 (Z + 37) (G (m + 1)) (Int32.ofNat m) = B2
  have hR : x211 Z B (Int32.ofNat m) = (l211_24 Z (Int32.ofNat (G (m + 1))) (99995 + 4 + 1) (Int32.ofNat 0) B2).bind (Sum.elim (fun q3 => (x204 (up2 q3 Z 11 ((q3 Z 11) + 1)) 59).bind (Sum.elim (fun J => some (.inl J)) (fun q7 => some (.inr q7)))) (fun r => some r)) := by
    unfold x211
    rw [a1, Option.bind_some, hB1 _ _ (by omega) (by omega) (by omega) (by omega), t3, if_pos hin, hcl, hB2]
    rfl
  -- the class's head
  generalize hA2 : up2 (up2 (adv (up2 A (P + 8) (16 * m + 8) (Int32.ofNat (G (m + 1) - G m + 1)))) (P + 11) 3 (Int32.ofNat (G (m + 1) + 1))) 54 3 (Int32.ofNat (G (m + 1) + 1)) = A2
  have hX : x73 P A = (l73_81 P (Int32.ofNat (G (m + 1))) (99995 + 4 + 1) (Int32.ofNat 0) A2).bind fun q3 => x62 q3 59 := by
    have e0 : tset A (P + 7) (x72 P A) 8 ((tget A (P + 7) (x72 P A) 8) + 1) = up2 A (P + 8) (16 * m + 8) (Int32.ofNat (G (m + 1) - G m + 1)) := by
      simp (disch := omega) only [x72, m1, i32_p, tP7 hP, q7, i32_s]
    have e1 : tget A (P + 7) (x72 P A) 8 < 8 := by
      simp (disch := omega) only [x72, m1, i32_p, tP7 hP, q7]
      show Int32.ofNat _ < Int32.ofNat 8
      rw [i32_lt (by omega) (by omega)]
      omega
    have hadv : up2 (up2 A (P + 8) (16 * m + 8) (Int32.ofNat (G (m + 1) - G m + 1))) 56 3 (up2 A (P + 8) (16 * m + 8) (Int32.ofNat (G (m + 1) - G m + 1)) 56 3 + 1) = adv (up2 A (P + 8) (16 * m + 8) (Int32.ofNat (G (m + 1) - G m + 1))) := rfl
    obtain ⟨y1, y2⟩ := tadd_n (I := adv (up2 A (P + 8) (16 * m + 8) (Int32.ofNat (G (m + 1) - G m + 1)))) (k := P + 11) (n := G (m + 1)) (by rw [adv_r (by omega), up2_o (by omega)]; exact t1) (by rcases hP with rfl | rfl <;> exact t7) (by rcases hP with rfl | rfl <;> decide)
    obtain ⟨y3, y4⟩ := tadd_n (I := up2 (adv (up2 A (P + 8) (16 * m + 8) (Int32.ofNat (G (m + 1) - G m + 1)))) (P + 11) 3 (Int32.ofNat (G (m + 1) + 1))) (k := 54) (n := G (m + 1)) (by rw [up2_o (by omega), adv_r (by omega), up2_o (by omega)]; exact t2) t7 (by decide)
    unfold x73
    rw [if_pos e1, e0]
    simp only [Lt]
    rw [hadv, y1, y2, y3, hA2]
    simp only [Option.bind_fun_some]
    rfl
  have hPa2 : Pa T L M K Z u (nx T p) A2 B2 := a2.of (fun a b z => by
    rw [← hA2]
    simp (disch := omega) only [up2_o]
    rcases z with z | z | ⟨z, z1 | z1⟩
    · rw [adv_r (by omega), adv_r (by omega), up2_o (by omega)]
    · rw [adv_r (by omega), adv_r (by omega), up2_o (by omega)]
    · subst z z1
      unfold adv
      rw [up2_s, up2_s, up2_o (by omega)]
    · rw [adv_r (by omega), adv_r (by omega), up2_o (by omega)]) (fun a b z => by rw [← hB2, up2_o (by omega)])
  have rA2 : ∀ a b, ((a ≠ 56 ∨ b = 4) ∧ (a ≠ P + 8 ∨ b ≠ 16 * m + 8) ∧ (a ≠ P + 11 ∨ b ≠ 3) ∧ (a ≠ 54 ∨ b ≠ 3)) → A2 a b = A a b := fun a b z => by
    rw [← hA2]
    simp (disch := omega) only [up2_o, adv_r]
  have rB2 : ∀ a b, ((a ≠ Z ∨ (b ≠ 3 ∧ b ≠ 4)) ∧ (a < Z + 1 ∨ Z + 3 < a) ∧ (a ≠ 82 ∨ b < 11 ∨ 16 < b) ∧ a ≠ 84 ∧ (a ≠ Z + 37 ∨ b ≠ G (m + 1))) → B2 a b = B a b := fun a b z => by
    rw [← hB2]
    simp (disch := omega) only [up2_o, hB1]
  rcases try_loop hP hZ t7 4 0 _ _ _ _ _ 99995 99995 rfl hPa2 with ⟨M', u', p', A3, B3, e1, e2, e3, e4, e5, e6, e7, e8⟩ | ⟨w, A3, B3, w1, w2, w3, w4, w5⟩
  · have hB4 : (up2 B3 Z 11 ((B3 Z 11) + 1)) = up2 B3 Z 11 (Int32.ofNat (G (m + 1) + 1)) := by
      rw [e7 _ _ (by omega), rB2 _ _ (by omega), t3, i32_s]
    generalize hB5 : up2 B3 Z 11 (Int32.ofNat (G (m + 1) + 1)) = B4 at hB4
    have hPa4 : Pa T L M' K Z u' p' A3 B4 := e3.of (fun _ _ _ => rfl) (fun a b z => by rw [← hB5, up2_o (by omega)])
    rcases sign_l hZ hPa4 (s := 59) (x := 59) rfl (by decide) (by decide) with ⟨B5, b1, b2, b3, b4, b5⟩ | ⟨w, w1, w2, w3⟩
    · left
      have hB6 : ∀ a b, (a ≠ Z ∨ (b ≠ 3 ∧ b ≠ 4)) → (a < Z + 1 ∨ Z + 3 < a) → (a ≠ 82 ∨ b < 11 ∨ 16 < b) → a ≠ 84 → B5 a b = B4 a b := b4
      have rA : ∀ a b, ((a ≠ 56 ∨ b = 4) ∧ (a ≠ P + 8 ∨ b ≠ 16 * m + 8) ∧ (a ≠ P + 11 ∨ b ≠ 3) ∧ (a ≠ 54 ∨ b ≠ 3) ∧ (a ≠ P + 12 ∨ b < 4 * G (m + 1)) ∧ (a ≠ 55 ∨ b < 4 * G (m + 1))) → adv A3 a b = A a b := fun a b z => by
        rw [adv_r (by omega), e6 a b (by omega), rA2 a b (by omega)]
      have rB : ∀ a b, ((a ≠ Z ∨ (b ≠ 3 ∧ b ≠ 4 ∧ b ≠ 11)) ∧ (a < Z + 1 ∨ Z + 3 < a) ∧ (a ≠ 82 ∨ b < 11 ∨ 16 < b) ∧ a ≠ 84 ∧ (a ≠ Z + 37 ∨ b < G (m + 1)) ∧ (a < Z + 38 ∨ Z + 39 < a ∨ b < 4 * G (m + 1))) → B5 a b = B a b := fun a b z => by
        rw [hB6 a b (by omega) (by omega) (by omega) (by omega), ← hB5, up2_o (by omega), e7 a b (by omega), rB2 a b (by omega)]
      refine ⟨M', u', _, adv A3, B5, by rw [hX, e1, Option.bind_some, b1], by rw [hR, e2, Option.bind_some, Sum.elim_inl, hB4, b2]; rfl, ⟨b3, ?_, ?_, ?_, ?_, ?_, ?_, ?_, ?_, ?_, n1, n2, n3, n4, n5, by omega, by omega, n8.of (fun a b z => rB a b (by omega))⟩, rA _ _ (by omega), by omega⟩
      · exact hb.of e4 (fun a b z => rA a b (by omega)) (fun a b z => rB a b (by omega))
      · exact hf.of e4 (fun a b z => rA a b (by omega)) (fun a b z => rB a b (by omega))
      · exact hs.of e4 (fun a b z => rA a b (by omega)) (fun a b z => rB a b (by omega))
      · exact hc.of e4 (fun a b z => rA a b (by omega)) (fun a b z => rB a b (by omega))
      · refine ⟨by rw [rA _ _ (by omega)]; exact m1, by rw [rA _ _ (by omega)]; exact m2, by rw [rB _ _ (by omega)]; exact m3, fun x hx' => ?_⟩
        obtain ⟨g1, ⟨c, rf, g2, g3⟩, g4, g5, g6, g7, g8, g9, g10⟩ := m4 x hx'
        have g11 : c ≤ 6 := g3.2.2.1
        refine ⟨g1.of e4 (fun a b z => rA a b (by omega)) (fun a b z => rB a b (by omega)), ⟨c, rf, by rw [rA _ _ (by omega)]; exact g2, g3.of (fun a b z => rA a b (by omega)) (fun a b z => rB a b (by omega))⟩, ?_⟩
        rw [updN_n (show x ≠ m + 1 by omega)]
        rcases Nat.lt_or_ge x m with y | y
        · rw [updN_n (show x + 1 ≠ m + 1 by omega)]
          simp (disch := omega) only [rA, rB]
          exact ⟨g4, g5, g6, g7, g8, g9, g10⟩
        · obtain rfl : x = m := by omega
          refine ⟨by rw [rA _ _ (by omega)]; exact g4, by rw [rB _ _ (by omega)]; exact g5, by rw [rA _ _ (by omega)]; exact g6, by rw [rA _ _ (by omega)]; exact g7, ?_, by rw [rA _ _ (by omega)]; exact g9, by rw [rA _ _ (by omega)]; exact g10⟩
          rw [adv_r (by omega), e6 _ _ (by omega), ← hA2, updN_s]
          simp (disch := omega) only [up2_o, adv_r, up2_s]
          congr 1
          omega
      · exact hz.of (fun _ _ => rfl) (fun a b z => rA a b (by omega)) (fun a b z => rB a b (by omega))
      · exact hk.of e4 (fun a b z => rA a b (by omega)) (fun a b z => rB a b (by omega))
      · exact hl.of e4 (fun _ _ => ⟨rfl, Nat.le_refl _⟩) (fun a b z => rA a b (by omega)) (fun a b z => rB a b (by omega))
      · refine ⟨?_, ?_, ?_, by rw [updN_n (by omega)]; exact t4, fun x hx' => ?_⟩
        · rw [adv_r (by omega), e6 _ _ (by omega), ← hA2, updN_s]
          simp (disch := omega) only [up2_o, up2_s]
        · rw [adv_r (by omega), e6 _ _ (by omega), ← hA2, updN_s]
          simp (disch := omega) only [up2_o, up2_s]
        · rw [hB6 _ _ (by omega) (by omega) (by omega) (by omega), ← hB5, updN_s, up2_s]
        · obtain ⟨g1, g2, g3⟩ := t5 x hx'
          rw [updN_n (show x ≠ m + 1 by omega)]
          have old : ∀ t, G x ≤ t → t < G (x + 1) → t < G (m + 1) → B5 (Z + 37) t = Int32.ofNat x ∧ ∀ j, j < 4 → NE L M' (adv A3 (P + 12) (4 * t + j)) (B5 (Z + 38) (4 * t + j)) ∧ adv A3 55 (4 * t + j) = B5 (Z + 39) (4 * t + j) ∧ Plc (B5 (Z + 39) (4 * t + j)) := fun t z1 z2 z3 => by
            obtain ⟨y1, y2⟩ := g3 t z1 z2
            refine ⟨by rw [rB _ _ (by omega)]; exact y1, fun j hj => ?_⟩
            have := y2 j hj
            simp (disch := omega) only [rA, rB]
            exact ⟨this.1.mono e4, this.2⟩
          rcases Nat.lt_or_ge x m with y | y
          · rw [updN_n (show x + 1 ≠ m + 1 by omega)]
            refine ⟨g1, g2, fun l z1 z2 => old l z1 z2 ?_⟩
            have := mono_le (F := G) (k := m + 1) (fun a ha => (t5 a ha).1) (x + 1) (m + 1) (by omega) (by omega)
            omega
          · obtain rfl : x = m := by omega
            rw [updN_s]
            refine ⟨by omega, by omega, fun t z1 z2 => ?_⟩
            rcases Nat.lt_or_ge t (G (x + 1)) with z | z
            · exact old t z1 z z
            · obtain rfl : t = G (x + 1) := by omega
              refine ⟨?_, fun j hj => ?_⟩
              · rw [hB6 _ _ (by omega) (by omega) (by omega) (by omega), ← hB5, up2_o (by omega), e7 _ _ (by omega), ← hB2, up2_s]
              · have := e8 j (by omega) hj
                rw [adv_r (by omega), adv_r (by omega), hB6 _ _ (by omega) (by omega) (by omega) (by omega), hB6 _ _ (by omega) (by omega) (by omega) (by omega), ← hB5, up2_o (by omega), up2_o (by omega)]
                exact this
    · right
      exact ⟨w, _, _, w1, by rw [hX, e1, Option.bind_some, w2], by rw [hR, e2, Option.bind_some, Sum.elim_inl, hB4, w3]; rfl, wrC_5, Wr_0⟩
  · right
    exact ⟨w, A3, B3, w1, by rw [hX, w2, Option.bind_some, x62_e (er_of (by omega) w4)], by rw [hR, w3]; rfl, w4, w5⟩
end
