/-! A TEXT read, in lockstep -/
section
variable {P Z : Nat} {T : Tp} {A B : St}
theorem tx_l (hP : P = 3 ∨ P = 18) (hZ : Z = 85 ∨ Z = 126) (hA : TC T A) (hB : TB T B) : ∃ A1 r A2 B1 B2, x25 A = some A1 ∧ x53 P (up2 (tresize A1 1 0) 0 10 (-1)) = some (r, A2) ∧ x185 Z (up2 (up2 (up2 B 82 5 (-1)) 82 11 0) 82 20 0) = some B1 ∧ x192 B1 = some B2 ∧ ((∃ w, w < 2000 ∧ r = Int32.ofNat w ∧ ((B2 82 12 = 4 ∧ B2 82 13 = Int32.ofNat w) ∨ (B2 82 12 ≠ 4 ∧ ∃ B3, l191 Z 2000 B2 = some (.inl B3) ∧ B3 84 0 = Int32.ofNat w))) ∨ (r = -1 ∧ B2 82 12 ≠ 4 ∧ ∃ B3 L M p n k s E F H G u, l191 Z 2000 B2 = some (.inr B3) ∧ Bz L M P Z p n k k s E F H G A2 B3 ∧ NmR L u A2)) := by
  have hP2 : 3 ≤ P ∧ P ≤ 18 := by omega
  have hZ2 : 85 ≤ Z ∧ Z ≤ 126 := by omega
  have h1280 := hA.2.1
  obtain ⟨A1, A2, A3, L, u, K, a1, a2, a3, a4, a5, a6, ⟨c1, c2, c3, c4, c5, c6, c7, c8, c9, c10, c11, c12⟩, a8⟩ := cst_l hP hA
  obtain ⟨B1, B2, b1, b2, b3, b4, b5, b6, b7, b8, -⟩ := rst_l hZ hB
  generalize hA4 : up2 (up2 (up2 A3 56 3 0) 56 4 0) 56 5 (-1) = A4 at a4 a5
  have f4 : ∀ a b, a ≠ 56 → A4 a b = A3 a b := fun a b y => by rw [← hA4]; simp (disch := omega) only [up2_o]
  have hx53 : x53 P (up2 (tresize A1 1 0) 0 10 (-1)) = (l53_36 P 100000 0 A4).bind fun q6 => some ((q6 56 5), q6) := by
    unfold x53
    rw [a2, Option.bind_some, a3, Option.bind_some, hA4]
  have h44 : A4 56 4 = 0 := by rw [← hA4]; simp (disch := omega) only [up2_o, up2_s]
  have hle := a5.le
  have hM := wl2_nd
  have hBq : Bq T L wl2 K P Z 57 (sk T 0) 7 0 0 0 (fun _ => 0) (fun _ => 0) (fun _ => 0) (fun _ => 0) A4 B2 := by
    refine ⟨⟨a5, b3, b4, by rw [hM.2]; omega, by omega⟩, ⟨?_, b5, fun i hi => absurd hi (Nat.not_lt_zero i)⟩, ⟨?_, b7 7 (by omega) (by omega), fun i hi => absurd hi (Nat.not_lt_zero i)⟩, ⟨?_, b7 6 (by omega) (by omega), fun i hi => by omega⟩, ⟨?_, ?_, b6, fun c hc => ?_⟩, ⟨?_, ?_, b7 8 (by omega) (by omega), fun m hm => by omega⟩, fun m hm => by omega, ⟨?_, ?_, b7 9 (by omega) (by omega), rfl, fun m hm => by omega, fun i hi => absurd hi (Nat.not_lt_zero i)⟩, ⟨?_, b7 10 (by omega) (by omega), rfl, fun m hm => by omega⟩, ⟨?_, ?_, b7 11 (by omega) (by omega), rfl, fun m hm => by omega⟩, by omega, by omega, by omega, by omega, rfl, Nat.zero_le _, Nat.zero_le _, fun m hm => by omega⟩
    · rw [f4 _ _ (by omega)]; exact c3
    · rw [f4 _ _ (by omega)]; exact c8
    · rw [f4 _ _ (by omega)]; exact c9
    · rw [f4 _ _ (by omega)]; exact c1
    · rw [f4 _ _ (by omega)]; exact c2
    · obtain ⟨w1, w2, w3, w4, w5, w6⟩ := a8 c hc
      obtain ⟨v1, v2⟩ := b8 c hc
      refine ⟨⟨⟨68 + c, c, wl2.getD c [], ?_, v1, ?_, ?_⟩, ?_, fun _ => ⟨?_, v1, ?_, ?_⟩, fun y => by omega⟩, ?_, ?_, Nat.le_refl _, Nat.zero_le _, fun f y1 y2 => absurd y2 (Nat.not_lt_zero f), ?_⟩
      · rw [f4 _ _ (by omega)]; exact w2
      · have : ∀ c, c < 7 → wl2[c]? = some (wl2.getD c []) := by decide +kernel
        rw [a6 c hc]; exact this c hc
      · have : ∀ c, c < 7 → wl2[c]? = some (wl2.getD c []) := by decide +kernel
        exact this c hc
      · rw [f4 _ _ (by omega)]; exact w5
      · rw [f4 _ _ (by omega)]; exact w2
      · rw [f4 _ _ (by omega), w1, v2]
      · rw [v2]; exact fP_p c hc
      · rw [f4 _ _ (by omega)]; exact w3
      · rw [f4 _ _ (by omega)]; exact w4
      · rw [f4 _ _ (by omega)]; exact w6
    · rw [f4 _ _ (by omega)]; exact c10
    · rw [f4 _ _ (by omega)]; exact c4
    · rw [f4 _ _ (by omega)]; exact c11
    · rw [f4 _ _ (by omega)]; exact c6
    · rw [f4 _ _ (by omega)]; exact c5
    · rw [f4 _ _ (by omega)]; exact c12
    · rw [f4 _ _ (by omega)]; exact c7
  have k12 : B2 82 12 = rkd T (sk T 0) := b3.2.1.2.1
  have k13 : B2 82 13 = Int32.ofNat (sk T 0) := b3.2.1.2.2.1
  have h5 : A4 56 5 = -1 := by rw [← hA4, up2_s]
  have hsk : sk T 0 ≤ 1280 := by have := sk_le (T := T) (i := 0) (Nat.zero_le _); omega
  by_cases z : cA T (sk T 0) = 256
  · have r4 : B2 82 12 = 4 := k12.trans ((rkd_4 hle).mpr z)
    have k0 : x56 A4 = 0 := by rw [x56_n a5]; exact (ckd_0 hle).mpr z
    have k7 : x57 A4 59 = 0 := by
      have e := x57_n a5 (n := 0) (x := 59) rfl (by decide)
      rw [e, if_neg (fun y => owd_ne y z)]
    have e7 : A4 (P + 1) 3 = 7 := by rw [f4 _ _ (by omega)]; exact c1
    have hx55 : x55 P A4 = some (wrC A4 (sk T 0)) := by
      unfold x55
      rw [k0, if_pos rfl, e7, if_pos (by decide), k7, if_pos rfl, x58_n a5, Option.bind_some]
    have hw5 : wrC A4 (sk T 0) 56 5 = Int32.ofNat (sk T 0) := up2_s _ _ _ _
    have hl : l53_36 P 100000 0 A4 = some (wrC A4 (sk T 0)) := by
      rw [show (100000 : Nat) = 99998 + 1 + 1 from rfl, l53_36, if_neg (by decide), h5, if_pos rfl, h44, if_neg (by decide), if_pos rfl, hx55, Option.bind_some]
      exact l53_er (by show wrC A4 (sk T 0) 56 5 ≠ -1; rw [hw5]; exact i32_m1 (by omega))
    refine ⟨A1, Int32.ofNat (sk T 0), wrC A4 (sk T 0), B1, B2, a1, by rw [hx53, hl, Option.bind_some, hw5], b1, b2, Or.inl ⟨sk T 0, by omega, rfl, Or.inl ⟨r4, k13⟩⟩⟩
  · have n4 : B2 82 12 ≠ 4 := fun y => z ((rkd_4 hle).mp (k12.symm.trans y))
    have ht := text_l hP hZ (T.1 + 1) (sk T 0) 57 wl2 7 0 0 (fun _ => 0) (fun _ => 0) (fun _ => 0) (fun _ => 0) A4 B2 (2000 - (T.1 + 1)) 0 100000 (by omega) hBq h44 (Or.inr z) (Nat.zero_le _) (by omega)
    rw [show 2000 - (T.1 + 1) + (T.1 + 1) = 2000 by omega, show Int32.ofNat 0 = (0 : Int32) from rfl] at ht
    rcases ht with ⟨M', u', p', n', k', s', E', F', H', G', A', B', y1, y2, y3, y4⟩ | ⟨w, A', B', y1, y2, y3, y4, y5⟩
    · refine ⟨A1, -1, A', B1, B2, a1, by rw [hx53, y1, Option.bind_some, y2], b1, b2, Or.inr ⟨rfl, n4, B', L, M', p', n', k', s', E', F', H', G', u, y3, y4.z, ?_⟩⟩
      have hf := x53_fr hP _ _ Frm.refl (-1, A') (by rw [hx53, y1, Option.bind_some, y2])
      have hf' : ∀ a b, (a = 37 ∨ a = 38 ∨ a = 40 ∨ a = 42) → A' a b = (up2 (tresize A1 1 0) 0 10 (-1)) a b := fun a b y => hf a b (by rcases hP with rfl | rfl <;> rcases y with rfl | rfl | rfl | rfl <;> rfl)
      have hg : ∀ a b, (a = 37 ∨ a = 38 ∨ a = 40 ∨ a = 42) → A' a b = A4 a b := fun a b y => by
        rw [hf' a b y, f4 _ _ (by omega)]
        have e54 : A3 a b = A2 a b := by
          have := x54_fr _ _ Frm.refl _ a3
          exact this a b (by rcases y with rfl | rfl | rfl | rfl <;> rfl)
        have e4 : A2 a b = up2 (tresize A1 1 0) 0 10 (-1) a b := by
          have := x4_fr hP _ _ Frm.refl _ a2
          exact this a b (by rcases hP with rfl | rfl <;> rcases y with rfl | rfl | rfl | rfl <;> rfl)
        rw [e54, e4]
      exact a4.cof (hg _ _ (by omega)) (fun a b y => hg a b (by omega))
    · exact ⟨A1, Int32.ofNat w, A', B1, B2, a1, by rw [hx53, y2, Option.bind_some, y4], b1, b2, Or.inl ⟨w, y1, rfl, Or.inr ⟨n4, B', y3, y5⟩⟩⟩
end
