/-! text() in lockstep -/
theorem app0 (A : St) {T : Tp} (h : TC T A) {J : St} (hJ : J 1 3 = 0) : TC (0, T.2) J := ⟨hJ, by show 0 ≤ 1280; omega, fun i hi => absurd hi (Nat.not_lt_zero i)⟩
theorem bpp0 {T : Tp} {J : St} (hJ : J 82 1 = 0) : TB (0, T.2) J := ⟨hJ, by show 0 ≤ 1280; omega, fun i hi => absurd hi (Nat.not_lt_zero i)⟩
theorem l191_5 {Z : Nat} (hZ : Z = 85 ∨ Z = 126) : ∀ n I q, l191 Z n I = some q → ∀ J, (q = .inl J ∨ q = .inr J) → J 82 5 = I 82 5 := by
  intro n
  induction n with
  | zero => intro I q h; rw [l191] at h; cases h
  | succ n ih =>
    intro I q h J hJ
    rw [l191] at h
    by_cases hc : I 82 12 = 4
    · rw [if_pos hc] at h
      cases h
      rcases hJ with hJ | hJ
      · cases hJ
      · cases hJ; rfl
    · rw [if_neg hc] at h
      obtain ⟨x, e1, e2⟩ := Option.bind_eq_some_iff.mp h
      have f := x198_fr hZ _ _ Frm.refl _ e1
      cases x with
      | inl J' =>
        cases e2
        rcases hJ with hJ | hJ
        · cases hJ
          dsimp only [Sum.elim, Frm] at f
          simp only [mdb_0, mdb_n, mdb_s, and_true] at f
          exact f 82 5 (by omega)
        · cases hJ
      | inr J' =>
        rw [ih J' q e2 J hJ]
        dsimp only [Sum.elim, Frm] at f
        simp only [mdb_0, mdb_n, mdb_s, and_true] at f
        exact f 82 5 (by omega)
theorem tw7 : ∀ i, i < 7 → (Int32.ofNat i * Int32.ofNat 2 + 0).toNatClampNeg = 2 * i ∧ (Int32.ofNat i * Int32.ofNat 2 + 1).toNatClampNeg = 2 * i + 1 := by decide
theorem k5_l {W : Nat} {B B1 B2 : St} (hW1 : W = 85 ∨ W = 126) (b1 : x185 W (up2 (up2 (up2 B 82 5 (-1)) 82 11 0) 82 20 0) = some B1) (b2 : x192 B1 = some B2) : B2 82 5 = -1 := by
  have fb := x192_fr _ _ Frm.refl _ b2
  have fc := x185_fr hW1 _ _ Frm.refl _ b1
  dsimp only [Frm] at fb fc
  simp only [mdb_0, mdb_n, mdb_s, and_true] at fb fc
  rw [fb 82 5 (by omega), fc 82 5 (by omega)]
  rfl
theorem i1_l {W : Nat} {B3 I : St} (hW1 : W = 85 ∨ W = 126) (d2 : x215 W (rB B3) = some I) : I 82 1 = 0 := by
  have fe := x215_fr hW1 _ _ Frm.refl _ d2
  dsimp only [Frm] at fe
  simp only [mdb_0, mdb_n, mdb_s, and_true] at fe
  rw [fe 82 1 (by omega)]
  rfl
section
variable {P Q Z W N : Nat} {A B : St}
/-- left as it was, but for the place and the tape -/
theorem CpN.lf {A' B' : St} (hP : (P = 3 ∧ Q = 18) ∨ (P = 18 ∧ Q = 3)) (hZ : (Z = 85 ∧ W = 126) ∨ (Z = 126 ∧ W = 85)) (h : CpN P Z N A B) (fa : ∀ a b, cT Q a b → A' a b = A a b) (fb : ∀ a b, rT W a b → B' a b = B a b) (h1 : A' 1 3 = 0) (h2 : B' 82 1 = 0) (h3 : A' 0 10 = B' 82 5) : CpN P Z N A' B' := by
  unfold cT at fa
  unfold rT at fb
  obtain ⟨⟨T, t1, t2, t3⟩, h4, h5, h6⟩ := h
  exact ⟨⟨(0, T.2), Nat.zero_le _, app0 A t2 h1, bpp0 h2⟩, h4.of (fun a b y => fa a b (by omega)) (fun a b y => fb a b (by omega)), h3, h6.of (fun a b y => fa a b (by omega)) (fun a b y => fb a b (by omega))⟩
theorem text_c (hP : (P = 3 ∧ Q = 18) ∨ (P = 18 ∧ Q = 3)) (hZ : (Z = 85 ∧ W = 126) ∨ (Z = 126 ∧ W = 85)) (h : CpN P Z N A B) : ∃ r A' B', T24 Q P A = some (r, A') ∧ T191 W B = some (r, B') ∧ CpN (if r.1 = true then Q else P) (if r.1 = true then W else Z) N A' B' := by
  have hP1 : P = 3 ∨ P = 18 := by omega
  have hQ1 : Q = 3 ∨ Q = 18 := by omega
  have hZ1 : Z = 85 ∨ Z = 126 := by omega
  have hW1 : W = 85 ∨ W = 126 := by omega
  have hC := h
  obtain ⟨⟨T, t1, t2, t3⟩, h4, h5, h6⟩ := h
  obtain ⟨A1, r, A2, B1, B2, a1, a2, b1, b2, hr⟩ := tx_l hQ1 hW1 t2 t3
  -- what is left alone by the reading
  have fa := x53_fr hQ1 _ _ Frm.refl _ a2
  have fb := x192_fr _ _ Frm.refl _ b2
  have fc := x185_fr hW1 _ _ Frm.refl _ b1
  dsimp only [Frm] at fa fb fc
  simp only [mdb_0, mdb_n, mdb_s, and_true] at fa fb fc
  have k1 : A2 1 3 = 0 := by
    rw [fa 1 3 (by omega), up2_o (by omega)]
    unfold tresize
    rw [up2_s]; rfl
  have k10 : A2 0 10 = -1 := by rw [fa 0 10 (by omega), up2_s]
  have k5 := k5_l hW1 b1 b2
  rcases hr with ⟨w, hw, rfl, hr⟩ | ⟨rfl, hne, B3, L, M, p, n, k, s, E, F, H, G, u, b3, hB, hN⟩
  · -- wrong
    have hrw : Int32.ofNat w ≠ -1 := i32_m1 (by omega)
    have eA : T24 Q P A = some ((false, -1 - Int32.ofNat w), A2) := by
      unfold T24
      rw [a1, Option.bind_some, a2, Option.bind_some]
      dsimp only
      rw [if_pos hrw]
    rcases hr with ⟨r1, r2⟩ | ⟨r1, B3, r2, r3⟩
    · have eB : T191 W B = some ((false, -1 - Int32.ofNat w), up2 (up2 B2 84 0 (B2 82 13)) 82 1 0) := by
        unfold T191 T191a
        rw [b1, Option.bind_some, b2, Option.bind_some, if_pos r1, Option.bind_some]
        unfold T191b
        dsimp only
        rw [up2_s, r2]
      refine ⟨_, _, _, eA, eB, ?_⟩
      refine CpN.lf hP hZ hC (fun a b y => T24_fr hQ1 hP1 eA a b y (fun z => by cases z)) (fun a b y => T191_fr hW1 eB a b y (fun z => by cases z)) k1 (by rw [up2_s]) ?_
      rw [k10, up2_o (by omega), up2_o (by omega), k5]
    · have eB : T191 W B = some ((false, -1 - Int32.ofNat w), up2 B3 82 1 0) := by
        unfold T191 T191a
        rw [b1, Option.bind_some, b2, Option.bind_some, if_neg r1, r2, Option.bind_some]
        unfold T191b
        dsimp only
        rw [r3]
      refine ⟨_, _, _, eA, eB, ?_⟩
      refine CpN.lf hP hZ hC (fun a b y => T24_fr hQ1 hP1 eA a b y (fun z => by cases z)) (fun a b y => T191_fr hW1 eB a b y (fun z => by cases z)) k1 (by rw [up2_s]) ?_
      rw [k10, up2_o (by omega), l191_5 hW1 _ _ _ r2 B3 (.inl rfl), k5]
  · -- read
    have c1 : (rB B3) 82 22 = 0 := by unfold rB; rw [up2_o (by omega), up2_s]
    have c2 : (rB B3) 82 5 = 4001 := by unfold rB; rw [up2_s]
    have hB' : Bz L M Q W p n k k s E F H G A2 (rB B3) := hB.of (by omega) (fun a b y => by unfold rB; rw [up2_o (by omega), up2_o (by omega), up2_o (by omega)])
    obtain ⟨J, I, d1, d2, hd⟩ := lv_l hQ1 hW1 hB' hN c1 c2
    have fd := x81_fr hQ1 _ _ Frm.refl _ d1
    have fe := x215_fr hW1 _ _ Frm.refl _ d2
    dsimp only [Frm] at fd fe
    simp only [mdb_0, mdb_n, mdb_s, and_true] at fd fe
    have j1 : J 1 3 = 0 := by rw [fd 1 3 (by omega)]; exact k1
    have i1 := i1_l hW1 d2
    rcases hd with ⟨kd, q, q1, q2, q3, q4, q5, q6, q7⟩ | ⟨q4, q6, r, J2, I2, d3, d4, hd⟩
    · have hkd : J 57 3 ≠ 0 := by rw [q4]; exact fun z => absurd ((i32_eq (a := kd) (b := 0) (by omega) (by omega)).mp z) (by omega)
      have hki : I 82 22 ≠ 0 := by rw [q6]; exact fun z => absurd ((i32_eq (a := kd) (b := 0) (by omega) (by omega)).mp z) (by omega)
      have eA : T24 Q P A = some ((false, -5000 - Int32.ofNat kd), up2 J 0 10 (J 57 4)) := by
        unfold T24
        rw [a1, Option.bind_some, a2, Option.bind_some]
        dsimp only
        rw [if_neg (fun y => y rfl), d1, Option.bind_some]
        dsimp only
        rw [if_pos hkd, q4]
      have eB : T191 W B = some ((false, -5000 - Int32.ofNat kd), I) := by
        unfold T191 T191a
        rw [b1, Option.bind_some, b2, Option.bind_some, if_neg hne, b3, Option.bind_some]
        unfold T191b
        dsimp only
        rw [d2, Option.bind_some, if_pos hki, q6]
      refine ⟨_, _, _, eA, eB, ?_⟩
      refine CpN.lf hP hZ hC (fun a b y => T24_fr hQ1 hP1 eA a b y (fun z => by cases z)) (fun a b y => T191_fr hW1 eB a b y (fun z => by cases z)) (by rw [up2_o (by omega)]; exact j1) i1 ?_
      rw [up2_s, q5, q7]
    · have ff := x97_fr hQ1 _ _ Frm.refl _ d3
      have fg := x225_fr hW1 _ _ Frm.refl _ d4
      dsimp only [Frm] at ff fg
      simp only [mdb_0, mdb_n, mdb_s, and_true] at ff fg
      have j2 : J2 1 3 = 0 := by rw [ff 1 3 (by omega)]; exact j1
      have i2 : I2 82 1 = 0 := by rw [fg 82 1 (by omega)]; exact i1
      rcases hd with ⟨q, hq, rfl, r1, r2⟩ | ⟨rfl, r1, pp, hL, hT, hD⟩
      · have hqm : Int32.ofNat q ≠ -1 := i32_m1 (by omega)
        have eA : T24 Q P A = some ((false, -5005), up2 J2 0 10 (Int32.ofNat q)) := by
          unfold T24
          rw [a1, Option.bind_some, a2, Option.bind_some]
          dsimp only
          rw [if_neg (fun y => y rfl), d1, Option.bind_some]
          dsimp only
          rw [if_neg (fun y => y q4), d3, Option.bind_some]
          dsimp only
          rw [if_pos hqm]
        have eB : T191 W B = some ((false, -5005), I2) := by
          unfold T191 T191a
          rw [b1, Option.bind_some, b2, Option.bind_some, if_neg hne, b3, Option.bind_some]
          unfold T191b
          dsimp only
          rw [d2, Option.bind_some, if_neg (fun y => y q6), d4, Option.bind_some, if_pos (by rw [r1]; decide), r1]
          rfl
        refine ⟨_, _, _, eA, eB, ?_⟩
        refine CpN.lf hP hZ hC (fun a b y => T24_fr hQ1 hP1 eA a b y (fun z => by cases z)) (fun a b y => T191_fr hW1 eB a b y (fun z => by cases z)) (by rw [up2_o (by omega)]; exact j2) i2 ?_
        rw [up2_s, r2]
      · -- right
        have eA : T24 Q P A = some ((true, Int32.ofNat k), up2 (fillF (up2 J2 0 10 (-1)) 67 0 0) 68 13 0) := by
          unfold T24
          rw [a1, Option.bind_some, a2, Option.bind_some]
          dsimp only
          rw [if_neg (fun y => y rfl), d1, Option.bind_some]
          dsimp only
          rw [if_neg (fun y => y q4), d3, Option.bind_some]
          dsimp only
          rw [if_neg (fun y => y rfl)]
          unfold x116
          rw [Option.bind_some, sfW.2.2.2.2.2.2.2.2]
          have e : (up2 (fillF (up2 J2 0 10 (-1)) 67 0 0) 68 13 0) (Q + 7) 3 = Int32.ofNat k := by
            rw [up2_o (by omega)]
            unfold fillF
            rw [if_neg (by omega), up2_o (by omega)]
            exact hL.2.1.1
          rw [e]
        have eB : T191 W B = some ((true, Int32.ofNat k), rY I2) := by
          unfold T191 T191a
          rw [b1, Option.bind_some, b2, Option.bind_some, if_neg hne, b3, Option.bind_some]
          unfold T191b
          dsimp only
          rw [d2, Option.bind_some, if_neg (fun y => y q6), d4, Option.bind_some, if_neg (fun y => y r1)]
          have e : rY I2 W 8 = Int32.ofNat k := by
            unfold rY
            rw [clrA_o _ _ _ (by omega) (by omega), up2_o (by omega), up2_o (by omega)]
            exact hL.2.1.2.1
          rw [e]
        refine ⟨_, _, _, eA, eB, ?_⟩
        have ga : ∀ a b, cT Q a b → a ≠ 67 ∧ (a ≠ 68 ∨ b ≠ 13) → up2 (fillF (up2 J2 0 10 (-1)) 67 0 0) 68 13 0 a b = A a b := fun a b y z => T24_fr hQ1 hP1 eA a b y (fun _ => z)
        have gb : ∀ a b, rT W a b → ((a ≠ 82 ∨ b ≠ 33) ∧ a ≠ 169 ∧ a ≠ 170) → rY I2 a b = B a b := fun a b y z => T191_fr hW1 eB a b y (fun _ => z)
        have oa : ∀ a b, a ≠ 0 → a ≠ 67 → (a ≠ 68 ∨ b ≠ 13) → up2 (fillF (up2 J2 0 10 (-1)) 67 0 0) 68 13 0 a b = J2 a b := by
          intro a b y1 y2 y3
          rw [up2_o (by omega)]
          unfold fillF
          rw [if_neg (by omega), up2_o (by omega)]
        have ob : ∀ a b, (a ≠ 82 ∨ (b ≠ 5 ∧ b ≠ 33)) → a ≠ 169 → a ≠ 170 → rY I2 a b = I2 a b := by
          intro a b y1 y2 y3
          unfold rY
          rw [clrA_o _ _ _ y2 y3, up2_o (by omega), up2_o (by omega)]
        have e67 : ∀ b, b < 14 → up2 (fillF (up2 J2 0 10 (-1)) 67 0 0) 68 13 0 67 b = 0 := by
          intro b hb
          rw [up2_o (by omega)]
          unfold fillF
          rw [if_pos ⟨rfl, Nat.zero_le _, by rw [show shl 67 = 14 from by decide]; exact hb⟩]
        generalize hA' : up2 (fillF (up2 J2 0 10 (-1)) 67 0 0) 68 13 0 = A' at *
        generalize hB'' : rY I2 = B' at *
        refine ⟨⟨(0, T.2), Nat.zero_le _, app0 A t2 ?_, bpp0 ?_⟩, ?_, ?_, n, k, s, E, F, G, pp, ?_, ?_, ?_, ?_⟩
        · rw [oa _ _ (by omega) (by omega) (by omega)]; exact j2
        · rw [ob _ _ (by omega) (by omega) (by omega)]; exact i2
        · obtain ⟨s1, s2, s3, s4, s5, s6, s7, s8, s9⟩ := sfW
          unfold cT at ga
          unfold rT at gb
          obtain ⟨w1, w2, w3, w4⟩ := h4
          refine ⟨?_, fun i hi => ?_, fun i hi => ?_, fun i hi => ?_⟩
          · rw [ga _ _ (by omega) (by omega), gb _ _ (by omega) (by omega)]; exact w1
          · rw [tget_c (k := 62) (fun b => ga _ _ (by rw [s3]; omega) (by rw [s3]; omega)), gb _ _ (by omega) (by omega)]; exact w2 i hi
          · rw [tget_c (k := 64) (fun b => ga _ _ (by rw [s6]; omega) (by rw [s6]; omega)), gb _ _ (by omega) (by omega)]; exact w3 i hi
          · have z1 : B' 169 i = 0 ∧ B' 170 i = 0 := by
              rw [← hB'']; unfold rY; exact clrA_z 7 i hi
            rw [z1.1, z1.2]
            unfold tget
            rw [s7, s8, s9]
            refine ⟨?_, ?_⟩
            · split
              · rfl
              · rw [(tw7 i hi).1]
                exact e67 _ (by omega)
            · split
              · rfl
              · rw [(tw7 i hi).2]
                exact e67 _ (by omega)
        · rw [← hA', ← hB'']
          unfold rY
          rw [clrA_o _ _ _ (by omega) (by omega), up2_o (by omega), up2_o (by omega), up2_s]
          unfold fillF
          rw [if_neg (by omega), up2_s]
        · exact hL.of (fun a b y1 y2 y3 => oa a b (by omega) (by omega) (by omega)) (fun a b y => ob a b (by omega) (by omega) (by omega))
        · intro m hm
          obtain ⟨V, hV⟩ := hT m hm
          exact ⟨V, hV.of (fun a b y => ob a b (by omega) (by omega) (by omega))⟩
        · intro m hm
          have z1 := oa (Q + 8) (16 * m + 9) (by omega) (by omega) (by omega)
          have z2 := ob (W + 24) m (by omega) (by omega) (by omega)
          exact z1.trans ((hD m hm).trans z2.symm)
        · refine Or.inl ⟨?_, ?_⟩
          · rw [← hA', up2_s]
          · rw [← hB'']
            unfold rY
            rw [clrA_o _ _ _ (by omega) (by omega), up2_s]
end
