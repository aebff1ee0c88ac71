/-! WHAT IS THROWN, to its end -/
section
variable {P Z n k s : Nat} {E F G p oa os hk : Nat → Nat} {A0 B0 A B A' B' : St} {VV : Nat → Nat → Option VEn} {NO U EV dp m i c x o : Nat} {fr : Nat → FrT} {t : Nat × Nat} {l : Nat × Nat × Nat}
theorem ob_cv {r : Nat} (hn : 7 ≤ n) (hg : GCo B0 Z n s p E oa os hk NO U EV A B) (hr : r < NO) : A 71 (4 * r) = B 181 r ∧ ∃ cc, CV n cc (B 181 r) ∧ (B 181 r = Int32.ofNat cc ∧ os r = alf p E 19 cc ∧ (∀ q, q < os r → hk (oa r + q) = fkd B0 Z p E 19 cc q) ∨ cc = 0 ∧ (B 181 r = -2 ∧ (∀ q, q < os r → hk (oa r + q) = 1) ∨ B 181 r = -3 ∧ ∀ q, q < os r → hk (oa r + q) = 2)) := by
  obtain ⟨⟨h1, h2, h3, h4, h5, h6, h7, h8⟩, -⟩ := hg
  obtain ⟨a1, a2, a3, a4, a5, a6, a7, a8⟩ := h7 r hr
  refine ⟨a1, ?_⟩
  rcases a8 with ⟨cc, c1, c2, c3, c4⟩ | ⟨c2, c3⟩ | ⟨c2, c3⟩
  · exact ⟨cc, ⟨c1, Or.inl c2⟩, Or.inl ⟨c2, c3, c4⟩⟩
  · exact ⟨0, ⟨by omega, Or.inr ⟨rfl, Or.inl c2⟩⟩, Or.inr ⟨rfl, Or.inl ⟨c2, c3⟩⟩⟩
  · exact ⟨0, ⟨by omega, Or.inr ⟨rfl, Or.inr c2⟩⟩, Or.inr ⟨rfl, Or.inr ⟨c2, c3⟩⟩⟩
set_option maxHeartbeats 4000000 in
theorem thr_l {A1 B1 : St} {oa' os' hk' : Nat → Nat} {NO' U' r : Nat} {w : Int32} (hP : Hid (P = 3 ∨ P = 18)) (hP2 : 3 ≤ P ∧ P ≤ 18) (hZ2 : 85 ≤ Z ∧ Z ≤ 126) (hL : Lkd P Z n k s E F G p A0 B0) (hT : ∀ m, m < k → TyM B0 Z m (F (m + 1) - F m) (F m) G (VV m)) (h : MC P Z n k s E F p A0 B0 VV oa os hk NO U EV dp m i c fr t l A B) (hc : c < 20000) (hN : NO ≤ NO') (hp : PRG P Z A0 B0 A1 B1) (hg : GCo B0 Z n s p E oa' os' hk' NO' U' EV A1 B1) (hA : ∀ a b, (a = 79 ∨ a = 81 ∨ (a = 68 ∧ (b = 7 ∨ b = 8 ∨ b = 9 ∨ b = 14 ∨ b = 17))) → A1 a b = A a b) (hB : ∀ a b, ((193 ≤ a ∧ a ≤ 199) ∨ (a = 82 ∧ (b = 34 ∨ b = 37 ∨ b = 55 ∨ b = 63 ∨ b = 64))) → B1 a b = B a b) (h12 : A1 68 12 = 1) (h15 : A1 68 15 = Int32.ofNat r) (h16 : A1 68 16 = w) (hr : r < NO') (eA : x129 P (up2 A 68 10 (Int32.ofNat (i + 1))) (A (P + 10) (3 * (F m + i))) (A (P + 10) (3 * (F m + i) + 1)) (A (P + 10) (3 * (F m + i) + 2)) = some A1) (eB : x238 Z B = x245 Z B1 (Int32.ofNat (r + 1)) w) : StepOK P Z n k s E F p A0 B0 VV c A B := by
  have hkn := kno hP hZ2 hL hT h
  obtain ⟨hGk, hFG, hTr, hmo⟩ := lk_g hL
  have hk24 := hL.1.2.2.2.2.1
  have hn7 := hL.1.2.2.1
  have h' := h
  obtain ⟨c1, c2, c3, ⟨r1, r2, r3, r4, r5, r6, r7, r8, r9, r10, r11, r12⟩, c5, c6, c7⟩ := h'
  have dp24 := c6.2.2.1
  have hNU : NO' ≤ 3000 := by have := hg.1.2.2.2.2.2.1; omega
  obtain ⟨b1, cc, b2, -⟩ := ob_cv hn7 hg hr
  generalize hA3 : up2 A1 68 17 (Int32.ofNat (c + 1)) = A3
  have fA3 : ∀ a b, (a ≠ 68 ∨ b ≠ 17) → A3 a b = A1 a b := fun a b y => by rw [← hA3, up2_o (by omega)]
  have hp3 : PRG P Z A0 B0 A3 B1 := hp.of (fun a b y1 y2 => fA3 a b (by omega)) (fun a b y => rfl)
  have hu : UWs Z k F B0 VV NO' dp m i fr l A3 B1 := by
    refine ⟨fun g hg => ?_, ?_, ?_, dp24, ?_, ?_, ?_, ?_, r10, r11, ?_, t, c5⟩
    · obtain ⟨y1, y2⟩ := c3 g hg
      exact ⟨y1.of hN (fun a b y => by rw [fA3 a b (by omega), hA a b (by omega)]) (fun a b y => hB a b (by omega)), y2⟩
    · rw [fA3 _ _ (by omega), hA _ _ (by omega)]; exact c6.1
    · rw [hB _ _ (by omega)]; exact c6.2.1
    · rw [fA3 _ _ (by omega), hA _ _ (by omega)]; exact r1
    · rw [hB _ _ (by omega)]; exact r2
    · rw [fA3 _ _ (by omega), hA _ _ (by omega)]; exact r3
    · rw [hB _ _ (by omega)]; exact r4
    · exact (c7.of hN (fun b _ _ => by rw [fA3 _ _ (by omega), hA _ _ (by omega)]) (fun a b _ _ _ => hB _ _ (by omega)) c6.2.2.2.2.2).pop (h' := 0) (r' := 0) (by omega) (fun j hj => by omega)
  obtain ⟨A4, B4, fA4, fB4, hh⟩ := unw_l (w := w) (v := B1 181 r) (r := r) hP hP2 hZ2 hL b2 (by omega) dp m i l A3 B1 0 100000 100000 hp3 hu rfl (by omega) (by omega) (by omega)
  have hLk3 : Lkd P Z n k s E F G p A3 B1 := hL.of (fun a b y1 y2 _ => hp3.1 a b y1 y2) (fun a b y => hp3.2 a b (by omega))
  have hx := x171_n hP hP2 hLk3 r10 (hFG m r10).1 (hFG m r10).2 hu.2.2.2.2.1 hu.2.2.2.2.2.2.1 (by have := (hFG m r10).2; omega) b2
  rw [hit_of hp3] at hx
  have e15 : A3 68 15 = Int32.ofNat r := by rw [fA3 _ _ (by omega)]; exact h15
  have e49 : x149 A3 (A3 68 15) = B1 181 r := by
    unfold x149
    rw [e15]
    simp (disch := omega) only [m70]
    rw [fA3 _ _ (by omega)]; exact b1
  have eT : tnC P A = (x170 P A3).bind fun q4 => some (up2 q4 68 9 (q4 68 10)) := by
    rw [tnC_e hP hP2 hkn.1 ⟨r1, r2, r3, r4, r5, r6, r7, r8, r9, r10, r11, r12⟩, eA, Option.bind_some]
    have e14 : A1 68 14 = -1 := by rw [hA _ _ (by omega)]; exact r5
    have e17 : A1 68 17 = Int32.ofNat c := by rw [hA _ _ (by omega)]; exact r8
    have e12' : A3 68 12 = 1 := by rw [fA3 _ _ (by omega)]; exact h12
    have e14' : A3 68 14 = -1 := by rw [fA3 _ _ (by omega)]; exact e14
    rw [if_neg (by rw [e14]; decide), Option.bind_some, e17, i32_s, hA3, e12', e14', if_neg (by decide), if_pos rfl]
  have gA : ∀ a b, (a ≠ 68 ∨ (b ≠ 7 ∧ b ≠ 8 ∧ b ≠ 9 ∧ b ≠ 11 ∧ b ≠ 17)) → A4 a b = A1 a b := fun a b y => by rw [fA4 a b (by omega), fA3 a b (by omega)]
  have e34 : B1 82 34 = -1 := by rw [hB _ _ (by omega)]; exact r6
  have e37 : B1 82 37 = Int32.ofNat c := by rw [hB _ _ (by omega)]; exact r9
  rcases hh with ⟨dp', m', i', l', tr, hu4, hf, z1, z2⟩ | ⟨z1, z2⟩
  · obtain ⟨v1, v2, v3, v4, v5, v6, v7, v8, v9, v10, v11, t', v12⟩ := hu4
    obtain ⟨g1, g2, g3⟩ := ftr_y _ _ _ hf
    have hG' := (hFG m' v9).1
    have gmm := hmo m' (m' + 1) (by omega) (by omega)
    have hFm' := (hFG m' v9).2
    obtain ⟨-, -, ty⟩ := hT m' v9
    obtain ⟨ty1, -, -, -, ty5⟩ := ty i' t' l' v10 v12
    obtain ⟨-, -, -, -, ty6⟩ := ty1
    unfold hit at g3
    obtain ⟨g4, g5, g6⟩ := of_decide_eq_true g3
    obtain ⟨q1, l2, q2, q3⟩ := ty6 tr g1 (by omega) ⟨g4, g5⟩
    obtain ⟨-, a, e, g, dd, w1, w2, w3, w4, w5, w6, w7, w8, w9, w10, w11, w12, w13⟩ := hL.2.2.2 m' tr v9 g1 (by omega)
    have etat : tat B0 Z (F m') tr = g := by unfold tat; rw [w11, i32_cl (by omega)]; omega
    rw [etat] at q1 q2
    generalize hA5 : up2 (up2 A4 68 12 0) 68 11 0 = A5
    generalize hB5 : up2 (up2 B4 82 64 (B0 (Z + 40) (4 * tr + 2))) 82 65 0 = B5 at z2
    have fA5 : ∀ a b, (a ≠ 68 ∨ (b ≠ 11 ∧ b ≠ 12)) → A5 a b = A4 a b := fun a b y => by rw [← hA5, up2_o (by omega), up2_o (by omega)]
    have fB5 : ∀ a b, (a ≠ 82 ∨ (b ≠ 64 ∧ b ≠ 65)) → B5 a b = B4 a b := fun a b y => by rw [← hB5, up2_o (by omega), up2_o (by omega)]
    have hpt : PT dp' 0 A5 B5 := ⟨by rw [fA5 _ _ (by omega)]; exact v2, by rw [fB5 _ _ (by omega)]; exact v3, v4, by rw [← hA5, up2_s]; rfl, by rw [← hB5, up2_s]; rfl, by omega⟩
    have ep := psh_n (v := Int32.ofNat r) (w := w) hpt (by omega)
    have er := rps_n (v := Int32.ofNat (r + 1)) (w := w) hpt (by omega)
    generalize hA6 : up2 (up2 (up2 A5 68 11 (Int32.ofNat (0 + 1))) 81 (2 * (32 * dp' + 16 + 0)) (Int32.ofNat r)) 81 (2 * (32 * dp' + 16 + 0) + 1) w = A6 at ep
    generalize hB6 : up2 (up2 (up2 B5 198 (16 * dp' + 0) (Int32.ofNat (r + 1))) 199 (16 * dp' + 0) w) 82 65 (Int32.ofNat (0 + 1)) = B6 at er
    have fA6 : ∀ a b, (a ≠ 68 ∨ b ≠ 11) → (a ≠ 81 ∨ (b ≠ 2 * (32 * dp' + 16 + 0) ∧ b ≠ 2 * (32 * dp' + 16 + 0) + 1)) → A6 a b = A5 a b := fun a b y1 y2 => by rw [← hA6, up2_o (by omega), up2_o (by omega), up2_o (by omega)]
    have fB6 : ∀ a b, (a ≠ 82 ∨ b ≠ 65) → (a < 198 ∨ 199 < a ∨ b ≠ 16 * dp' + 0) → B6 a b = B5 a b := fun a b y1 y2 => by rw [← hB6, up2_o (by omega), up2_o (by omega), up2_o (by omega)]
    have hb34 : B6 82 34 = -1 := by rw [fB6 _ _ (by omega) (by omega), fB5 _ _ (by omega), fB4 _ _ (by omega)]; exact e34
    have hb37 : B6 82 37 = Int32.ofNat c := by rw [fB6 _ _ (by omega) (by omega), fB5 _ _ (by omega), fB4 _ _ (by omega)]; exact e37
    generalize hA7 : up2 (up2 A6 68 10 (Int32.ofNat g)) 68 9 (Int32.ofNat g) = A7
    generalize hB7 : up2 B6 82 37 (Int32.ofNat (c + 1)) = B7
    have fA7 : ∀ a b, (a ≠ 68 ∨ (b ≠ 9 ∧ b ≠ 10 ∧ b ≠ 11 ∧ b ≠ 12)) → (a ≠ 81 ∨ (b ≠ 2 * (32 * dp' + 16 + 0) ∧ b ≠ 2 * (32 * dp' + 16 + 0) + 1)) → A7 a b = A4 a b := fun a b y1 y2 => by rw [← hA7, up2_o (by omega), up2_o (by omega), fA6 a b (by omega) y2, fA5 a b (by omega)]
    have fB7 : ∀ a b, (a ≠ 82 ∨ (b ≠ 37 ∧ b ≠ 64 ∧ b ≠ 65)) → (a < 198 ∨ 199 < a ∨ b ≠ 16 * dp' + 0) → B7 a b = B4 a b := fun a b y1 y2 => by rw [← hB7, up2_o (by omega), fB6 a b (by omega) y2, fB5 a b (by omega)]
    have hfv : FV NO' dp' 1 1 l' A7 B7 := by
      refine FV.push (k := 2) (v := Int32.ofNat r) (v' := Int32.ofNat (r + 1)) (w := w) v11 (Or.inr ⟨rfl, Or.inr ⟨r, hr, rfl, rfl⟩⟩) (fun j hj => by omega) (by decide) ⟨?_, ?_⟩ ⟨?_, ?_⟩ (fun b y1 y2 y3 y4 => fA7 _ _ (by omega) (by omega)) (fun a b y1 y2 y3 y4 => fB7 _ _ (by omega) (by omega)) (by omega)
      · rw [← hA7, up2_o (by omega), up2_o (by omega), ← hA6, up2_o (by omega), up2_s]
      · rw [← hA7, up2_o (by omega), up2_o (by omega), ← hA6, up2_s]
      · rw [← hB7, up2_o (by omega), ← hB6, up2_o (by omega), up2_o (by omega), up2_s]
      · rw [← hB7, up2_o (by omega), ← hB6, up2_o (by omega), up2_s]
    refine ⟨A7, B7, ?_, ?_, Or.inl ⟨oa', os', hk', NO', U', EV, dp', m', g, fr, (1, 1), l2, ?_, ?_, ?_, ⟨?_, ?_, ?_, ?_, ?_, ?_, ?_, ?_, ?_, v9, q1, by omega⟩, q2, ⟨?_, ?_, v4, ?_, ?_, by omega⟩, hfv.wk q3 ty5⟩⟩
    · rw [eT]
      unfold x170
      rw [e49, hx, Option.bind_some, show (0 : Int32) = Int32.ofNat 0 from rfl, z1, Option.bind_some, if_neg (show ¬ Int32.ofNat tr = -1 from i32_m1 (by omega))]
      rw [show (Int32.ofNat 0 : Int32) = 0 from rfl]
      dsimp only
      have e15' : A4 68 15 = Int32.ofNat r := by rw [gA _ _ (by omega)]; exact h15
      have e16' : A4 68 16 = w := by rw [gA _ _ (by omega)]; exact h16
      rw [hA5, e15', e16', ep, Option.bind_some, Option.bind_some]
      have eat : tget A6 (P + 11) (Int32.ofNat tr) 2 = Int32.ofNat g := by
        simp (disch := omega) only [tP11 hP]
        rw [fA6 _ _ (by omega) (by omega), fA5 _ _ (by omega), gA _ _ (by omega), hp.1 _ _ (by omega) (by omega), w10]
      rw [eat, up2_s, hA7]
    · unfold tnR
      rw [eB]
      unfold x245
      rw [z2, er, Option.bind_some, Option.bind_some, Sum.elim_inr, Option.bind_some, if_neg (by rw [hb34]; decide), hb37, i32_s, hB7]
    · exact hp.of (fun a b y1 y2 => by rw [fA7 a b (by omega) (by omega), gA a b (by omega)]) (fun a b y => by rw [fB7 a b (by omega) (by omega), fB4 a b (by omega)])
    · exact hg.of (fun a b y => by rw [fA7 a b (by omega) (by omega), gA a b (by omega)]) (fun a b y => by rw [fB7 a b (by omega) (by omega), fB4 a b (by omega)])
    · intro g' hg'
      obtain ⟨y1, y2⟩ := v1 g' hg'
      exact ⟨y1.of (Nat.le_refl _) (fun a b y => fA7 a b (by omega) (by omega)) (fun a b y => fB7 a b (by omega) (by omega)), y2⟩
    · rw [fA7 _ _ (by omega) (by omega)]; exact v5
    · rw [fB7 _ _ (by omega) (by omega)]; exact v6
    · rw [← hA7, up2_s]
    · rw [← hB7, up2_o (by omega), fB6 _ _ (by omega) (by omega), ← hB5, up2_o (by omega), up2_s, w11]
    · rw [fA7 _ _ (by omega) (by omega), gA _ _ (by omega), hA _ _ (by omega)]; exact r5
    · rw [fB7 _ _ (by omega) (by omega), fB4 _ _ (by omega)]; exact e34
    · rw [← hA7, up2_o (by omega), up2_o (by omega), fA6 _ _ (by omega) (by omega), ← hA5, up2_o (by omega), up2_s]
    · rw [fA7 _ _ (by omega) (by omega), fA4 _ _ (by omega), ← hA3, up2_s]
    · rw [← hB7, up2_s]
    · rw [fA7 _ _ (by omega) (by omega)]; exact v2
    · rw [fB7 _ _ (by omega) (by omega)]; exact v3
    · rw [← hA7, up2_o (by omega), up2_o (by omega), ← hA6, up2_o (by omega), up2_o (by omega), up2_s]
    · rw [← hB7, up2_o (by omega), ← hB6, up2_s]
  · generalize hA7 : up2 (up2 (up2 A4 68 12 0) 68 14 3) 68 9 ((up2 (up2 A4 68 12 0) 68 14 3) 68 10) = A7
    generalize hB7 : up2 (up2 (up2 (up2 B4 82 34 3) 82 35 (Int32.ofNat (r + 1))) 82 36 w) 82 37 (Int32.ofNat (c + 1)) = B7
    have fA7 : ∀ a b, (a ≠ 68 ∨ (b ≠ 9 ∧ b ≠ 12 ∧ b ≠ 14)) → A7 a b = A4 a b := fun a b y => by rw [← hA7, up2_o (by omega), up2_o (by omega), up2_o (by omega)]
    have fB7 : ∀ a b, (a ≠ 82 ∨ (b ≠ 34 ∧ b ≠ 35 ∧ b ≠ 36 ∧ b ≠ 37)) → B7 a b = B4 a b := fun a b y => by rw [← hB7, up2_o (by omega), up2_o (by omega), up2_o (by omega), up2_o (by omega)]
    refine ⟨A7, B7, ?_, ?_, Or.inr ⟨oa', os', hk', NO', U', EV, 3, c + 1, ?_, ?_, by omega, ?_, ?_, by omega, ?_, ?_, fun y => by omega, fun _ => ⟨?_, ?_⟩⟩⟩
    · rw [eT]
      unfold x170
      rw [e49, hx, Option.bind_some, show (0 : Int32) = Int32.ofNat 0 from rfl, z1, Option.bind_some, if_pos rfl, Option.bind_some]
      rw [show (Int32.ofNat 0 : Int32) = 0 from rfl, hA7]
    · unfold tnR
      rw [eB]
      unfold x245
      rw [z2, Option.bind_some, Sum.elim_inl, Option.bind_some, if_neg (by rw [up2_o (by omega), up2_o (by omega), up2_s]; decide)]
      have e : (up2 (up2 (up2 B4 82 34 3) 82 35 (Int32.ofNat (r + 1))) 82 36 w) 82 37 = Int32.ofNat c := by rw [up2_o (by omega), up2_o (by omega), up2_o (by omega), fB4 _ _ (by omega)]; exact e37
      rw [e, i32_s, hB7]
    · exact hp.of (fun a b y1 y2 => by rw [fA7 a b (by omega), gA a b (by omega)]) (fun a b y => by rw [fB7 a b (by omega), fB4 a b (by omega)])
    · exact hg.of (fun a b y => by rw [fA7 a b (by omega), gA a b (by omega)]) (fun a b y => by rw [fB7 a b (by omega), fB4 a b (by omega)])
    · rw [← hA7, up2_o (by omega), up2_s]; rfl
    · rw [← hB7, up2_o (by omega), up2_o (by omega), up2_o (by omega), up2_s]; rfl
    · rw [fA7 _ _ (by omega), fA4 _ _ (by omega), ← hA3, up2_s]
    · rw [← hB7, up2_s]
    · rw [fA7 _ _ (by omega), gA _ _ (by omega), h15, ← hB7, up2_o (by omega), up2_o (by omega), up2_s, i32_p]
    · rw [fA7 _ _ (by omega), gA _ _ (by omega), h16, ← hB7, up2_o (by omega), up2_s]
end
