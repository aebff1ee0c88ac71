/-! ret -/
section
variable {P Z n k s : Nat} {E F G p oa os hk : Nat → Nat} {A0 B0 A B A' B' : St} {VV : Nat → Nat → Option VEn} {NO U EV dp m i c x o : Nat} {fr : Nat → FrT} {t : Nat × Nat} {l : Nat × Nat × Nat}
theorem op_51 (hP : Hid (P = 3 ∨ P = 18)) (hP2 : 3 ≤ P ∧ P ≤ 18) (hZ2 : 85 ≤ Z ∧ Z ≤ 126) (hL : Lkd P Z n k s E F G p A0 B0) (hT : ∀ m, m < k → TyM B0 Z m (F (m + 1) - F m) (F m) G (VV m)) (h : MC P Z n k s E F p A0 B0 VV oa os hk NO U EV dp m i c fr t l A B) (hc : c < 20000) (ho : opn B0 Z (F m + i) = 51) : StepOK P Z n k s E F p A0 B0 VV c A B := by
  have hkn := kno hP hZ2 hL hT h
  obtain ⟨hLk, kx, ko, kt, k16, klo, kfu, klp, kvis, ka, kb1, kF, kF2, kk, k27⟩ := hkn
  have h' := h
  obtain ⟨c1, c2, c3, ⟨r1, r2, r3, r4, r5, r6, r7, r8, r9, r10, r11, r12⟩, c5, c6, c7⟩ := h'
  obtain ⟨t', hef, hnx, hlb, htr⟩ := kvis
  have hpt : PT dp t.1 (up2 A 68 10 (Int32.ofNat (i + 1))) B := ⟨by rw [up2_o (by omega)]; exact c6.1, c6.2.1, c6.2.2.1, by rw [up2_o (by omega)]; exact c6.2.2.2.1, c6.2.2.2.2⟩
  have hA1 : ∀ a b, (a ≠ 68 ∨ (b ≠ 10 ∧ b ≠ 11)) → up2 A 68 10 (Int32.ofNat (i + 1)) a b = A a b := fun a b y => up2_o (by omega)
  have dp24 := c6.2.2.1
  have haft : aft B0 Z (F m + i) t l = l := by unfold aft; rw [if_neg (by omega)]
  have hef' : (if mrt B0 Z m = 0 then some t else tkk (mrt B0 Z m) t) = some t' := by
    have : efB B0 Z m (F m + i) t l = if mrt B0 Z m = 0 then some t else tkk (mrt B0 Z m) t := by unfold efB; rw [ho]; rfl
    rw [this] at hef; exact hef
  obtain ⟨-, -, -, -, hh⟩ := hLk.2.1.2.2.2.2.2.2.1 m r10
  obtain ⟨ha3, rr, hr2, hb20⟩ : A (P + 8) (16 * m + 3) = B (Z + 20) m ∧ ∃ r, r ≤ 2 ∧ B (Z + 20) m = Int32.ofNat r := ⟨hh.2.2.2.2.1, hh.2.2.2.2.2.1⟩
  have hmr : mrt B0 Z m = rr := by unfold mrt; rw [← c1.2 _ _ (by omega), hb20, i32_cl (by omega)]
  rw [hmr] at hef'
  have hi2 : inb (Int32.ofNat m) 24 := (i32_inb (by omega)).mpr (by omega)
  have hcl2 : (Int32.ofNat m).toNatClampNeg = m := i32_cl (by omega)
  have e7 : up2 A 68 10 (Int32.ofNat (i + 1)) 68 7 = Int32.ofNat dp := by rw [up2_o (by omega)]; exact c6.1
  have e8 : up2 A 68 10 (Int32.ofNat (i + 1)) 68 8 = Int32.ofNat m := by rw [up2_o (by omega)]; exact r1
  have hres : tget (up2 A 68 10 (Int32.ofNat (i + 1))) (P + 7) (Int32.ofNat m) 3 = Int32.ofNat rr := by
    simp (disch := omega) only [tP7 hP, up2_o]
    rw [ha3, hb20]
  have hC : x129 P (up2 A 68 10 (Int32.ofNat (i + 1))) (A (P + 10) (3 * (F m + i))) (A (P + 10) (3 * (F m + i) + 1)) (A (P + 10) (3 * (F m + i) + 2)) = if Int32.ofNat dp = 0 then some (up2 (up2 (up2 (up2 A 68 10 (Int32.ofNat (i + 1))) 68 14 (Int32.ofNat rr)) 68 15 (x133 (up2 A 68 10 (Int32.ofNat (i + 1))) 0)) 68 16 (x134 (up2 A 68 10 (Int32.ofNat (i + 1))) 0)) else (x167 (up2 A 68 10 (Int32.ofNat (i + 1)))).bind fun q1 => if Int32.ofNat rr = 0 then some (up2 q1 68 10 ((q1 68 9) + 1)) else x131 (up2 q1 68 10 ((q1 68 9) + 1)) (x133 (up2 A 68 10 (Int32.ofNat (i + 1))) 0) (x134 (up2 A 68 10 (Int32.ofNat (i + 1))) 0) := by
    rw [ka, ho, x129_h (by omega) (by omega), if_neg (by decide), if_neg (by decide), if_neg (by decide), if_neg (by decide), if_pos (by decide)]; unfold x163; rw [if_neg (by decide), if_neg (by decide), if_pos (by decide), Option.bind_fun_some]
    unfold x166
    rw [e7, e8, hres]
    simp only [Option.bind_fun_some]
  have hR : x238 Z B = x260 Z B := by
    rw [x238_d kx r4 kb1 ko (by omega), ho]; unfold actR; rw [if_neg (by decide), if_neg (by decide), if_neg (by decide), if_neg (by decide), if_neg (by decide), if_neg (by decide), if_neg (by decide), if_neg (by decide), if_neg (by decide), if_neg (by decide), if_neg (by decide)]; unfold x251; rw [if_neg (by decide), if_neg (by decide), if_neg (by decide), if_neg (by decide), if_neg (by decide), if_neg (by decide), if_neg (by decide), if_neg (by decide), if_neg (by decide), if_neg (by decide), if_neg (by decide), if_neg (by decide), if_neg (by decide), if_neg (by decide), if_pos (by decide), Option.bind_fun_some]
  unfold x260 at hR
  rw [r2] at hR
  simp only [if_pos hi2, hcl2, hb20] at hR
  -- what is left of the stack: the value that is given back
  obtain ⟨v, v', w, B1, q1, q2, q3, q4, q5⟩ : ∃ v v' w B1, (if Int32.ofNat rr = 0 then some ((0 : Int32), B) else (x240 B).bind fun q1 => some (q1.1, q1.2)) = some (v', B1) ∧ (if Int32.ofNat rr = 0 then some (0 : Int32) else some (B1 82 66)) = some w ∧ (∀ a b, (a ≠ 82 ∨ (b ≠ 65 ∧ b ≠ 66)) → B1 a b = B a b) ∧ (rr ≠ 0 → x133 (up2 A 68 10 (Int32.ofNat (i + 1))) 0 = v ∧ x134 (up2 A 68 10 (Int32.ofNat (i + 1))) 0 = w) ∧ (rr ≠ 0 → VR NO rr v v') := by
    by_cases y : rr = 0
    · subst y
      exact ⟨0, 0, 0, B, if_pos rfl, if_pos rfl, fun _ _ _ => rfl, fun z => absurd rfl z, fun z => absurd rfl z⟩
    · have ny : ¬ Int32.ofNat rr = 0 := by rw [i32_e (x := 0) (b := 0) rfl (by omega) (by decide)]; exact y
      rw [if_neg y] at hef'
      obtain ⟨g1, g2, -⟩ := tkk_y hef'
      have g2 := g2.resolve_left y
      rw [skd_kb] at g2
      obtain ⟨v0, w0, a0, b0, y0, m0⟩ := tp_l hpt c7 (d := 0) (by omega) (y := 0) rfl
      rw [Nat.sub_zero] at y0 m0
      rw [g2] at y0
      obtain ⟨B1, p1, p3, p5, p6⟩ := pop1 c6 (by omega)
      exact ⟨v0, _, w0, B1, by rw [if_neg ny, p1, Option.bind_some], by rw [if_neg ny, p3, m0], p6, fun _ => ⟨a0, b0⟩, fun _ => y0⟩
  rw [q1, Option.bind_some] at hR
  dsimp only at hR
  rw [q2, Option.bind_some] at hR
  have h55 : B1 82 55 = Int32.ofNat dp := by rw [q3 _ _ (by omega)]; exact c6.2.1
  simp only [h55] at hR
  by_cases hd : dp = 0
  · subst hd
    rw [if_pos (show Int32.ofNat 0 = 0 from rfl)] at hC hR
    generalize hA3 : up2 (up2 (up2 (up2 A 68 10 (Int32.ofNat (i + 1))) 68 14 (Int32.ofNat rr)) 68 15 (x133 (up2 A 68 10 (Int32.ofNat (i + 1))) 0)) 68 16 (x134 (up2 A 68 10 (Int32.ofNat (i + 1))) 0) = A3 at hC
    generalize hB3 : up2 (up2 (up2 B1 82 34 (Int32.ofNat rr)) 82 35 v') 82 36 w = B3 at hR
    have fA : ∀ a b, (a ≠ 68 ∨ (b ≠ 10 ∧ b ≠ 14 ∧ b ≠ 15 ∧ b ≠ 16)) → A3 a b = A a b := fun a b y => by rw [← hA3, up2_o (by omega), up2_o (by omega), up2_o (by omega), up2_o (by omega)]
    have fB : ∀ a b, (a ≠ 82 ∨ (b ≠ 34 ∧ b ≠ 35 ∧ b ≠ 36 ∧ b ≠ 65 ∧ b ≠ 66)) → B3 a b = B a b := fun a b y => by rw [← hB3, up2_o (by omega), up2_o (by omega), up2_o (by omega), q3 a b (by omega)]
    have e14 : A3 68 14 = Int32.ofNat rr := by rw [← hA3, up2_o (by omega), up2_o (by omega), up2_s]
    have e34 : B3 82 34 = Int32.ofNat rr := by rw [← hB3, up2_o (by omega), up2_o (by omega), up2_s]
    have e12 : A3 68 12 = 0 := by rw [fA _ _ (by omega)]; exact r7
    have e17 : A3 68 17 = Int32.ofNat c := by rw [fA _ _ (by omega)]; exact r8
    have e37 : B3 82 37 = Int32.ofNat c := by rw [fB _ _ (by omega)]; exact r9
    have n4 : ¬ (4 : Int32) ≤ Int32.ofNat rr := by rw [i32_l2 (x := 4) (b := 4) rfl (by omega) (by decide)]; omega
    have gA : ∀ a b, (a ≠ 68 ∨ (b ≠ 9 ∧ b ≠ 17)) → up2 (up2 A3 68 17 (Int32.ofNat (c + 1))) 68 9 (A3 68 10) a b = A3 a b := fun a b y => by rw [up2_o (by omega), up2_o (by omega)]
    have gB : ∀ a b, (a ≠ 82 ∨ b ≠ 37) → up2 B3 82 37 (Int32.ofNat (c + 1)) a b = B3 a b := fun a b y => up2_o (by omega)
    have hval : rr ≠ 0 → A3 68 15 = v ∧ A3 68 16 = w ∧ B3 82 35 = v' ∧ B3 82 36 = w := fun y => ⟨by rw [← hA3, up2_o (by omega), up2_s]; exact (q4 y).1, by rw [← hA3, up2_s]; exact (q4 y).2, by rw [← hB3, up2_o (by omega), up2_s], by rw [← hB3, up2_s]⟩
    refine ⟨up2 (up2 A3 68 17 (Int32.ofNat (c + 1))) 68 9 (A3 68 10), up2 B3 82 37 (Int32.ofNat (c + 1)), ?_, ?_, Or.inr ⟨oa, os, hk, NO, U, EV, rr, c + 1, ?_, ?_, by omega, ?_, ?_, by omega, ?_, up2_s _ _ _ _, fun y => ?_, fun y => ?_⟩⟩
    · rw [tnC_e hP hP2 hLk ⟨r1, r2, r3, r4, r5, r6, r7, r8, r9, r10, r11, r12⟩, hC, Option.bind_some, e14, if_neg n4, Option.bind_some, up2_o (by omega), e12, if_pos rfl, up2_o (by omega), e17, i32_s]
    · unfold tnR; rw [hR, Option.bind_some, e34, if_neg n4, e37, i32_s]
    · exact c1.of (fun a b _ _ => by rw [gA a b (by omega), fA a b (by omega)]) (fun a b _ => by rw [gB a b (by omega), fB a b (by omega)])
    · exact c2.of (fun a b _ => by rw [gA a b (by omega), fA a b (by omega)]) (fun a b _ => by rw [gB a b (by omega), fB a b (by omega)])
    · rw [gA _ _ (by omega)]; exact e14
    · rw [gB _ _ (by omega)]; exact e34
    · rw [up2_o (by omega), up2_s]
    · obtain ⟨x1, x2, x3, x4⟩ := hval (by omega)
      rw [gA _ _ (by omega), gA _ _ (by omega), gB _ _ (by omega), gB _ _ (by omega), x1, x2, x3, x4]
      have := q5 (by omega)
      rw [y] at this
      exact ⟨this.i, rfl⟩
    · have y : rr = 2 := by omega
      obtain ⟨x1, x2, x3, x4⟩ := hval (by omega)
      rw [gA _ _ (by omega), gA _ _ (by omega), gB _ _ (by omega), gB _ _ (by omega), x1, x2, x3, x4]
      have := q5 (by omega)
      rw [y] at this
      rcases this.r with ⟨z1, z2⟩ | ⟨z, -, z1, z2⟩
      · rw [z1, z2]; exact ⟨by decide, rfl⟩
      · rw [z1, z2, i32_p]; exact ⟨rfl, rfl⟩
  · obtain ⟨g, rfl⟩ : ∃ g, dp = g + 1 := ⟨dp - 1, by omega⟩
    have nd : ¬ Int32.ofNat (g + 1) = 0 := by rw [i32_e (x := 0) (b := 0) rfl (by omega) (by decide)]; omega
    rw [if_neg nd] at hC hR
    have hu : UWs Z k F B0 VV NO (g + 1) m i fr l (up2 A 68 10 (Int32.ofNat (i + 1))) B1 := by
      refine ⟨fun g' hg => ?_, e7, h55, dp24, e8, by rw [q3 _ _ (by omega)]; exact r2, by rw [up2_o (by omega)]; exact r3, by rw [q3 _ _ (by omega)]; exact r4, r10, r11, ?_, t, c5⟩
      · obtain ⟨y1, y2⟩ := c3 g' hg
        exact ⟨y1.of (Nat.le_refl _) (fun a b y => up2_o (by omega)) (fun a b y => q3 a b (by omega)), y2⟩
      · exact (c7.of (Nat.le_refl _) (fun b _ _ => up2_o (by omega)) (fun a b _ _ _ => q3 _ _ (by omega)) k16).pop (h' := 0) (r' := 0) (by omega) (fun j hj => by omega)
    obtain ⟨A2, B2, a1, b1, fa, fb, hu2, a11, b65⟩ := back_l hu
    obtain ⟨u1, u2, u3, u4, u5, u6, u7, u8, u9, u10, u11, -⟩ := hu2
    obtain ⟨⟨s1, s2, ⟨t0, s3⟩, s4, s5, s6, s7, -, -, -, -, -, -, t'', s8, s9, s10⟩, s11⟩ := c3 g (by omega)
    have el : lvm fr (g + 1) m (g + 1) = m := if_pos rfl
    rw [el, hmr] at s11
    rw [s11] at s8
    generalize hm1 : (fr g).1 = m1 at *
    generalize hi1 : (fr g).2.1 = i1 at *
    generalize htl : (fr g).2.2.1 = tl at *
    generalize hll : (fr g).2.2.2 = ll at *
    rw [a1, Option.bind_some, u7, i32_s] at hC
    rw [b1, Option.bind_some, u8, i32_s] at hR
    have gA : ∀ a b, (a ≠ 68 ∨ (b ≠ 7 ∧ b ≠ 8 ∧ b ≠ 9 ∧ b ≠ 10 ∧ b ≠ 11)) → up2 A2 68 10 (Int32.ofNat (i1 + 1)) a b = A a b := fun a b y => by rw [up2_o (by omega), fa a b (by omega), up2_o (by omega)]
    have gB : ∀ a b, (a ≠ 82 ∨ (b ≠ 55 ∧ b ≠ 63 ∧ b ≠ 64 ∧ b ≠ 65 ∧ b ≠ 66)) → up2 B2 82 64 (Int32.ofNat (F m1 + i1 + 1)) a b = B a b := fun a b y => by rw [up2_o (by omega), fb a b (by omega), q3 a b (by omega)]
    have hpt2 : PT g tl.1 (up2 A2 68 10 (Int32.ofNat (i1 + 1))) (up2 B2 82 64 (Int32.ofNat (F m1 + i1 + 1))) := ⟨by rw [up2_o (by omega)]; exact u2, by rw [up2_o (by omega)]; exact u3, u4, by rw [up2_o (by omega)]; exact a11, by rw [up2_o (by omega)]; exact b65, s6⟩
    have hfv2 : FV NO g tl.1 tl.2 ll (up2 A2 68 10 (Int32.ofNat (i1 + 1))) (up2 B2 82 64 (Int32.ofNat (F m1 + i1 + 1))) := s7.of (Nat.le_refl _) (fun b _ _ => gA _ _ (by omega)) (fun a b _ _ _ => gB _ _ (by omega)) s6
    -- what both sides come to
    obtain ⟨A3, B3, h3, h4, hpt3, hfv3, fA3, fB3⟩ : ∃ A3 B3, x129 P (up2 A 68 10 (Int32.ofNat (i + 1))) (A (P + 10) (3 * (F m + i))) (A (P + 10) (3 * (F m + i) + 1)) (A (P + 10) (3 * (F m + i) + 2)) = some A3 ∧ x238 Z B = some B3 ∧ PT g t''.1 A3 B3 ∧ FV NO g t''.1 t''.2 ll A3 B3 ∧ (∀ a b, (a ≠ 68 ∨ b ≠ 11) → (a ≠ 81 ∨ b < 64 * g ∨ 64 * g + 64 ≤ b) → A3 a b = up2 A2 68 10 (Int32.ofNat (i1 + 1)) a b) ∧ ∀ a b, (a ≠ 82 ∨ b ≠ 65) → (a < 198 ∨ 199 < a ∨ b < 16 * g ∨ 16 * g + 16 ≤ b) → B3 a b = up2 B2 82 64 (Int32.ofNat (F m1 + i1 + 1)) a b := by
      by_cases y : rr = 0
      · subst y
        rw [if_pos (show Int32.ofNat 0 = 0 from rfl)] at hC hR
        have et : tl = t'' := Option.some.inj s8
        subst et
        exact ⟨_, _, hC, hR, hpt2, hfv2, fun _ _ _ _ => rfl, fun _ _ _ _ => rfl⟩
      · have ny : ¬ Int32.ofNat rr = 0 := by rw [i32_e (x := 0) (b := 0) rfl (by omega) (by decide)]; exact y
        rw [if_neg ny, (q4 y).1, (q4 y).2] at hC
        rw [if_neg ny, Option.bind_fun_some] at hR
        have s8' : psg rr tl = some t'' := by unfold pso at s8; rw [if_neg y] at s8; exact s8
        obtain ⟨x1, rfl⟩ := psg_y s8'
        obtain ⟨A3, B3, x2, x3, x4, x5, x6, x7⟩ := psb (v := v) (v' := v') (w := w) (kd := rr) hpt2 hfv2 x1 s5.2 (q5 y) (by omega)
        exact ⟨A3, B3, hC.trans x2, hR.trans x3, x4, x5, fun a b z1 z2 => x6 a b z1 (by omega), fun a b z1 z2 => x7 a b z1 (by omega)⟩
    obtain ⟨l2, hv2, ho2⟩ := s10
    obtain ⟨z0, -, tyr⟩ := hT m1 s1
    have hful := (tyr i1 t0 ll s2 s3).2.2.2.2
    have e14 : A3 68 14 = -1 := by rw [fA3 _ _ (by omega) (by omega), gA _ _ (by omega)]; exact r5
    have e12 : A3 68 12 = 0 := by rw [fA3 _ _ (by omega) (by omega), gA _ _ (by omega)]; exact r7
    have e17 : A3 68 17 = Int32.ofNat c := by rw [fA3 _ _ (by omega) (by omega), gA _ _ (by omega)]; exact r8
    have e10 : A3 68 10 = Int32.ofNat (i1 + 1) := by rw [fA3 _ _ (by omega) (by omega), up2_s]
    have e34 : B3 82 34 = -1 := by rw [fB3 _ _ (by omega) (by omega), gB _ _ (by omega)]; exact r6
    have e37 : B3 82 37 = Int32.ofNat c := by rw [fB3 _ _ (by omega) (by omega), gB _ _ (by omega)]; exact r9
    have kA : ∀ a b, (a ≠ 68 ∨ (b ≠ 7 ∧ b ≠ 8 ∧ b ≠ 9 ∧ b ≠ 10 ∧ b ≠ 11 ∧ b ≠ 17)) → (a ≠ 81 ∨ b < 64 * g ∨ 64 * g + 64 ≤ b) → up2 (up2 A3 68 17 (Int32.ofNat (c + 1))) 68 9 (Int32.ofNat (i1 + 1)) a b = A a b := fun a b z1 z2 => by rw [up2_o (by omega), up2_o (by omega), fA3 a b (by omega) z2, gA a b (by omega)]
    have kB : ∀ a b, (a ≠ 82 ∨ (b ≠ 37 ∧ b ≠ 55 ∧ b ≠ 63 ∧ b ≠ 64 ∧ b ≠ 65 ∧ b ≠ 66)) → (a < 198 ∨ 199 < a ∨ b < 16 * g ∨ 16 * g + 16 ≤ b) → up2 B3 82 37 (Int32.ofNat (c + 1)) a b = B a b := fun a b z1 z2 => by rw [up2_o (by omega), fB3 a b (by omega) z2, gB a b (by omega)]
    refine ⟨up2 (up2 A3 68 17 (Int32.ofNat (c + 1))) 68 9 (Int32.ofNat (i1 + 1)), up2 B3 82 37 (Int32.ofNat (c + 1)), ?_, ?_, Or.inl ⟨oa, os, hk, NO, U, EV, g, m1, i1 + 1, fr, t'', l2, ?_, ?_, fun g' hgd => ?_, ⟨?_, ?_, ?_, ?_, ?_, ?_, ?_, ?_, ?_, s1, s9, by omega⟩, hv2, ⟨?_, ?_, u4, ?_, ?_, hpt3.2.2.2.2.2⟩, ?_⟩⟩
    · rw [tnC_e hP hP2 hLk ⟨r1, r2, r3, r4, r5, r6, r7, r8, r9, r10, r11, r12⟩, h3, Option.bind_some, if_neg (by rw [e14]; decide), Option.bind_some, up2_o (by omega), e12, if_pos rfl, up2_o (by omega), e10, e17, i32_s]
    · unfold tnR; rw [h4, Option.bind_some, if_neg (by rw [e34]; decide), e37, i32_s]
    · exact c1.of (fun a b _ _ => kA a b (by omega) (by omega)) (fun a b _ => kB a b (by omega) (by omega))
    · exact c2.of (fun a b _ => kA a b (by omega) (by omega)) (fun a b _ => kB a b (by omega) (by omega))
    · obtain ⟨y1, y2⟩ := c3 g' (by omega)
      refine ⟨y1.of (Nat.le_refl _) (fun a b _ => kA a b (by omega) (by omega)) (fun a b _ => kB a b (by omega) (by omega)), ?_⟩
      rw [y2]
      congr 1
      unfold lvm
      by_cases q : g' + 1 = g
      · rw [if_pos q, if_neg (by omega), q, hm1]
      · rw [if_neg q, if_neg (by omega)]
    · rw [up2_o (by omega), up2_o (by omega), fA3 _ _ (by omega) (by omega), up2_o (by omega)]; exact u5
    · rw [up2_o (by omega), fB3 _ _ (by omega) (by omega), up2_o (by omega)]; exact u6
    · rw [up2_s]
    · rw [up2_o (by omega), fB3 _ _ (by omega) (by omega), up2_s]; rfl
    · rw [up2_o (by omega), up2_o (by omega)]; exact e14
    · rw [up2_o (by omega)]; exact e34
    · rw [up2_o (by omega), up2_o (by omega)]; exact e12
    · rw [up2_o (by omega), up2_s]
    · rw [up2_s]
    · rw [up2_o (by omega), up2_o (by omega)]; exact hpt3.1
    · rw [up2_o (by omega)]; exact hpt3.2.1
    · rw [up2_o (by omega), up2_o (by omega)]; exact hpt3.2.2.2.1
    · rw [up2_o (by omega)]; exact hpt3.2.2.2.2.1
    · exact (hfv3.wk ho2 hful).of (Nat.le_refl _) (fun b _ _ => by rw [up2_o (by omega), up2_o (by omega)]) (fun a b _ _ _ => up2_o (by omega)) hpt3.2.2.2.2.2
end
