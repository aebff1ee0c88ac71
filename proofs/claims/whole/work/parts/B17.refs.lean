/-! is, as, length, throw, sink, statics -/
section
variable {P Z n k s : Nat} {E F G p oa os hk : Nat → Nat} {A0 B0 A B A' B' : St} {VV : Nat → Nat → Option VEn} {NO U EV dp m i c x o : Nat} {fr : Nat → FrT} {t : Nat × Nat} {l : Nat × Nat × Nat}
theorem cls_l {r : Nat} {I : St} (hg : GCo B0 Z n s p E oa os hk NO U EV A B) (hr : r < NO) (hA : I 71 (4 * r) = A 71 (4 * r)) : x149 I (Int32.ofNat r) = B 181 r ∧ r < 3000 := by
  have hN := hg.1.2.2.2.2.2.1
  refine ⟨?_, by omega⟩
  unfold x149
  simp (disch := omega) only [m70]
  rw [hA]; exact (hg.1.2.2.2.2.2.2.1 r hr).1
theorem i32_n0 {a : Nat} (h : a < 2147483647) : Int32.ofNat (a + 1) ≠ 0 := fun z => by
  rw [i32_e (x := 0) (b := 0) rfl (by omega) (by decide)] at z; omega
theorem rpp (c6 : PT dp t.1 A B) (h0 : 0 < t.1) : ∃ B1 B2, x240 B = some (B 198 (16 * dp + (t.1 - 1)), B1) ∧ B1 82 66 = B 199 (16 * dp + (t.1 - 1)) ∧ B1 82 65 = Int32.ofNat (t.1 - 1) ∧ (∀ a b, (a ≠ 82 ∨ (b ≠ 65 ∧ b ≠ 66)) → B1 a b = B a b) ∧ x239 B1 (B 198 (16 * dp + (t.1 - 1))) (B 199 (16 * dp + (t.1 - 1))) = some B2 ∧ B2 82 65 = Int32.ofNat t.1 ∧ ∀ a b, (a ≠ 82 ∨ (b ≠ 65 ∧ b ≠ 66)) → B2 a b = B a b := by
  obtain ⟨B1, b1, b2, b3, b4⟩ := pop1 c6 h0
  have dp24 := c6.2.2.1
  have t16 := c6.2.2.2.2.2
  have hptB : PT dp (t.1 - 1) (up2 A 68 11 (Int32.ofNat (t.1 - 1))) B1 := ⟨by rw [up2_o (by omega)]; exact c6.1, by rw [b4 _ _ (by omega)]; exact c6.2.1, dp24, up2_s _ _ _ _, b3, by omega⟩
  refine ⟨B1, _, b1, b2, b3, b4, rps_n hptB (by omega), ?_, fun a b y => ?_⟩
  · rw [up2_s, show t.1 - 1 + 1 = t.1 by omega]
  · rw [up2_o (by omega)]
    by_cases y1 : a = 199 ∧ b = 16 * dp + (t.1 - 1)
    · rw [y1.1, y1.2, up2_s]
    · rw [up2_o (by omega)]
      by_cases y2 : a = 198 ∧ b = 16 * dp + (t.1 - 1)
      · rw [y2.1, y2.2, up2_s]
      · rw [up2_o (by omega), b4 a b y]
theorem op_53 (hP : Hid (P = 3 ∨ P = 18)) (hP2 : 3 ≤ P ∧ P ≤ 18) (hZ2 : 85 ≤ Z ∧ Z ≤ 126) (hL : Lkd P Z n k s E F G p A0 B0) (hT : ∀ m, m < k → TyM B0 Z m (F (m + 1) - F m) (F m) G (VV m)) (h : MC P Z n k s E F p A0 B0 VV oa os hk NO U EV dp m i c fr t l A B) (hc : c < 20000) (ho : opn B0 Z (F m + i) = 53) : StepOK P Z n k s E F p A0 B0 VV c A B := by
  have hkn := kno hP hZ2 hL hT h
  obtain ⟨hLk, kx, ko, kt, k16, klo, kfu, klp, kvis, ka, kb1, kF, kF2, kk, k27⟩ := hkn
  have h' := h
  obtain ⟨c1, c2, c3, ⟨r1, r2, r3, r4, r5, r6, r7, r8, r9, r10, r11, r12⟩, c5, c6, c7⟩ := h'
  obtain ⟨t', hef, hnx, hlb, htr⟩ := kvis
  have hpt : PT dp t.1 (up2 A 68 10 (Int32.ofNat (i + 1))) B := ⟨by rw [up2_o (by omega)]; exact c6.1, c6.2.1, c6.2.2.1, by rw [up2_o (by omega)]; exact c6.2.2.2.1, c6.2.2.2.2⟩
  have hA1 : ∀ a b, (a ≠ 68 ∨ (b ≠ 10 ∧ b ≠ 11)) → up2 A 68 10 (Int32.ofNat (i + 1)) a b = A a b := fun a b y => up2_o (by omega)
  have dp24 := c6.2.2.1
  have haft : aft B0 Z (F m + i) t l = l := by unfold aft; rw [if_neg (by omega)]
  obtain ⟨hi3, hinc⟩ := hnx (by omega)
  rw [haft] at hinc
  have hef' : (tkz [2] t).bind (pso 1) = some t' := by
    have : efB B0 Z m (F m + i) t l = (tkz [2] t).bind (pso 1) := by unfold efB; rw [ho]; rfl
    rw [this] at hef; exact hef
  obtain ⟨u, g1, g2⟩ := Option.bind_eq_some_iff.mp hef'
  obtain ⟨z1, z2, z3, z4, z5⟩ := tkz_y g1 kt
  obtain ⟨q3, rfl⟩ := psg_y (show psg 1 u = some t' from g2)
  obtain ⟨ux, ur⟩ := u
  have z1 : 1 ≤ t.1 := z1
  have z2 : ux = t.1 - 1 := z2
  subst z2
  have z3 : ∀ j, j < t.1 - 1 → kbt ur j = kbt t.2 j := z3
  obtain ⟨v0, w0, a0, b0, y0, m0⟩ := tp_l hpt c7 (d := 0) (by omega) (y := 0) rfl
  have k0 : kbt t.2 (t.1 - 1 - 0) = 2 := (z5 0 (by decide)).resolve_left (by decide)
  rw [k0] at y0
  rw [Nat.sub_zero] at y0 m0
  obtain ⟨B1, p1, p3, p5, p6⟩ := pop1 c6 (by omega)
  have hLk1 : Lkd P Z n k s E F G p (up2 A 68 10 (Int32.ofNat (i + 1))) B1 := hLk.of (fun a b y1 y2 _ => up2_o (by omega)) (fun a b y => p6 a b (by omega))
  have hg1 : GCo B0 Z n s p E oa os hk NO U EV (up2 A 68 10 (Int32.ofNat (i + 1))) B1 := c2.of (fun a b y => up2_o (by omega)) (fun a b y => p6 a b (by omega))
  have hn7 := hL.1.2.2.1
  obtain ⟨o, o1, o2, o3, o4, o5, o6, o7, o8, o9⟩ := klp
  have eo : o = 53 := by rw [kb1, ho, i32_eq (by omega) (Nat.lt_trans o1 (by decide))] at o3; exact o3.symm
  subst eo
  obtain ⟨d, d1, d2, d3⟩ := o8 (by decide)
  clear o4 o5 o6 o7 o8 o9
  have hi : inb (Int32.ofNat (F m + i)) 2400 := (i32_inb (by omega)).mpr (by omega)
  have hcl : (Int32.ofNat (F m + i)).toNatClampNeg = F m + i := i32_cl (by omega)
  have hR : ∃ q, (if v0 = -1 then some (0 : Int32) else (x150 P (up2 A 68 10 (Int32.ofNat (i + 1))) (x149 (up2 A 68 10 (Int32.ofNat (i + 1))) v0) (Int32.ofNat d)).bind fun q1 => if q1 = 0 then some 0 else some 1) = some q ∧ (if B 198 (16 * dp + (t.1 - 1)) = 0 then some (0 : Int32) else (x246 Z B1 (B 198 (16 * dp + (t.1 - 1))) (Int32.ofNat d)).bind fun q23 => if q23 = 0 then some 0 else some 1) = some q := by
    rcases y0.r with ⟨y1, y2⟩ | ⟨r, hr, y1, y2⟩
    · rw [y1, y2, if_pos rfl, if_pos rfl]; exact ⟨0, rfl, rfl⟩
    · obtain ⟨-, cc, hv, -⟩ := ob_cv hn7 hg1 hr
      obtain ⟨e1, e2⟩ := cls_l hg1 hr rfl
      rw [y1, y2, if_neg (i32_m1 (by omega)), if_neg (i32_n0 (by omega)), e1, x150_n hP hLk1.1 hv d1, x246_n hLk1.1 (by omega) hv d1]
      exact ⟨if isb p cc d = 0 then 0 else 1, by rw [Option.bind_some]; split <;> rfl, by rw [Option.bind_some]; split <;> rfl⟩
  obtain ⟨q, q1, q2⟩ := hR
  refine nx_push (A1 := up2 (up2 A 68 10 (Int32.ofNat (i + 1))) 68 11 (Int32.ofNat (t.1 - 1))) (B1 := B1) (h0 := t.1 - 1) (r0 := ur) (kd := 1) (v := q) (v' := q) (w := w0) hP hP2 hZ2 hL hT h hc (fun a b y => by rw [up2_o (by omega), up2_o (by omega)]) (by rw [up2_o (by omega), up2_s]) p6 ⟨by rw [up2_o (by omega)]; exact hpt.1, by rw [p6 _ _ (by omega)]; exact hpt.2.1, dp24, up2_s _ _ _ _, p5, by omega⟩ (by omega) (by omega) z3 z4.2 (Or.inl ⟨rfl, rfl⟩) (Or.inl rfl) hi3 hinc kfu ?_ ?_
  · rw [ka, ho, x129_h (by omega) (by omega), if_neg (by decide), if_neg (by decide), if_neg (by decide), if_neg (by decide), if_neg (by decide)]; unfold x168; rw [if_pos (by decide), d2, a0, b0, q1, Option.bind_some, Option.bind_fun_some]; unfold x136; rw [drp_n hpt (j := 1) (x := 1) (by omega) rfl, Option.bind_some, Option.bind_fun_some]
  · rw [x238_d kx r4 kb1 ko (by omega), ho]; unfold actR; rw [if_neg (by decide), if_neg (by decide), if_neg (by decide), if_neg (by decide), if_neg (by decide), if_neg (by decide), if_neg (by decide), if_neg (by decide), if_neg (by decide), if_neg (by decide), if_neg (by decide)]; unfold x251; rw [if_neg (by decide), if_neg (by decide), if_neg (by decide), if_neg (by decide), if_neg (by decide), if_neg (by decide), if_neg (by decide), if_neg (by decide), if_neg (by decide), if_neg (by decide), if_neg (by decide), if_neg (by decide), if_neg (by decide), if_neg (by decide), if_neg (by decide), if_neg (by decide), if_pos (by decide), p1, Option.bind_some]
    dsimp only
    simp only [if_pos hi, hcl]
    rw [p6 (Z + 33) _ (by omega), d3, q2, Option.bind_some, p3, m0, i32_s]
theorem op_54 (hP : Hid (P = 3 ∨ P = 18)) (hP2 : 3 ≤ P ∧ P ≤ 18) (hZ2 : 85 ≤ Z ∧ Z ≤ 126) (hL : Lkd P Z n k s E F G p A0 B0) (hT : ∀ m, m < k → TyM B0 Z m (F (m + 1) - F m) (F m) G (VV m)) (h : MC P Z n k s E F p A0 B0 VV oa os hk NO U EV dp m i c fr t l A B) (hc : c < 20000) (ho : opn B0 Z (F m + i) = 54) : StepOK P Z n k s E F p A0 B0 VV c A B := by
  have hkn := kno hP hZ2 hL hT h
  obtain ⟨hLk, kx, ko, kt, k16, klo, kfu, klp, kvis, ka, kb1, kF, kF2, kk, k27⟩ := hkn
  have h' := h
  obtain ⟨c1, c2, c3, ⟨r1, r2, r3, r4, r5, r6, r7, r8, r9, r10, r11, r12⟩, c5, c6, c7⟩ := h'
  obtain ⟨t', hef, hnx, hlb, htr⟩ := kvis
  have hpt : PT dp t.1 (up2 A 68 10 (Int32.ofNat (i + 1))) B := ⟨by rw [up2_o (by omega)]; exact c6.1, c6.2.1, c6.2.2.1, by rw [up2_o (by omega)]; exact c6.2.2.2.1, c6.2.2.2.2⟩
  have hA1 : ∀ a b, (a ≠ 68 ∨ (b ≠ 10 ∧ b ≠ 11)) → up2 A 68 10 (Int32.ofNat (i + 1)) a b = A a b := fun a b y => up2_o (by omega)
  have dp24 := c6.2.2.1
  have haft : aft B0 Z (F m + i) t l = l := by unfold aft; rw [if_neg (by omega)]
  obtain ⟨hi3, hinc⟩ := hnx (by omega)
  rw [haft] at hinc
  have hef' : (tkz [2] t).bind (pso 2) = some t' := by
    have : efB B0 Z m (F m + i) t l = (tkz [2] t).bind (pso 2) := by unfold efB; rw [ho]; rfl
    rw [this] at hef; exact hef
  obtain ⟨u, g1, g2⟩ := Option.bind_eq_some_iff.mp hef'
  obtain ⟨z1, z2, z3, z4, z5⟩ := tkz_y g1 kt
  obtain ⟨q3, rfl⟩ := psg_y (show psg 2 u = some t' from g2)
  obtain ⟨g3, g4, rfl⟩ := tkk_y (show tkk 2 t = some u from by rw [tkz] at g1; obtain ⟨x, x1, x2⟩ := Option.bind_eq_some_iff.mp g1; cases x2; exact x1)
  have g4 : skd t = 2 := g4.resolve_left (by decide)
  have est := sp_id g3 kt
  rw [g4] at est
  rw [est] at hinc
  obtain ⟨v0, w0, a0, b0, y0, m0⟩ := tp_l hpt c7 (d := 0) (by omega) (y := 0) rfl
  rw [Nat.sub_zero] at y0 m0
  rw [← skd_kb, g4] at y0
  obtain ⟨B1, B2, p1, p3, p5, p6, s1, s2, s3⟩ := rpp c6 g3
  have hLk1 : Lkd P Z n k s E F G p (up2 A 68 10 (Int32.ofNat (i + 1))) B1 := hLk.of (fun a b y1 y2 _ => up2_o (by omega)) (fun a b y => p6 a b (by omega))
  have hg1 : GCo B0 Z n s p E oa os hk NO U EV (up2 A 68 10 (Int32.ofNat (i + 1))) B1 := c2.of (fun a b y => up2_o (by omega)) (fun a b y => p6 a b (by omega))
  have hn7 := hL.1.2.2.1
  obtain ⟨o, o1, o2, o3, o4, o5, o6, o7, o8, o9⟩ := klp
  have eo : o = 54 := by rw [kb1, ho, i32_eq (by omega) (Nat.lt_trans o1 (by decide))] at o3; exact o3.symm
  subst eo
  obtain ⟨d, d1, d2, d3⟩ := o8 (by decide)
  clear o4 o5 o6 o7 o8 o9
  have hi : inb (Int32.ofNat (F m + i)) 2400 := (i32_inb (by omega)).mpr (by omega)
  have hcl : (Int32.ofNat (F m + i)).toNatClampNeg = F m + i := i32_cl (by omega)
  have hC : x129 P (up2 A 68 10 (Int32.ofNat (i + 1))) (A (P + 10) (3 * (F m + i))) (A (P + 10) (3 * (F m + i) + 1)) (A (P + 10) (3 * (F m + i) + 2)) = if v0 = -1 then some (up2 A 68 10 (Int32.ofNat (i + 1))) else (x150 P (up2 A 68 10 (Int32.ofNat (i + 1))) (x149 (up2 A 68 10 (Int32.ofNat (i + 1))) v0) (Int32.ofNat d)).bind fun q4 => if q4 = 0 then x138 (up2 A 68 10 (Int32.ofNat (i + 1))) 6 w0 else some (up2 A 68 10 (Int32.ofNat (i + 1))) := by
    rw [ka, ho, x129_h (by omega) (by omega), if_neg (by decide), if_neg (by decide), if_neg (by decide), if_neg (by decide), if_neg (by decide)]; unfold x168; rw [if_neg (by decide), if_pos (by decide), d2, a0, b0]; simp only [Option.bind_fun_some]
  have hR : x238 Z B = if B 198 (16 * dp + (t.1 - 1)) = 0 then some (up2 B2 82 64 (Int32.ofNat (F m + i + 1))) else (x246 Z B1 (B 198 (16 * dp + (t.1 - 1))) (Int32.ofNat d)).bind fun q28 => if q28 = 0 then x243 Z B1 6 w0 else some (up2 B2 82 64 (Int32.ofNat (F m + i + 1))) := by
    rw [x238_d kx r4 kb1 ko (by omega), ho]; unfold actR; rw [if_neg (by decide), if_neg (by decide), if_neg (by decide), if_neg (by decide), if_neg (by decide), if_neg (by decide), if_neg (by decide), if_neg (by decide), if_neg (by decide), if_neg (by decide), if_neg (by decide)]; unfold x251; rw [if_neg (by decide), if_neg (by decide), if_neg (by decide), if_neg (by decide), if_neg (by decide), if_neg (by decide), if_neg (by decide), if_neg (by decide), if_neg (by decide), if_neg (by decide), if_neg (by decide), if_neg (by decide), if_neg (by decide), if_neg (by decide), if_neg (by decide), if_neg (by decide), if_neg (by decide), p1, Option.bind_some]
    dsimp only
    simp only [if_pos hi, hcl, Option.bind_fun_some]
    rw [p6 (Z + 33) _ (by omega), d3, p3, s1, m0, i32_s]
    rfl
  have hok : ∀ (eA : x129 P (up2 A 68 10 (Int32.ofNat (i + 1))) (A (P + 10) (3 * (F m + i))) (A (P + 10) (3 * (F m + i) + 1)) (A (P + 10) (3 * (F m + i) + 2)) = some (up2 A 68 10 (Int32.ofNat (i + 1)))) (eB : x238 Z B = some (up2 B2 82 64 (Int32.ofNat (F m + i + 1)))), StepOK P Z n k s E F p A0 B0 VV c A B := fun eA eB => nx_pop (A1 := up2 A 68 10 (Int32.ofNat (i + 1))) (B1 := up2 B2 82 64 (Int32.ofNat (F m + i + 1))) (h0 := t.1) (r0 := t.2) (i' := i + 1) hP hP2 hZ2 hL hT h hc hA1 (up2_s _ _ _ _) (fun a b y => by rw [up2_o (by omega), s3 a b (by omega)]) (by rw [up2_s]; rfl) ⟨hpt.1, by rw [up2_o (by omega), s3 _ _ (by omega)]; exact hpt.2.1, dp24, hpt.2.2.2.1, by rw [up2_o (by omega)]; exact s2, k16⟩ (Nat.le_refl _) (fun _ _ => rfl) hi3 hinc kfu eA eB
  rcases y0.r with ⟨y1, y2⟩ | ⟨r, hr, y1, y2⟩
  · rw [y1, if_pos rfl] at hC
    rw [y2, if_pos rfl] at hR
    exact hok hC hR
  · obtain ⟨-, cc, hv, -⟩ := ob_cv hn7 hg1 hr
    obtain ⟨e1, e2⟩ := cls_l hg1 hr rfl
    rw [y1, if_neg (i32_m1 (by omega)), e1, x150_n hP hLk1.1 hv d1, Option.bind_some] at hC
    rw [y2, if_neg (i32_n0 (by omega)), x246_n hLk1.1 (by omega) hv d1, Option.bind_some] at hR
    by_cases q : isb p cc d = 0
    · rw [if_pos q] at hC hR
      exact flt_l (cls := 6) (w := w0) (A1 := up2 A 68 10 (Int32.ofNat (i + 1))) (B1 := B1) hP hP2 hZ2 hL hT h hc (by decide) hA1 p6 hC hR
    · rw [if_neg q] at hC hR
      exact hok hC hR
theorem op_48 (hP : Hid (P = 3 ∨ P = 18)) (hP2 : 3 ≤ P ∧ P ≤ 18) (hZ2 : 85 ≤ Z ∧ Z ≤ 126) (hL : Lkd P Z n k s E F G p A0 B0) (hT : ∀ m, m < k → TyM B0 Z m (F (m + 1) - F m) (F m) G (VV m)) (h : MC P Z n k s E F p A0 B0 VV oa os hk NO U EV dp m i c fr t l A B) (hc : c < 20000) (ho : opn B0 Z (F m + i) = 48) : StepOK P Z n k s E F p A0 B0 VV c A B := by
  have hkn := kno hP hZ2 hL hT h
  obtain ⟨hLk, kx, ko, kt, k16, klo, kfu, klp, kvis, ka, kb1, kF, kF2, kk, k27⟩ := hkn
  have h' := h
  obtain ⟨c1, c2, c3, ⟨r1, r2, r3, r4, r5, r6, r7, r8, r9, r10, r11, r12⟩, c5, c6, c7⟩ := h'
  obtain ⟨t', hef, hnx, hlb, htr⟩ := kvis
  have hpt : PT dp t.1 (up2 A 68 10 (Int32.ofNat (i + 1))) B := ⟨by rw [up2_o (by omega)]; exact c6.1, c6.2.1, c6.2.2.1, by rw [up2_o (by omega)]; exact c6.2.2.2.1, c6.2.2.2.2⟩
  have hA1 : ∀ a b, (a ≠ 68 ∨ (b ≠ 10 ∧ b ≠ 11)) → up2 A 68 10 (Int32.ofNat (i + 1)) a b = A a b := fun a b y => up2_o (by omega)
  have dp24 := c6.2.2.1
  have haft : aft B0 Z (F m + i) t l = l := by unfold aft; rw [if_neg (by omega)]
  obtain ⟨hi3, hinc⟩ := hnx (by omega)
  rw [haft] at hinc
  have hef' : (tkz [2] t).bind (pso 1) = some t' := by
    have : efB B0 Z m (F m + i) t l = (tkz [2] t).bind (pso 1) := by unfold efB; rw [ho]; rfl
    rw [this] at hef; exact hef
  obtain ⟨u, g1, g2⟩ := Option.bind_eq_some_iff.mp hef'
  obtain ⟨z1, z2, z3, z4, z5⟩ := tkz_y g1 kt
  obtain ⟨q3, rfl⟩ := psg_y (show psg 1 u = some t' from g2)
  obtain ⟨ux, ur⟩ := u
  have z1 : 1 ≤ t.1 := z1
  have z2 : ux = t.1 - 1 := z2
  subst z2
  have z3 : ∀ j, j < t.1 - 1 → kbt ur j = kbt t.2 j := z3
  obtain ⟨v0, w0, a0, b0, y0, m0⟩ := tp_l hpt c7 (d := 0) (by omega) (y := 0) rfl
  have k0 : kbt t.2 (t.1 - 1 - 0) = 2 := (z5 0 (by decide)).resolve_left (by decide)
  rw [k0] at y0
  rw [Nat.sub_zero] at y0 m0
  obtain ⟨B1, p1, p3, p5, p6⟩ := pop1 c6 (by omega)
  have hLk1 : Lkd P Z n k s E F G p (up2 A 68 10 (Int32.ofNat (i + 1))) B1 := hLk.of (fun a b y1 y2 _ => up2_o (by omega)) (fun a b y => p6 a b (by omega))
  have hg1 : GCo B0 Z n s p E oa os hk NO U EV (up2 A 68 10 (Int32.ofNat (i + 1))) B1 := c2.of (fun a b y => up2_o (by omega)) (fun a b y => p6 a b (by omega))
  have hn7 := hL.1.2.2.1
  have hC : x129 P (up2 A 68 10 (Int32.ofNat (i + 1))) (A (P + 10) (3 * (F m + i))) (A (P + 10) (3 * (F m + i) + 1)) (A (P + 10) (3 * (F m + i) + 2)) = x161 (up2 A 68 10 (Int32.ofNat (i + 1))) := by
    rw [ka, ho, x129_h (by omega) (by omega), if_neg (by decide), if_neg (by decide), if_neg (by decide), if_pos (by decide)]; unfold x155; rw [if_neg (by decide), if_neg (by decide), if_neg (by decide), if_neg (by decide), if_neg (by decide), if_neg (by decide), Option.bind_fun_some]
  have hR : x238 Z B = x258 Z B (Int32.ofNat (F m + i)) := by
    rw [x238_d kx r4 kb1 ko (by omega), ho]; unfold actR; rw [if_neg (by decide), if_neg (by decide), if_neg (by decide), if_neg (by decide), if_neg (by decide), if_neg (by decide), if_neg (by decide), if_neg (by decide), if_neg (by decide), if_neg (by decide), if_neg (by decide)]; unfold x251; rw [if_neg (by decide), if_neg (by decide), if_neg (by decide), if_neg (by decide), if_neg (by decide), if_neg (by decide), if_neg (by decide), if_neg (by decide), if_neg (by decide), if_neg (by decide), if_neg (by decide), if_pos (by decide), Option.bind_fun_some]
  unfold x161 at hC
  rw [a0, b0] at hC
  unfold x258 at hR
  rw [p1, Option.bind_some] at hR
  dsimp only at hR
  rw [p3, m0] at hR
  simp only [Option.bind_fun_some] at hC hR
  rcases y0.r with ⟨y1, y2⟩ | ⟨r, hr, y1, y2⟩
  · rw [y1, if_pos rfl] at hC
    rw [y2, if_pos rfl, if_pos rfl, Option.bind_some] at hR
    exact flt_l (cls := 2) (w := w0) (A1 := up2 A 68 10 (Int32.ofNat (i + 1))) (B1 := B1) hP hP2 hZ2 hL hT h hc (by decide) hA1 p6 hC hR
  · obtain ⟨-, cc, hv, hob⟩ := ob_cv hn7 hg1 hr
    obtain ⟨e1, e2⟩ := cls_l hg1 hr rfl
    have hNU := hg1.1.2.2.2.2.2.1
    obtain ⟨o1, o2, o3, o4, o5, o6, o7, -⟩ := hg1.1.2.2.2.2.2.2.1 r hr
    have hi : inb (Int32.ofNat r) 3001 := (i32_inb (by omega)).mpr (by omega)
    have hcl : (Int32.ofNat r).toNatClampNeg = r := i32_cl (by omega)
    have e159 : x159 (up2 A 68 10 (Int32.ofNat (i + 1))) (Int32.ofNat r) = Int32.ofNat (os r) := by unfold x159; simp (disch := omega) only [m70]; exact o4
    have e162 : x162 (up2 A 68 10 (Int32.ofNat (i + 1))) (Int32.ofNat r) = B1 184 r := by unfold x162; simp (disch := omega) only [m70]; exact o6
    rw [y1, if_neg (i32_m1 (by omega)), e1, e159, e162] at hC
    have hn0 : ¬ Int32.ofNat (r + 1) = 0 := i32_n0 (by omega)
    rw [y2, if_neg hn0, i32_p] at hR
    simp only [if_pos hi, hcl, if_neg hn0, Option.bind_some] at hR
    by_cases q : B1 181 r < 0
    · rw [if_pos q] at hC hR
      refine nx_push (A1 := up2 (up2 A 68 10 (Int32.ofNat (i + 1))) 68 11 (Int32.ofNat (t.1 - 1))) (B1 := B1) (h0 := t.1 - 1) (r0 := ur) (kd := 1) (v := Int32.ofNat (os r)) (v' := Int32.ofNat (os r)) (w := B1 184 r ||| x153 (up2 A 68 10 (Int32.ofNat (i + 1))) 2 w0) hP hP2 hZ2 hL hT h hc (fun a b y => by rw [up2_o (by omega), up2_o (by omega)]) (by rw [up2_o (by omega), up2_s]) p6 ⟨by rw [up2_o (by omega)]; exact hpt.1, by rw [p6 _ _ (by omega)]; exact hpt.2.1, dp24, up2_s _ _ _ _, p5, by omega⟩ (by omega) (by omega) z3 z4.2 (Or.inl ⟨rfl, rfl⟩) (Or.inl rfl) hi3 hinc kfu ?_ ?_
      · rw [hC]; unfold x136; rw [drp_n hpt (j := 1) (x := 1) (by omega) rfl, Option.bind_some]; simp only [Option.bind_fun_some]
      · have e153 : (if B1 82 6 &&& 2 = 0 then some (0 : Int32) else some w0) = some (x153 (up2 A 68 10 (Int32.ofNat (i + 1))) 2 w0) := by
          unfold x153
          rw [hg1.2.2.2.1]
          split <;> rfl
        rw [hR, e153, Option.bind_some, o5, i32_s]
    · rw [if_neg q] at hC hR
      exact flt_l (cls := 6) (w := w0) (A1 := up2 A 68 10 (Int32.ofNat (i + 1))) (B1 := B1) hP hP2 hZ2 hL hT h hc (by decide) hA1 p6 hC hR
theorem op_52 (hP : Hid (P = 3 ∨ P = 18)) (hP2 : 3 ≤ P ∧ P ≤ 18) (hZ2 : 85 ≤ Z ∧ Z ≤ 126) (hL : Lkd P Z n k s E F G p A0 B0) (hT : ∀ m, m < k → TyM B0 Z m (F (m + 1) - F m) (F m) G (VV m)) (h : MC P Z n k s E F p A0 B0 VV oa os hk NO U EV dp m i c fr t l A B) (hc : c < 20000) (ho : opn B0 Z (F m + i) = 52) : StepOK P Z n k s E F p A0 B0 VV c A B := by
  have hkn := kno hP hZ2 hL hT h
  obtain ⟨hLk, kx, ko, kt, k16, klo, kfu, klp, kvis, ka, kb1, kF, kF2, kk, k27⟩ := hkn
  have h' := h
  obtain ⟨c1, c2, c3, ⟨r1, r2, r3, r4, r5, r6, r7, r8, r9, r10, r11, r12⟩, c5, c6, c7⟩ := h'
  obtain ⟨t', hef, hnx, hlb, htr⟩ := kvis
  have hpt : PT dp t.1 (up2 A 68 10 (Int32.ofNat (i + 1))) B := ⟨by rw [up2_o (by omega)]; exact c6.1, c6.2.1, c6.2.2.1, by rw [up2_o (by omega)]; exact c6.2.2.2.1, c6.2.2.2.2⟩
  have hA1 : ∀ a b, (a ≠ 68 ∨ (b ≠ 10 ∧ b ≠ 11)) → up2 A 68 10 (Int32.ofNat (i + 1)) a b = A a b := fun a b y => up2_o (by omega)
  have dp24 := c6.2.2.1
  have haft : aft B0 Z (F m + i) t l = l := by unfold aft; rw [if_neg (by omega)]
  have hef' : (tkz [2] t).bind (pso 0) = some t' := by
    have : efB B0 Z m (F m + i) t l = (tkz [2] t).bind (pso 0) := by unfold efB; rw [ho]; rfl
    rw [this] at hef; exact hef
  obtain ⟨u, g1, g2⟩ := Option.bind_eq_some_iff.mp hef'
  obtain ⟨z1, z2, z3, z4, z5⟩ := tkz_y g1 kt
  obtain ⟨ux, ur⟩ := u
  have z1 : 1 ≤ t.1 := z1
  have z2 : ux = t.1 - 1 := z2
  subst z2
  have z3 : ∀ j, j < t.1 - 1 → kbt ur j = kbt t.2 j := z3
  obtain ⟨v0, w0, a0, b0, y0, m0⟩ := tp_l hpt c7 (d := 0) (by omega) (y := 0) rfl
  have k0 : kbt t.2 (t.1 - 1 - 0) = 2 := (z5 0 (by decide)).resolve_left (by decide)
  rw [k0] at y0
  rw [Nat.sub_zero] at y0 m0
  obtain ⟨B1, p1, p3, p5, p6⟩ := pop1 c6 (by omega)
  have hLk1 : Lkd P Z n k s E F G p (up2 A 68 10 (Int32.ofNat (i + 1))) B1 := hLk.of (fun a b y1 y2 _ => up2_o (by omega)) (fun a b y => p6 a b (by omega))
  have hg1 : GCo B0 Z n s p E oa os hk NO U EV (up2 A 68 10 (Int32.ofNat (i + 1))) B1 := c2.of (fun a b y => up2_o (by omega)) (fun a b y => p6 a b (by omega))
  have hn7 := hL.1.2.2.1
  have hC : x129 P (up2 A 68 10 (Int32.ofNat (i + 1))) (A (P + 10) (3 * (F m + i))) (A (P + 10) (3 * (F m + i) + 1)) (A (P + 10) (3 * (F m + i) + 2)) = if v0 = -1 then x138 (up2 A 68 10 (Int32.ofNat (i + 1))) 2 w0 else x140 (up2 A 68 10 (Int32.ofNat (i + 1))) v0 w0 := by
    rw [ka, ho, x129_h (by omega) (by omega), if_neg (by decide), if_neg (by decide), if_neg (by decide), if_neg (by decide), if_pos (by decide)]; unfold x163; rw [if_neg (by decide), if_neg (by decide), if_neg (by decide), a0, b0]; simp only [Option.bind_fun_some]
  have hR : x238 Z B = if B 198 (16 * dp + (t.1 - 1)) = 0 then x243 Z B1 2 w0 else x245 Z B1 (B 198 (16 * dp + (t.1 - 1))) w0 := by
    rw [x238_d kx r4 kb1 ko (by omega), ho]; unfold actR; rw [if_neg (by decide), if_neg (by decide), if_neg (by decide), if_neg (by decide), if_neg (by decide), if_neg (by decide), if_neg (by decide), if_neg (by decide), if_neg (by decide), if_neg (by decide), if_neg (by decide)]; unfold x251; rw [if_neg (by decide), if_neg (by decide), if_neg (by decide), if_neg (by decide), if_neg (by decide), if_neg (by decide), if_neg (by decide), if_neg (by decide), if_neg (by decide), if_neg (by decide), if_neg (by decide), if_neg (by decide), if_neg (by decide), if_neg (by decide), if_neg (by decide), if_pos (by decide), p1, Option.bind_some]
    dsimp only
    simp only [Option.bind_fun_some]
    rw [p3, m0]
  rcases y0.r with ⟨y1, y2⟩ | ⟨r, hr, y1, y2⟩
  · rw [y1, if_pos rfl] at hC
    rw [y2, if_pos rfl] at hR
    exact flt_l (cls := 2) (w := w0) (A1 := up2 A 68 10 (Int32.ofNat (i + 1))) (B1 := B1) hP hP2 hZ2 hL hT h hc (by decide) hA1 p6 hC hR
  · have hNU := hg1.1.2.2.2.2.2.1
    rw [y1, if_neg (i32_m1 (by omega))] at hC
    rw [y2, if_neg (i32_n0 (by omega))] at hR
    unfold x140 at hC
    exact thr_l (A1 := up2 (up2 (up2 (up2 A 68 10 (Int32.ofNat (i + 1))) 68 12 1) 68 15 (Int32.ofNat r)) 68 16 w0) (B1 := B1) (r := r) (w := w0) (oa' := oa) (os' := os) (hk' := hk) (NO' := NO) (U' := U) hP hP2 hZ2 hL hT h hc (Nat.le_refl _) (c1.of (fun a b _ _ => by rw [up2_o (by omega), up2_o (by omega), up2_o (by omega), up2_o (by omega)]) (fun a b _ => p6 a b (by omega))) (c2.of (fun a b _ => by rw [up2_o (by omega), up2_o (by omega), up2_o (by omega), up2_o (by omega)]) (fun a b _ => p6 a b (by omega))) (fun a b _ => by rw [up2_o (by omega), up2_o (by omega), up2_o (by omega), up2_o (by omega)]) (fun a b _ => p6 a b (by omega)) (by rw [up2_o (by omega), up2_o (by omega), up2_s]) (by rw [up2_o (by omega), up2_s]) (up2_s _ _ _ _) hr hC hR
end
