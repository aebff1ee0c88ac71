/-! swap, two ints into one -/
section
variable {P Z n k s : Nat} {E F G p oa os hk : Nat → Nat} {A0 B0 A B A' B' : St} {VV : Nat → Nat → Option VEn} {NO U EV dp m i c x o : Nat} {fr : Nat → FrT} {t : Nat × Nat} {l : Nat × Nat × Nat}
theorem sp_id {t : Nat × Nat} (h0 : 0 < t.1) (kt : Sok t) : sps (skd t) (spp t) = t := by
  have h2 := kt.2
  unfold sps spp skd
  dsimp only
  refine Prod.ext (by show t.1 - 1 + 1 = t.1; omega) ?_
  show (if (if t.2.testBit (t.1 - 1) = true then 2 else 1) = 2 then t.2 % 2 ^ (t.1 - 1) ||| 2 ^ (t.1 - 1) else t.2 % 2 ^ (t.1 - 1)) = t.2
  have ml : t.2 % 2 ^ (t.1 - 1) < 2 ^ (t.1 - 1) := Nat.mod_lt _ (Nat.two_pow_pos _)
  have pl : 2 ^ (t.1 - 1) < 2 ^ t.1 := Nat.pow_lt_pow_right (by decide) (by omega)
  refine tb_ext (n := t.1) ?_ h2 (fun j hj => ?_)
  · split
    · exact or_lt (Nat.lt_trans ml pl) pl
    · exact Nat.lt_trans ml pl
  · by_cases y : j = t.1 - 1
    · subst y
      cases hb : t.2.testBit (t.1 - 1)
      · simp [Nat.testBit_mod_two_pow]
      · simp [or_tb, p2_tb]
    · have y2 : j < t.1 - 1 := by omega
      have y3 : ¬ t.1 - 1 = j := by omega
      cases hb : t.2.testBit (t.1 - 1)
      · simp [Nat.testBit_mod_two_pow, y2]
      · simp [or_tb, p2_tb, Nat.testBit_mod_two_pow, y2, y3]
/-- both push -/
theorem psb {A1 B1 : St} {h0 r0 kd : Nat} {v v' w : Int32} (hpt : PT dp h0 A1 B1) (hfv : FV NO dp h0 r0 l A1 B1) (h16 : h0 < 16) (hr2 : r0 < 2 ^ h0) (hv : VR NO kd v v') (hkd : kd = 1 ∨ kd = 2) : ∃ A2 B2, x131 A1 v w = some A2 ∧ x239 B1 v' w = some B2 ∧ PT dp (h0 + 1) A2 B2 ∧ FV NO dp (sps kd (h0, r0)).1 (sps kd (h0, r0)).2 l A2 B2 ∧ (∀ a b, (a ≠ 68 ∨ b ≠ 11) → (a ≠ 81 ∨ (b ≠ 2 * (32 * dp + 16 + h0) ∧ b ≠ 2 * (32 * dp + 16 + h0) + 1)) → A2 a b = A1 a b) ∧ ∀ a b, (a ≠ 82 ∨ b ≠ 65) → (a < 198 ∨ 199 < a ∨ b ≠ 16 * dp + h0) → B2 a b = B1 a b := by
  have fA : ∀ a b, (a ≠ 68 ∨ b ≠ 11) → (a ≠ 81 ∨ (b ≠ 2 * (32 * dp + 16 + h0) ∧ b ≠ 2 * (32 * dp + 16 + h0) + 1)) → up2 (up2 (up2 A1 68 11 (Int32.ofNat (h0 + 1))) 81 (2 * (32 * dp + 16 + h0)) v) 81 (2 * (32 * dp + 16 + h0) + 1) w a b = A1 a b := fun a b y1 y2 => by rw [up2_o (by omega), up2_o (by omega), up2_o (by omega)]
  have fB : ∀ a b, (a ≠ 82 ∨ b ≠ 65) → (a < 198 ∨ 199 < a ∨ b ≠ 16 * dp + h0) → up2 (up2 (up2 B1 198 (16 * dp + h0) v') 199 (16 * dp + h0) w) 82 65 (Int32.ofNat (h0 + 1)) a b = B1 a b := fun a b y1 y2 => by rw [up2_o (by omega), up2_o (by omega), up2_o (by omega)]
  have dp24 := hpt.2.2.1
  refine ⟨_, _, psh_n hpt h16, rps_n hpt h16, ⟨?_, ?_, dp24, ?_, up2_s _ _ _ _, by omega⟩, ?_, fA, fB⟩
  · rw [fA _ _ (by omega) (by omega)]; exact hpt.1
  · rw [fB _ _ (by omega) (by omega)]; exact hpt.2.1
  · rw [up2_o (by omega), up2_o (by omega), up2_s]
  · refine FV.push hfv (k := kd) (v := v) (v' := v') (w := w) hv (fun j hj => ?_) ?_ ⟨?_, ?_⟩ ⟨?_, ?_⟩ (fun b y1 y2 y3 y4 => fA _ _ (by omega) (by omega)) (fun a b y1 y2 y3 y4 => fB _ _ (by omega) (by omega)) h16
    · show kbt (if kd = 2 then r0 ||| 2 ^ h0 else r0) j = kbt r0 j
      split
      · exact kbt_or (by omega)
      · rfl
    · show kbt (if kd = 2 then r0 ||| 2 ^ h0 else r0) h0 = kd
      rcases hkd with y | y
      · rw [y, if_neg (by decide)]; exact kbt_lt hr2
      · rw [y, if_pos rfl]; exact kbt_os
    · rw [up2_o (by omega), up2_s]
    · rw [up2_s]
    · simp (disch := omega) only [up2_o, up2_s]
    · simp (disch := omega) only [up2_o, up2_s]
theorem op_7 (hP : Hid (P = 3 ∨ P = 18)) (hP2 : 3 ≤ P ∧ P ≤ 18) (hZ2 : 85 ≤ Z ∧ Z ≤ 126) (hL : Lkd P Z n k s E F G p A0 B0) (hT : ∀ m, m < k → TyM B0 Z m (F (m + 1) - F m) (F m) G (VV m)) (h : MC P Z n k s E F p A0 B0 VV oa os hk NO U EV dp m i c fr t l A B) (hc : c < 20000) (ho : opn B0 Z (F m + i) = 7) : StepOK P Z n k s E F p A0 B0 VV c A B := by
  have hkn := kno hP hZ2 hL hT h
  obtain ⟨hLk, kx, ko, kt, k16, klo, kfu, klp, kvis, ka, kb1, kF, kF2, kk, k27⟩ := hkn
  have h' := h
  obtain ⟨c1, c2, c3, ⟨r1, r2, r3, r4, r5, r6, r7, r8, r9, r10, r11, r12⟩, c5, c6, c7⟩ := h'
  obtain ⟨t', hef, hnx, hlb, htr⟩ := kvis
  have hpt : PT dp t.1 (up2 A 68 10 (Int32.ofNat (i + 1))) B := ⟨by rw [up2_o (by omega)]; exact c6.1, c6.2.1, c6.2.2.1, by rw [up2_o (by omega)]; exact c6.2.2.2.1, c6.2.2.2.2⟩
  have hA1 : ∀ a b, (a ≠ 68 ∨ (b ≠ 10 ∧ b ≠ 11)) → up2 A 68 10 (Int32.ofNat (i + 1)) a b = A a b := fun a b y => up2_o (by omega)
  have dp24 := c6.2.2.1
  have haft : aft B0 Z (F m + i) t l = l := by unfold aft; rw [if_neg (by omega)]
  obtain ⟨hi3, hinc⟩ := hnx (by omega)
  rw [haft] at hinc
  have hef' : ((tkz [0, 0] t).bind fun t' => (psg (skd t) t').bind (psg (skd (spp t)))) = some t' := by
    have : efB B0 Z m (F m + i) t l = ((tkz [0, 0] t).bind fun t' => (psg (skd t) t').bind (psg (skd (spp t)))) := by unfold efB; rw [ho]; rfl
    rw [this] at hef; exact hef
  obtain ⟨u, g1, g2⟩ := Option.bind_eq_some_iff.mp hef'
  obtain ⟨z1, z2, z3, z4, -⟩ := tkz_y g1 kt
  obtain ⟨u2, g3, g4⟩ := Option.bind_eq_some_iff.mp g2
  obtain ⟨q3, rfl⟩ := psg_y g3
  obtain ⟨q4, rfl⟩ := psg_y g4
  obtain ⟨ux, ur⟩ := u
  have z1 : 2 ≤ t.1 := z1
  have z2 : ux = t.1 - 2 := z2
  subst z2
  have z3 : ∀ j, j < t.1 - 2 → kbt ur j = kbt t.2 j := z3
  obtain ⟨v0, w0, a0, b0, y0, m0⟩ := tp_l hpt c7 (d := 0) (by omega) (y := 0) rfl
  obtain ⟨v1, w1, a1, b1, y1, m1⟩ := tp_l hpt c7 (d := 1) (by omega) (y := 1) rfl
  rw [Nat.sub_zero] at y0 m0
  rw [show t.1 - 1 - 1 = t.1 - 2 by omega] at y1 m1
  obtain ⟨B1, B2, p1, p2, p3, p4, p5, p6⟩ := pop2 c6 (by omega)
  have hpt2 : PT dp (t.1 - 2) (up2 (up2 A 68 10 (Int32.ofNat (i + 1))) 68 11 (Int32.ofNat (t.1 - 2))) B2 := ⟨by rw [up2_o (by omega)]; exact hpt.1, by rw [p6 _ _ (by omega)]; exact hpt.2.1, dp24, up2_s _ _ _ _, p5, by omega⟩
  have hfv2 : FV NO dp (t.1 - 2) ur l (up2 (up2 A 68 10 (Int32.ofNat (i + 1))) 68 11 (Int32.ofNat (t.1 - 2))) B2 := (c7.of (Nat.le_refl _) (fun b _ _ => by rw [up2_o (by omega), up2_o (by omega)]) (fun a b _ _ _ => p6 _ _ (by omega)) k16).pop (by omega) z3
  obtain ⟨A3, B3, s1, s2, s3, s4, s5, s6⟩ := psb (v := v0) (v' := B 198 (16 * dp + (t.1 - 1))) (w := w0) (kd := skd t) hpt2 hfv2 (by omega) z4.2 y0 skd_12
  have f5 : ∀ a b, (a ≠ 68 ∨ (b ≠ 10 ∧ b ≠ 11)) → (a ≠ 81 ∨ b < 64 * dp) → A3 a b = A a b := fun a b y y' => by rw [s5 a b (by omega) (by omega), up2_o (by omega), up2_o (by omega)]
  have f6 : ∀ a b, (a ≠ 82 ∨ (b ≠ 65 ∧ b ≠ 66)) → (a < 198 ∨ 199 < a ∨ b < 16 * dp) → B3 a b = B a b := fun a b y y' => by rw [s6 a b (by omega) (by omega), p6 a b (by omega)]
  refine nx_gp (A1 := A3) (B1 := B3) (v := v1) (v' := B 198 (16 * dp + (t.1 - 2))) (w := w1) (kd := skd (spp t)) (h0 := t.1 - 2 + 1) (r0 := (sps (skd t) (t.1 - 2, ur)).2) hP hP2 hZ2 hL hT h hc (Nat.le_refl _) (c1.of (fun a b _ _ => f5 a b (by omega) (by omega)) (fun a b _ => f6 a b (by omega) (by omega))) (c2.of (fun a b _ => f5 a b (by omega) (by omega)) (fun a b _ => f6 a b (by omega) (by omega))) (fun a b _ => f5 a b (by omega) (by omega)) ?_ (fun a b _ => f6 a b (by omega) (by omega)) s3 (by omega) s4 (sps_ok z4 (by show t.1 - 2 < 20; omega)).2 ?_ skd_12 hi3 hinc kfu ?_ ?_
  · rw [s5 _ _ (by omega) (by omega), up2_o (by omega), up2_s]
  · have e : kbt t.2 (t.1 - 2) = skd (spp t) := by
      rw [skd_kb]
      show _ = kbt (spp t).2 (t.1 - 1 - 1)
      rw [spp_k (by omega), show t.1 - 1 - 1 = t.1 - 2 by omega]
    rw [← e]; exact y1
  · rw [ka, ho, x129_1 (by omega)]; unfold x130; rw [if_neg (by decide), if_neg (by decide), if_neg (by decide), if_neg (by decide), if_neg (by decide), if_neg (by decide), if_neg (by decide), if_pos (show Int32.ofNat 7 = 7 from rfl)]
    unfold x136
    rw [a0, b0, a1, b1, drp_n hpt (j := 2) (x := 2) (by omega) rfl, Option.bind_some, s1, Option.bind_some, Option.bind_some, Option.bind_fun_some]
  · rw [x238_d kx r4 kb1 ko (by omega), ho]; unfold actR; rw [if_neg (by decide), if_neg (by decide), if_neg (by decide), if_neg (by decide), if_pos rfl, p1, Option.bind_some]
    dsimp only
    rw [p2, Option.bind_some]
    dsimp only
    rw [p3, p4, m0, s2, Option.bind_some, m1]
/-- reckoned -/
theorem x141_e {I J : St} {a b : Int32} (ho : 8 ≤ o ∧ o ≤ 18) (hb : (o = 11 ∨ o = 12) → b ≠ 0) : ∃ v, x141 I (Int32.ofNat o) a b = some v ∧ x248 J (Int32.ofNat o - 8) a b = some v := by
  have key : o = 8 ∨ o = 9 ∨ o = 10 ∨ o = 11 ∨ o = 12 ∨ o = 13 ∨ o = 14 ∨ o = 15 ∨ o = 16 ∨ o = 17 ∨ o = 18 := by omega
  rcases key with rfl | rfl | rfl | rfl | rfl | rfl | rfl | rfl | rfl | rfl | rfl
  · exact ⟨_, rfl, rfl⟩
  · exact ⟨_, rfl, rfl⟩
  · exact ⟨_, rfl, rfl⟩
  · have hb := hb (Or.inl rfl)
    refine ⟨if b = -1 then -a else a / b, ?_, ?_⟩
    · show (if b = 0 then some 0 else if b = -1 then some (-a) else if b = 0 then none else some (a / b)) = _
      rw [if_neg hb]
      split <;> rfl
    · show (if b = -1 then some (-a) else if b = 0 then none else some (a / b)) = _
      split <;> rfl
  · have hb := hb (Or.inr rfl)
    refine ⟨if b = -1 then 0 else a - a / b * b, ?_, ?_⟩
    · show (if b = 0 then some 0 else if b = -1 then some 0 else if b = 0 then none else some (a - a / b * b)) = _
      rw [if_neg hb]
      split <;> rfl
    · show (if b = -1 then some 0 else if b = 0 then none else some (a - a / b * b)) = _
      split <;> rfl
  · exact ⟨_, rfl, rfl⟩
  · exact ⟨_, rfl, rfl⟩
  · exact ⟨_, rfl, rfl⟩
  · exact ⟨_, rfl, rfl⟩
  · exact ⟨_, rfl, rfl⟩
  · exact ⟨_, rfl, rfl⟩
theorem op_ar (hP : Hid (P = 3 ∨ P = 18)) (hP2 : 3 ≤ P ∧ P ≤ 18) (hZ2 : 85 ≤ Z ∧ Z ≤ 126) (hL : Lkd P Z n k s E F G p A0 B0) (hT : ∀ m, m < k → TyM B0 Z m (F (m + 1) - F m) (F m) G (VV m)) (h : MC P Z n k s E F p A0 B0 VV oa os hk NO U EV dp m i c fr t l A B) (hc : c < 20000) (ho : 8 ≤ opn B0 Z (F m + i) ∧ opn B0 Z (F m + i) ≤ 18) : StepOK P Z n k s E F p A0 B0 VV c A B := by
  have hkn := kno hP hZ2 hL hT h
  obtain ⟨hLk, kx, ko, kt, k16, klo, kfu, klp, kvis, ka, kb1, kF, kF2, kk, k27⟩ := hkn
  have h' := h
  obtain ⟨c1, c2, c3, ⟨r1, r2, r3, r4, r5, r6, r7, r8, r9, r10, r11, r12⟩, c5, c6, c7⟩ := h'
  obtain ⟨t', hef, hnx, hlb, htr⟩ := kvis
  have hpt : PT dp t.1 (up2 A 68 10 (Int32.ofNat (i + 1))) B := ⟨by rw [up2_o (by omega)]; exact c6.1, c6.2.1, c6.2.2.1, by rw [up2_o (by omega)]; exact c6.2.2.2.1, c6.2.2.2.2⟩
  have hA1 : ∀ a b, (a ≠ 68 ∨ (b ≠ 10 ∧ b ≠ 11)) → up2 A 68 10 (Int32.ofNat (i + 1)) a b = A a b := fun a b y => up2_o (by omega)
  have dp24 := c6.2.2.1
  have haft : aft B0 Z (F m + i) t l = l := by unfold aft; rw [if_neg (by omega)]
  obtain ⟨hi3, hinc⟩ := hnx (by omega)
  rw [haft] at hinc
  have hef' : (tkz [1, 1] t).bind (pso 1) = some t' := by
    have e : ∀ o, o < 19 → 8 ≤ o → tkl o = [1, 1] ∧ gvk o = 1 := by decide
    have : efB B0 Z m (F m + i) t l = (tkz [1, 1] t).bind (pso 1) := by
      obtain ⟨e1, e2⟩ := e _ (by omega) ho.1
      unfold efB eff
      rw [if_neg (by omega), if_neg (by omega), if_neg (by omega), if_neg (by omega), if_neg (by omega), if_neg (by omega), if_neg (by omega), if_neg (by omega), if_neg (by omega), if_neg (by omega), if_neg (by omega), e1, e2]
    rw [this] at hef; exact hef
  obtain ⟨u, g1, g2⟩ := Option.bind_eq_some_iff.mp hef'
  obtain ⟨z1, z2, z3, z4, z5⟩ := tkz_y g1 kt
  obtain ⟨q3, rfl⟩ := psg_y (show psg 1 u = some t' from g2)
  obtain ⟨ux, ur⟩ := u
  have z1 : 2 ≤ t.1 := z1
  have z2 : ux = t.1 - 2 := z2
  subst z2
  have z3 : ∀ j, j < t.1 - 2 → kbt ur j = kbt t.2 j := z3
  obtain ⟨v0, w0, a0, b0, y0, m0⟩ := tp_l hpt c7 (d := 0) (by omega) (y := 0) rfl
  obtain ⟨v1, w1, a1, b1, y1, m1⟩ := tp_l hpt c7 (d := 1) (by omega) (y := 1) rfl
  have k0 : kbt t.2 (t.1 - 1 - 0) = 1 := (z5 0 (by decide)).resolve_left (by decide)
  have k1 : kbt t.2 (t.1 - 1 - 1) = 1 := (z5 1 (by decide)).resolve_left (by decide)
  rw [k0] at y0
  rw [k1] at y1
  have y0 := y0.i
  have y1 := y1.i
  rw [Nat.sub_zero] at y0 m0
  rw [show t.1 - 1 - 1 = t.1 - 2 by omega] at y1 m1
  obtain ⟨B1, B2, p1, p2, p3, p4, p5, p6⟩ := pop2 c6 (by omega)
  have e11 : (Int32.ofNat (opn B0 Z (F m + i)) = 11) = (opn B0 Z (F m + i) = 11) := propext (i32_e (x := 11) (b := 11) rfl (by omega) (by decide))
  have e12 : (Int32.ofNat (opn B0 Z (F m + i)) = 12) = (opn B0 Z (F m + i) = 12) := propext (i32_e (x := 12) (b := 12) rfl (by omega) (by decide))
  have hR : x238 Z B = x242 Z B (Int32.ofNat (F m + i)) (Int32.ofNat (opn B0 Z (F m + i))) := by
    rw [x238_d kx r4 kb1 ko (by omega)]; unfold actR
    rw [if_neg (by omega), if_neg (by omega), if_neg (by omega), if_neg (by omega), if_neg (by omega), if_neg (by omega), if_neg (by omega), if_neg (by omega), if_neg (by omega), if_pos ho.2]
  unfold x242 at hR
  rw [p1, Option.bind_some] at hR
  dsimp only at hR
  rw [p2, Option.bind_some] at hR
  dsimp only at hR
  rw [p3, p4, m0, m1, ← y0, ← y1] at hR
  have hC : x129 P (up2 A 68 10 (Int32.ofNat (i + 1))) (A (P + 10) (3 * (F m + i))) (A (P + 10) (3 * (F m + i) + 1)) (A (P + 10) (3 * (F m + i) + 2)) = x137 (up2 A 68 10 (Int32.ofNat (i + 1))) (Int32.ofNat (opn B0 Z (F m + i))) := by rw [ka, x129_2 (by omega) ho.2]
  unfold x137 at hC
  rw [a0, b0, a1, b1] at hC
  by_cases hz : (opn B0 Z (F m + i) = 11 ∨ opn B0 Z (F m + i) = 12) ∧ v0 = 0
  · refine flt_l (cls := 5) (w := w1 ||| w0) (A1 := up2 A 68 10 (Int32.ofNat (i + 1))) (B1 := B2) hP hP2 hZ2 hL hT h hc (by decide) hA1 p6 ?_ ?_
    · rw [hC, if_pos hz.2]
      simp only [e11, e12]
      rcases hz.1 with y | y
      · rw [if_pos y, Option.bind_fun_some]; rfl
      · rw [if_neg (by omega), if_pos y, Option.bind_fun_some]; rfl
    · rw [hR]
      simp only [e11, e12]
      rw [Int32.or_comm w0 w1]
      rcases hz.1 with y | y
      · rw [if_pos y, if_pos hz.2, Option.bind_fun_some]; rfl
      · rw [if_neg (by omega), if_pos y, if_pos hz.2, Option.bind_fun_some]; rfl
  · obtain ⟨v, f1, f2⟩ := x141_e (o := opn B0 Z (F m + i)) (I := up2 A 68 10 (Int32.ofNat (i + 1))) (J := B2) (a := v1) (b := v0) ho (fun y y' => hz ⟨y, y'⟩)
    refine nx_push (A1 := up2 (up2 A 68 10 (Int32.ofNat (i + 1))) 68 11 (Int32.ofNat (t.1 - 2))) (B1 := B2) (h0 := t.1 - 2) (r0 := ur) (kd := 1) (v := v) (v' := v) (w := w1 ||| w0) hP hP2 hZ2 hL hT h hc (fun a b y => by rw [up2_o (by omega), up2_o (by omega)]) (by rw [up2_o (by omega), up2_s]) p6 ⟨by rw [up2_o (by omega)]; exact hpt.1, by rw [p6 _ _ (by omega)]; exact hpt.2.1, dp24, up2_s _ _ _ _, p5, by omega⟩ (by omega) (by omega) z3 z4.2 (Or.inl ⟨rfl, rfl⟩) (Or.inl rfl) hi3 hinc kfu ?_ ?_
    · have eC : (x141 (up2 A 68 10 (Int32.ofNat (i + 1))) (Int32.ofNat (opn B0 Z (F m + i))) v1 v0).bind (fun q3 => (x136 (up2 A 68 10 (Int32.ofNat (i + 1))) 2 q3 (w1 ||| w0)).bind fun q4 => some q4) = x131 (up2 (up2 A 68 10 (Int32.ofNat (i + 1))) 68 11 (Int32.ofNat (t.1 - 2))) v (w1 ||| w0) := by
        rw [f1, Option.bind_some, Option.bind_fun_some]
        unfold x136
        rw [drp_n hpt (j := 2) (x := 2) (by omega) rfl, Option.bind_some, Option.bind_fun_some]
      rw [hC]
      by_cases y0 : v0 = 0
      · rw [if_pos y0]
        simp only [e11, e12]
        rw [if_neg (fun y => hz ⟨Or.inl y, y0⟩), if_neg (fun y => hz ⟨Or.inr y, y0⟩)]
        exact eC
      · rw [if_neg y0]; exact eC
    · have eC : (x248 B2 (Int32.ofNat (opn B0 Z (F m + i)) - 8) v1 v0).bind (fun q9 => (x239 B2 q9 (w0 ||| w1)).bind fun q10 => some (up2 q10 82 64 (Int32.ofNat (F m + i) + 1))) = (x239 B2 v (w1 ||| w0)).bind fun q => some (up2 q 82 64 (Int32.ofNat (F m + i + 1))) := by
        rw [f2, Option.bind_some, Int32.or_comm w0 w1, i32_s]
      rw [hR]
      simp only [e11, e12]
      by_cases y1 : opn B0 Z (F m + i) = 11
      · rw [if_pos y1, if_neg (fun y => hz ⟨Or.inl y1, y⟩)]; exact eC
      · rw [if_neg y1]
        by_cases y2 : opn B0 Z (F m + i) = 12
        · rw [if_pos y2, if_neg (fun y => hz ⟨Or.inr y2, y⟩)]; exact eC
        · rw [if_neg y2]; exact eC
end
