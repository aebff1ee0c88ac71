/-! elements -/
section
variable {P Z n k s : Nat} {E F G p oa os hk : Nat → Nat} {A0 B0 A B A' B' : St} {VV : Nat → Nat → Option VEn} {NO U EV dp m i c x o : Nat} {fr : Nat → FrT} {t : Nat × Nat} {l : Nat × Nat × Nat}
/-- an array, as it is told -/
theorem arr_l {cc r : Nat} {cv : Int32} {kd : Nat} (hcv : (cv = -2 ∧ kd = 1) ∨ (cv = -3 ∧ kd = 2)) (hcc : CV n cc (B 181 r)) (hn : n ≤ 19) (hob : B 181 r = Int32.ofNat cc ∧ os r = alf p E 19 cc ∧ (∀ q, q < os r → hk (oa r + q) = fkd B0 Z p E 19 cc q) ∨ cc = 0 ∧ (B 181 r = -2 ∧ (∀ q, q < os r → hk (oa r + q) = 1) ∨ B 181 r = -3 ∧ ∀ q, q < os r → hk (oa r + q) = 2)) (h : B 181 r = cv) : ∀ q, q < os r → hk (oa r + q) = kd := by
  rcases hob with ⟨x1, -⟩ | ⟨-, ⟨x1, x2⟩ | ⟨x1, x2⟩⟩
  · exfalso
    rw [x1] at h
    have h1 := hcc.1
    have h2 := congrArg Int32.toInt h
    rw [Int32.toInt_ofNat_of_lt (by omega)] at h2
    rcases hcv with ⟨y, -⟩ | ⟨y, -⟩
    · rw [y] at h2
      have : (-2 : Int32).toInt = -2 := by decide
      omega
    · rw [y] at h2
      have : (-3 : Int32).toInt = -3 := by decide
      omega
  · rcases hcv with ⟨-, y⟩ | ⟨y, -⟩
    · rw [y]; exact x2
    · rw [x1, y] at h; exact absurd h (by decide)
  · rcases hcv with ⟨y, -⟩ | ⟨-, y⟩
    · rw [x1, y] at h; exact absurd h (by decide)
    · rw [y]; exact x2
theorem op_44 (hP : Hid (P = 3 ∨ P = 18)) (hP2 : 3 ≤ P ∧ P ≤ 18) (hZ2 : 85 ≤ Z ∧ Z ≤ 126) (hL : Lkd P Z n k s E F G p A0 B0) (hT : ∀ m, m < k → TyM B0 Z m (F (m + 1) - F m) (F m) G (VV m)) (h : MC P Z n k s E F p A0 B0 VV oa os hk NO U EV dp m i c fr t l A B) (hc : c < 20000) (ho : opn B0 Z (F m + i) = 44) : StepOK P Z n k s E F p A0 B0 VV c A B := by
  have hkn := kno hP hZ2 hL hT h
  obtain ⟨hLk, kx, ko, kt, k16, klo, kfu, klp, kvis, ka, kb1, kF, kF2, kk, k27⟩ := hkn
  have h' := h
  obtain ⟨c1, c2, c3, ⟨r1, r2, r3, r4, r5, r6, r7, r8, r9, r10, r11, r12⟩, c5, c6, c7⟩ := h'
  obtain ⟨t', hef, hnx, hlb, htr⟩ := kvis
  have hpt : PT dp t.1 (up2 A 68 10 (Int32.ofNat (i + 1))) B := ⟨by rw [up2_o (by omega)]; exact c6.1, c6.2.1, c6.2.2.1, by rw [up2_o (by omega)]; exact c6.2.2.2.1, c6.2.2.2.2⟩
  have hA1 : ∀ a b, (a ≠ 68 ∨ (b ≠ 10 ∧ b ≠ 11)) → up2 A 68 10 (Int32.ofNat (i + 1)) a b = A a b := fun a b y => up2_o (by omega)
  have dp24 := c6.2.2.1
  have haft : aft B0 Z (F m + i) t l = l := by unfold aft; rw [if_neg (by omega)]
  obtain ⟨hi3, hinc⟩ := hnx (by omega)
  rw [haft] at hinc
  have hef' : (tkz [1, 2] t).bind (pso 1) = some t' := by
    have : efB B0 Z m (F m + i) t l = (tkz [1, 2] t).bind (pso 1) := by unfold efB; rw [ho]; rfl
    rw [this] at hef; exact hef
  obtain ⟨u, g1, g2⟩ := Option.bind_eq_some_iff.mp hef'
  obtain ⟨z1, z2, z3, z4, z5⟩ := tkz_y g1 kt
  obtain ⟨q3, rfl⟩ := psg_y (show psg 1 u = some t' from g2)
  obtain ⟨ux, ur⟩ := u
  have z1 : 2 ≤ t.1 := z1
  have z2 : ux = t.1 - 2 := z2
  subst z2
  have z3 : ∀ j, j < t.1 - 2 → kbt ur j = kbt t.2 j := z3
  obtain ⟨v0, w0, a0, b0, y0, m0⟩ := tp_l hpt c7 (d := 0) (by omega) (y := 0) rfl
  obtain ⟨v1, w1, a1, b1, y1, m1⟩ := tp_l hpt c7 (d := 1) (by omega) (y := 1) rfl
  have k0 : kbt t.2 (t.1 - 1 - 0) = 1 := (z5 0 (by decide)).resolve_left (by decide)
  have k1 : kbt t.2 (t.1 - 1 - 1) = 2 := (z5 1 (by decide)).resolve_left (by decide)
  rw [k0] at y0
  rw [k1] at y1
  have y0 := y0.i
  rw [Nat.sub_zero] at y0 m0
  rw [show t.1 - 1 - 1 = t.1 - 2 by omega] at y1 m1
  obtain ⟨B1, B2, p1, p2, p3, p4, p5, p6⟩ := pop2 c6 (by omega)
  have hg1 : GCo B0 Z n s p E oa os hk NO U EV (up2 A 68 10 (Int32.ofNat (i + 1))) B2 := c2.of (fun a b y => up2_o (by omega)) (fun a b y => p6 a b (by omega))
  have hn7 := hL.1.2.2.1
  have n19 := hL.1.2.2.2.1
  have hC : x129 P (up2 A 68 10 (Int32.ofNat (i + 1))) (A (P + 10) (3 * (F m + i))) (A (P + 10) (3 * (F m + i) + 1)) (A (P + 10) (3 * (F m + i) + 2)) = x157 (up2 A 68 10 (Int32.ofNat (i + 1))) (-2) := by
    rw [ka, ho, x129_h (by omega) (by omega), if_neg (by decide), if_neg (by decide), if_neg (by decide), if_pos (by decide)]; unfold x155; rw [if_neg (by decide), if_neg (by decide), if_pos (by decide), Option.bind_fun_some]
  have hR : x238 Z B = x257 Z B (Int32.ofNat (F m + i)) 44 := by
    rw [x238_d kx r4 kb1 ko (by omega), ho]; unfold actR; rw [if_neg (by decide), if_neg (by decide), if_neg (by decide), if_neg (by decide), if_neg (by decide), if_neg (by decide), if_neg (by decide), if_neg (by decide), if_neg (by decide), if_neg (by decide), if_neg (by decide)]; unfold x251; rw [if_neg (by decide), if_neg (by decide), if_neg (by decide), if_neg (by decide), if_neg (by decide), if_neg (by decide), if_neg (by decide), if_pos (by decide), Option.bind_fun_some]
    rfl
  unfold x157 x158 at hC
  rw [a0, b0, a1, b1] at hC
  unfold x257 at hR
  rw [if_neg (by decide), if_neg (by decide), Option.bind_some, if_pos rfl, Option.bind_some, if_pos rfl, Option.bind_some] at hR
  dsimp only at hR
  rw [p1, Option.bind_some] at hR
  dsimp only at hR
  rw [p2, Option.bind_some, if_pos rfl, Option.bind_some] at hR
  dsimp only at hR
  rw [p3, p4, m0, m1, ← y0, show (0 : Int32) ||| w0 = w0 from Int32.zero_or, Int32.or_comm w0 w1] at hR
  simp only [Option.bind_fun_some] at hR hC
  rcases y1.r with ⟨y3, y4⟩ | ⟨o, hr, y3, y4⟩
  · rw [y3, if_pos rfl, if_neg (by decide)] at hC
    rw [y4, if_pos rfl, if_pos rfl, Option.bind_some] at hR
    exact flt_l (cls := 2) (w := w1 ||| w0) (A1 := up2 A 68 10 (Int32.ofNat (i + 1))) (B1 := B2) hP hP2 hZ2 hL hT h hc (by decide) hA1 p6 hC hR
  · obtain ⟨-, cc, hv, hob⟩ := ob_cv hn7 hg1 hr
    obtain ⟨e1, e2⟩ := cls_l hg1 hr rfl
    obtain ⟨o1, o2, o3, o4, o5, o6, o7, o8⟩ := hg1.1.2.2.2.2.2.2.1 o hr
    have hNU := hg1.1.2.2.2.2.2.1
    have hn0 : ¬ Int32.ofNat (o + 1) = 0 := i32_n0 (by omega)
    have hi2 : inb (Int32.ofNat o) 3001 := (i32_inb (by omega)).mpr (by omega)
    have hcl2 : (Int32.ofNat o).toNatClampNeg = o := i32_cl (by omega)
    have e159 : x159 (up2 A 68 10 (Int32.ofNat (i + 1))) (Int32.ofNat o) = Int32.ofNat (os o) := by unfold x159; simp (disch := omega) only [m70]; exact o4
    rw [y3, if_neg (i32_m1 (by omega)), e1, e159] at hC
    rw [y4, if_neg hn0, i32_p] at hR
    simp only [if_pos hi2, hcl2, if_neg hn0, Option.bind_some] at hR
    by_cases q : B2 181 o = -2
    · rw [if_pos q] at hC hR
      by_cases q5 : v0 < 0
      · rw [if_pos q5, if_neg (by decide)] at hC
        rw [if_pos q5] at hR
        exact flt_l (cls := 3) (w := w1 ||| w0) (A1 := up2 A 68 10 (Int32.ofNat (i + 1))) (B1 := B2) hP hP2 hZ2 hL hT h hc (by decide) hA1 p6 hC hR
      · rw [if_neg q5] at hC hR
        rw [o5] at hR
        by_cases q6 : v0 < Int32.ofNat (os o)
        · rw [if_pos q6, if_pos rfl] at hC
          rw [if_pos q6] at hR
          obtain ⟨off, hz, rfl⟩ := i32_ge0 (Int32.not_lt.mp q5)
          have hof : off < os o := by rw [i32_lt hz (by omega)] at q6; exact q6
          have hkk := arr_l (Or.inl ⟨rfl, rfl⟩) hv n19 hob q off hof
          obtain ⟨j1, j2⟩ := hg1.1.2.2.2.2.2.2.2 (oa o + off) (by omega)
          rw [hkk] at j1
          have e151 : x151 (up2 A 68 10 (Int32.ofNat (i + 1))) (Int32.ofNat o) (Int32.ofNat off) = up2 A 68 10 (Int32.ofNat (i + 1)) 73 (2 * (oa o + off)) := by
            unfold x151; simp (disch := omega) only [m70, o2, i32_a, m72]
          have e152 : x152 (up2 A 68 10 (Int32.ofNat (i + 1))) (Int32.ofNat o) (Int32.ofNat off) = up2 A 68 10 (Int32.ofNat (i + 1)) 73 (2 * (oa o + off) + 1) := by
            unfold x152; simp (disch := omega) only [m70, o2, i32_a, m72]
          rw [e151, e152] at hC
          have hi3' : inb (Int32.ofNat (oa o + off)) 3001 := (i32_inb (by omega)).mpr (by omega)
          have hcl3 : (Int32.ofNat (oa o + off)).toNatClampNeg = oa o + off := i32_cl (by omega)
          simp only [o3, i32_a, if_pos hi3', hcl3, if_true] at hR
          have e1f : (if B2 82 6 &&& 1 = 0 then some (0 : Int32) else some w0) = some (x153 (up2 A 68 10 (Int32.ofNat (i + 1))) 1 w0) := by
            unfold x153; rw [hg1.2.2.2.1]; split <;> rfl
          have e2f : (if B2 82 6 &&& 2 = 0 then some (0 : Int32) else some w1) = some (x153 (up2 A 68 10 (Int32.ofNat (i + 1))) 2 w1) := by
            unfold x153; rw [hg1.2.2.2.1]; split <;> rfl
          refine nx_push (A1 := up2 (up2 A 68 10 (Int32.ofNat (i + 1))) 68 11 (Int32.ofNat (t.1 - 2))) (B1 := B2) (h0 := t.1 - 2) (r0 := ur) (kd := 1) (v := up2 A 68 10 (Int32.ofNat (i + 1)) 73 (2 * (oa o + off))) (v' := B2 185 (oa o + off)) (w := B2 186 (oa o + off) ||| (x153 (up2 A 68 10 (Int32.ofNat (i + 1))) 2 w1 ||| x153 (up2 A 68 10 (Int32.ofNat (i + 1))) 1 w0)) hP hP2 hZ2 hL hT h hc (fun a b y => by rw [up2_o (by omega), up2_o (by omega)]) (by rw [up2_o (by omega), up2_s]) p6 ⟨by rw [up2_o (by omega)]; exact hpt.1, by rw [p6 _ _ (by omega)]; exact hpt.2.1, dp24, up2_s _ _ _ _, p5, by omega⟩ (by omega) (by omega) z3 z4.2 j1 (by decide) hi3 hinc kfu ?_ ?_
          · rw [hC, ← j2]; unfold x136; rw [drp_n hpt (j := 2) (x := 2) (by omega) rfl, Option.bind_some]; simp only [Option.bind_fun_some]
          · rw [hR, e1f, Option.bind_some, e2f, Option.bind_some, i32_s, Int32.or_assoc, Int32.or_comm (x153 (up2 A 68 10 (Int32.ofNat (i + 1))) 1 w0)]
        · rw [if_neg q6, if_neg (by decide)] at hC
          rw [if_neg q6] at hR
          exact flt_l (cls := 3) (w := w1 ||| w0) (A1 := up2 A 68 10 (Int32.ofNat (i + 1))) (B1 := B2) hP hP2 hZ2 hL hT h hc (by decide) hA1 p6 hC hR
    · rw [if_neg q, if_neg (by decide)] at hC
      rw [if_neg q] at hR
      exact flt_l (cls := 6) (w := w1 ||| w0) (A1 := up2 A 68 10 (Int32.ofNat (i + 1))) (B1 := B2) hP hP2 hZ2 hL hT h hc (by decide) hA1 p6 hC hR
theorem op_46 (hP : Hid (P = 3 ∨ P = 18)) (hP2 : 3 ≤ P ∧ P ≤ 18) (hZ2 : 85 ≤ Z ∧ Z ≤ 126) (hL : Lkd P Z n k s E F G p A0 B0) (hT : ∀ m, m < k → TyM B0 Z m (F (m + 1) - F m) (F m) G (VV m)) (h : MC P Z n k s E F p A0 B0 VV oa os hk NO U EV dp m i c fr t l A B) (hc : c < 20000) (ho : opn B0 Z (F m + i) = 46) : StepOK P Z n k s E F p A0 B0 VV c A B := by
  have hkn := kno hP hZ2 hL hT h
  obtain ⟨hLk, kx, ko, kt, k16, klo, kfu, klp, kvis, ka, kb1, kF, kF2, kk, k27⟩ := hkn
  have h' := h
  obtain ⟨c1, c2, c3, ⟨r1, r2, r3, r4, r5, r6, r7, r8, r9, r10, r11, r12⟩, c5, c6, c7⟩ := h'
  obtain ⟨t', hef, hnx, hlb, htr⟩ := kvis
  have hpt : PT dp t.1 (up2 A 68 10 (Int32.ofNat (i + 1))) B := ⟨by rw [up2_o (by omega)]; exact c6.1, c6.2.1, c6.2.2.1, by rw [up2_o (by omega)]; exact c6.2.2.2.1, c6.2.2.2.2⟩
  have hA1 : ∀ a b, (a ≠ 68 ∨ (b ≠ 10 ∧ b ≠ 11)) → up2 A 68 10 (Int32.ofNat (i + 1)) a b = A a b := fun a b y => up2_o (by omega)
  have dp24 := c6.2.2.1
  have haft : aft B0 Z (F m + i) t l = l := by unfold aft; rw [if_neg (by omega)]
  obtain ⟨hi3, hinc⟩ := hnx (by omega)
  rw [haft] at hinc
  have hef' : (tkz [1, 2] t).bind (pso 2) = some t' := by
    have : efB B0 Z m (F m + i) t l = (tkz [1, 2] t).bind (pso 2) := by unfold efB; rw [ho]; rfl
    rw [this] at hef; exact hef
  obtain ⟨u, g1, g2⟩ := Option.bind_eq_some_iff.mp hef'
  obtain ⟨z1, z2, z3, z4, z5⟩ := tkz_y g1 kt
  obtain ⟨q3, rfl⟩ := psg_y (show psg 2 u = some t' from g2)
  obtain ⟨ux, ur⟩ := u
  have z1 : 2 ≤ t.1 := z1
  have z2 : ux = t.1 - 2 := z2
  subst z2
  have z3 : ∀ j, j < t.1 - 2 → kbt ur j = kbt t.2 j := z3
  obtain ⟨v0, w0, a0, b0, y0, m0⟩ := tp_l hpt c7 (d := 0) (by omega) (y := 0) rfl
  obtain ⟨v1, w1, a1, b1, y1, m1⟩ := tp_l hpt c7 (d := 1) (by omega) (y := 1) rfl
  have k0 : kbt t.2 (t.1 - 1 - 0) = 1 := (z5 0 (by decide)).resolve_left (by decide)
  have k1 : kbt t.2 (t.1 - 1 - 1) = 2 := (z5 1 (by decide)).resolve_left (by decide)
  rw [k0] at y0
  rw [k1] at y1
  have y0 := y0.i
  rw [Nat.sub_zero] at y0 m0
  rw [show t.1 - 1 - 1 = t.1 - 2 by omega] at y1 m1
  obtain ⟨B1, B2, p1, p2, p3, p4, p5, p6⟩ := pop2 c6 (by omega)
  have hg1 : GCo B0 Z n s p E oa os hk NO U EV (up2 A 68 10 (Int32.ofNat (i + 1))) B2 := c2.of (fun a b y => up2_o (by omega)) (fun a b y => p6 a b (by omega))
  have hn7 := hL.1.2.2.1
  have n19 := hL.1.2.2.2.1
  have hC : x129 P (up2 A 68 10 (Int32.ofNat (i + 1))) (A (P + 10) (3 * (F m + i))) (A (P + 10) (3 * (F m + i) + 1)) (A (P + 10) (3 * (F m + i) + 2)) = x157 (up2 A 68 10 (Int32.ofNat (i + 1))) (-3) := by
    rw [ka, ho, x129_h (by omega) (by omega), if_neg (by decide), if_neg (by decide), if_neg (by decide), if_pos (by decide)]; unfold x155; rw [if_neg (by decide), if_neg (by decide), if_neg (by decide), if_neg (by decide), if_pos (by decide), Option.bind_fun_some]
  have hR : x238 Z B = x257 Z B (Int32.ofNat (F m + i)) 46 := by
    rw [x238_d kx r4 kb1 ko (by omega), ho]; unfold actR; rw [if_neg (by decide), if_neg (by decide), if_neg (by decide), if_neg (by decide), if_neg (by decide), if_neg (by decide), if_neg (by decide), if_neg (by decide), if_neg (by decide), if_neg (by decide), if_neg (by decide)]; unfold x251; rw [if_neg (by decide), if_neg (by decide), if_neg (by decide), if_neg (by decide), if_neg (by decide), if_neg (by decide), if_neg (by decide), if_neg (by decide), if_neg (by decide), if_pos (by decide), Option.bind_fun_some]
    rfl
  unfold x157 x158 at hC
  rw [a0, b0, a1, b1] at hC
  unfold x257 at hR
  rw [if_neg (by decide), if_neg (by decide), Option.bind_some, if_pos rfl, Option.bind_some, if_pos rfl, Option.bind_some] at hR
  dsimp only at hR
  rw [p1, Option.bind_some] at hR
  dsimp only at hR
  rw [p2, Option.bind_some, if_neg (by decide), if_neg (by decide), Option.bind_some] at hR
  dsimp only at hR
  rw [p3, p4, m0, m1, ← y0, show (0 : Int32) ||| w0 = w0 from Int32.zero_or, Int32.or_comm w0 w1] at hR
  simp only [Option.bind_fun_some] at hR hC
  rcases y1.r with ⟨y3, y4⟩ | ⟨o, hr, y3, y4⟩
  · rw [y3, if_pos rfl, if_neg (by decide)] at hC
    rw [y4, if_pos rfl, if_pos rfl, Option.bind_some] at hR
    exact flt_l (cls := 2) (w := w1 ||| w0) (A1 := up2 A 68 10 (Int32.ofNat (i + 1))) (B1 := B2) hP hP2 hZ2 hL hT h hc (by decide) hA1 p6 hC hR
  · obtain ⟨-, cc, hv, hob⟩ := ob_cv hn7 hg1 hr
    obtain ⟨e1, e2⟩ := cls_l hg1 hr rfl
    obtain ⟨o1, o2, o3, o4, o5, o6, o7, o8⟩ := hg1.1.2.2.2.2.2.2.1 o hr
    have hNU := hg1.1.2.2.2.2.2.1
    have hn0 : ¬ Int32.ofNat (o + 1) = 0 := i32_n0 (by omega)
    have hi2 : inb (Int32.ofNat o) 3001 := (i32_inb (by omega)).mpr (by omega)
    have hcl2 : (Int32.ofNat o).toNatClampNeg = o := i32_cl (by omega)
    have e159 : x159 (up2 A 68 10 (Int32.ofNat (i + 1))) (Int32.ofNat o) = Int32.ofNat (os o) := by unfold x159; simp (disch := omega) only [m70]; exact o4
    rw [y3, if_neg (i32_m1 (by omega)), e1, e159] at hC
    rw [y4, if_neg hn0, i32_p] at hR
    simp only [if_pos hi2, hcl2, if_neg hn0, Option.bind_some] at hR
    by_cases q : B2 181 o = -3
    · rw [if_pos q] at hC hR
      by_cases q5 : v0 < 0
      · rw [if_pos q5, if_neg (by decide)] at hC
        rw [if_pos q5] at hR
        exact flt_l (cls := 3) (w := w1 ||| w0) (A1 := up2 A 68 10 (Int32.ofNat (i + 1))) (B1 := B2) hP hP2 hZ2 hL hT h hc (by decide) hA1 p6 hC hR
      · rw [if_neg q5] at hC hR
        rw [o5] at hR
        by_cases q6 : v0 < Int32.ofNat (os o)
        · rw [if_pos q6, if_pos rfl] at hC
          rw [if_pos q6] at hR
          obtain ⟨off, hz, rfl⟩ := i32_ge0 (Int32.not_lt.mp q5)
          have hof : off < os o := by rw [i32_lt hz (by omega)] at q6; exact q6
          have hkk := arr_l (Or.inr ⟨rfl, rfl⟩) hv n19 hob q off hof
          obtain ⟨j1, j2⟩ := hg1.1.2.2.2.2.2.2.2 (oa o + off) (by omega)
          rw [hkk] at j1
          have e151 : x151 (up2 A 68 10 (Int32.ofNat (i + 1))) (Int32.ofNat o) (Int32.ofNat off) = up2 A 68 10 (Int32.ofNat (i + 1)) 73 (2 * (oa o + off)) := by
            unfold x151; simp (disch := omega) only [m70, o2, i32_a, m72]
          have e152 : x152 (up2 A 68 10 (Int32.ofNat (i + 1))) (Int32.ofNat o) (Int32.ofNat off) = up2 A 68 10 (Int32.ofNat (i + 1)) 73 (2 * (oa o + off) + 1) := by
            unfold x152; simp (disch := omega) only [m70, o2, i32_a, m72]
          rw [e151, e152] at hC
          have hi3' : inb (Int32.ofNat (oa o + off)) 3001 := (i32_inb (by omega)).mpr (by omega)
          have hcl3 : (Int32.ofNat (oa o + off)).toNatClampNeg = oa o + off := i32_cl (by omega)
          simp only [o3, i32_a, if_pos hi3', hcl3, if_true] at hR
          have e1f : (if B2 82 6 &&& 1 = 0 then some (0 : Int32) else some w0) = some (x153 (up2 A 68 10 (Int32.ofNat (i + 1))) 1 w0) := by
            unfold x153; rw [hg1.2.2.2.1]; split <;> rfl
          have e2f : (if B2 82 6 &&& 2 = 0 then some (0 : Int32) else some w1) = some (x153 (up2 A 68 10 (Int32.ofNat (i + 1))) 2 w1) := by
            unfold x153; rw [hg1.2.2.2.1]; split <;> rfl
          refine nx_push (A1 := up2 (up2 A 68 10 (Int32.ofNat (i + 1))) 68 11 (Int32.ofNat (t.1 - 2))) (B1 := B2) (h0 := t.1 - 2) (r0 := ur) (kd := 2) (v := up2 A 68 10 (Int32.ofNat (i + 1)) 73 (2 * (oa o + off))) (v' := B2 185 (oa o + off)) (w := B2 186 (oa o + off) ||| (x153 (up2 A 68 10 (Int32.ofNat (i + 1))) 2 w1 ||| x153 (up2 A 68 10 (Int32.ofNat (i + 1))) 1 w0)) hP hP2 hZ2 hL hT h hc (fun a b y => by rw [up2_o (by omega), up2_o (by omega)]) (by rw [up2_o (by omega), up2_s]) p6 ⟨by rw [up2_o (by omega)]; exact hpt.1, by rw [p6 _ _ (by omega)]; exact hpt.2.1, dp24, up2_s _ _ _ _, p5, by omega⟩ (by omega) (by omega) z3 z4.2 j1 (by decide) hi3 hinc kfu ?_ ?_
          · rw [hC, ← j2]; unfold x136; rw [drp_n hpt (j := 2) (x := 2) (by omega) rfl, Option.bind_some]; simp only [Option.bind_fun_some]
          · rw [hR, e1f, Option.bind_some, e2f, Option.bind_some, i32_s, Int32.or_assoc, Int32.or_comm (x153 (up2 A 68 10 (Int32.ofNat (i + 1))) 1 w0)]
        · rw [if_neg q6, if_neg (by decide)] at hC
          rw [if_neg q6] at hR
          exact flt_l (cls := 3) (w := w1 ||| w0) (A1 := up2 A 68 10 (Int32.ofNat (i + 1))) (B1 := B2) hP hP2 hZ2 hL hT h hc (by decide) hA1 p6 hC hR
    · rw [if_neg q, if_neg (by decide)] at hC
      rw [if_neg q] at hR
      exact flt_l (cls := 6) (w := w1 ||| w0) (A1 := up2 A 68 10 (Int32.ofNat (i + 1))) (B1 := B2) hP hP2 hZ2 hL hT h hc (by decide) hA1 p6 hC hR
theorem op_45 (hP : Hid (P = 3 ∨ P = 18)) (hP2 : 3 ≤ P ∧ P ≤ 18) (hZ2 : 85 ≤ Z ∧ Z ≤ 126) (hL : Lkd P Z n k s E F G p A0 B0) (hT : ∀ m, m < k → TyM B0 Z m (F (m + 1) - F m) (F m) G (VV m)) (h : MC P Z n k s E F p A0 B0 VV oa os hk NO U EV dp m i c fr t l A B) (hc : c < 20000) (ho : opn B0 Z (F m + i) = 45) : StepOK P Z n k s E F p A0 B0 VV c A B := by
  have hkn := kno hP hZ2 hL hT h
  obtain ⟨hLk, kx, ko, kt, k16, klo, kfu, klp, kvis, ka, kb1, kF, kF2, kk, k27⟩ := hkn
  have h' := h
  obtain ⟨c1, c2, c3, ⟨r1, r2, r3, r4, r5, r6, r7, r8, r9, r10, r11, r12⟩, c5, c6, c7⟩ := h'
  obtain ⟨t', hef, hnx, hlb, htr⟩ := kvis
  have hpt : PT dp t.1 (up2 A 68 10 (Int32.ofNat (i + 1))) B := ⟨by rw [up2_o (by omega)]; exact c6.1, c6.2.1, c6.2.2.1, by rw [up2_o (by omega)]; exact c6.2.2.2.1, c6.2.2.2.2⟩
  have hA1 : ∀ a b, (a ≠ 68 ∨ (b ≠ 10 ∧ b ≠ 11)) → up2 A 68 10 (Int32.ofNat (i + 1)) a b = A a b := fun a b y => up2_o (by omega)
  have dp24 := c6.2.2.1
  have haft : aft B0 Z (F m + i) t l = l := by unfold aft; rw [if_neg (by omega)]
  obtain ⟨hi3, hinc⟩ := hnx (by omega)
  rw [haft] at hinc
  have hef' : (tkz [1, 1, 2] t).bind (pso 0) = some t' := by
    have : efB B0 Z m (F m + i) t l = (tkz [1, 1, 2] t).bind (pso 0) := by unfold efB; rw [ho]; rfl
    rw [this] at hef; exact hef
  obtain ⟨u, g1, g2⟩ := Option.bind_eq_some_iff.mp hef'
  obtain ⟨z1, z2, z3, z4, z5⟩ := tkz_y g1 kt
  have ut : u = t' := Option.some.inj g2
  subst ut
  obtain ⟨ux, ur⟩ := u
  have z1 : 3 ≤ t.1 := z1
  have z2 : ux = t.1 - 3 := z2
  subst z2
  have z3 : ∀ j, j < t.1 - 3 → kbt ur j = kbt t.2 j := z3
  obtain ⟨v0, w0, a0, b0, y0, m0⟩ := tp_l hpt c7 (d := 0) (by omega) (y := 0) rfl
  obtain ⟨v1, w1, a1, b1, y1, m1⟩ := tp_l hpt c7 (d := 1) (by omega) (y := 1) rfl
  obtain ⟨v2, w2, a2, b2, y2, m2⟩ := tp_l hpt c7 (d := 2) (by omega) (y := 2) rfl
  have k0 : kbt t.2 (t.1 - 1 - 0) = 1 := (z5 0 (by decide)).resolve_left (by decide)
  have k1 : kbt t.2 (t.1 - 1 - 1) = 1 := (z5 1 (by decide)).resolve_left (by decide)
  have k2 : kbt t.2 (t.1 - 1 - 2) = 2 := (z5 2 (by decide)).resolve_left (by decide)
  rw [k0] at y0
  rw [k1] at y1
  rw [k2] at y2
  have y1 := y1.i
  rw [Nat.sub_zero] at y0 m0
  rw [show t.1 - 1 - 1 = t.1 - 2 by omega] at y1 m1
  rw [show t.1 - 1 - 2 = t.1 - 3 by omega] at y2 m2
  obtain ⟨B1, Bm, B2, p1, p2, pp, p3, p4, p7, p5, p6⟩ := pop3 c6 (by omega)
  have hg1 : GCo B0 Z n s p E oa os hk NO U EV (up2 A 68 10 (Int32.ofNat (i + 1))) B2 := c2.of (fun a b y => up2_o (by omega)) (fun a b y => p6 a b (by omega))
  have hn7 := hL.1.2.2.1
  have n19 := hL.1.2.2.2.1
  have hC : x129 P (up2 A 68 10 (Int32.ofNat (i + 1))) (A (P + 10) (3 * (F m + i))) (A (P + 10) (3 * (F m + i) + 1)) (A (P + 10) (3 * (F m + i) + 2)) = x160 (up2 A 68 10 (Int32.ofNat (i + 1))) (-2) := by
    rw [ka, ho, x129_h (by omega) (by omega), if_neg (by decide), if_neg (by decide), if_neg (by decide), if_pos (by decide)]; unfold x155; rw [if_neg (by decide), if_neg (by decide), if_neg (by decide), if_pos (by decide), Option.bind_fun_some]
  have hR : x238 Z B = x257 Z B (Int32.ofNat (F m + i)) 45 := by
    rw [x238_d kx r4 kb1 ko (by omega), ho]; unfold actR; rw [if_neg (by decide), if_neg (by decide), if_neg (by decide), if_neg (by decide), if_neg (by decide), if_neg (by decide), if_neg (by decide), if_neg (by decide), if_neg (by decide), if_neg (by decide), if_neg (by decide)]; unfold x251; rw [if_neg (by decide), if_neg (by decide), if_neg (by decide), if_neg (by decide), if_neg (by decide), if_neg (by decide), if_neg (by decide), if_neg (by decide), if_pos (by decide), Option.bind_fun_some]
    rfl
  unfold x160 x158 at hC
  rw [a0, b0, a1, b1, a2, b2] at hC
  unfold x257 at hR
  rw [if_pos rfl, Option.bind_some, if_neg (by decide), p1, Option.bind_some, Option.bind_some, if_neg (by decide), Option.bind_some] at hR
  dsimp only at hR
  rw [p2, Option.bind_some] at hR
  dsimp only at hR
  rw [pp, Option.bind_some, if_neg (by decide), if_pos rfl, Option.bind_some] at hR
  dsimp only at hR
  have eor : (w0 ||| w1) ||| w2 = (w2 ||| w1) ||| w0 := by rw [Int32.or_comm w0 w1, Int32.or_comm (w1 ||| w0) w2, Int32.or_assoc]
  rw [p3, p4, p7, m0, m1, m2, ← y1, eor] at hR
  simp only [Option.bind_fun_some] at hR hC
  rcases y2.r with ⟨y3, y4⟩ | ⟨o, hr, y3, y4⟩
  · rw [y3, if_pos rfl, if_neg (by decide)] at hC
    rw [y4, if_pos rfl, if_pos rfl, Option.bind_some] at hR
    exact flt_l (cls := 2) (w := (w2 ||| w1) ||| w0) (A1 := up2 A 68 10 (Int32.ofNat (i + 1))) (B1 := B2) hP hP2 hZ2 hL hT h hc (by decide) hA1 p6 hC hR
  · obtain ⟨-, cc, hv, hob⟩ := ob_cv hn7 hg1 hr
    obtain ⟨e1, e2⟩ := cls_l hg1 hr rfl
    obtain ⟨o1, o2, o3, o4, o5, o6, o7, o8⟩ := hg1.1.2.2.2.2.2.2.1 o hr
    have hNU := hg1.1.2.2.2.2.2.1
    have hn0 : ¬ Int32.ofNat (o + 1) = 0 := i32_n0 (by omega)
    have hi2 : inb (Int32.ofNat o) 3001 := (i32_inb (by omega)).mpr (by omega)
    have hcl2 : (Int32.ofNat o).toNatClampNeg = o := i32_cl (by omega)
    have e159 : x159 (up2 A 68 10 (Int32.ofNat (i + 1))) (Int32.ofNat o) = Int32.ofNat (os o) := by unfold x159; simp (disch := omega) only [m70]; exact o4
    rw [y3, if_neg (i32_m1 (by omega)), e1, e159] at hC
    rw [y4, if_neg hn0, i32_p] at hR
    simp only [if_pos hi2, hcl2, if_neg hn0, Option.bind_some] at hR
    by_cases q : B2 181 o = -2
    · rw [if_pos q] at hC hR
      by_cases q5 : v1 < 0
      · rw [if_pos q5, if_neg (by decide)] at hC
        rw [if_pos q5] at hR
        exact flt_l (cls := 3) (w := (w2 ||| w1) ||| w0) (A1 := up2 A 68 10 (Int32.ofNat (i + 1))) (B1 := B2) hP hP2 hZ2 hL hT h hc (by decide) hA1 p6 hC hR
      · rw [if_neg q5] at hC hR
        rw [o5] at hR
        by_cases q6 : v1 < Int32.ofNat (os o)
        · rw [if_pos q6, if_pos rfl] at hC
          rw [if_pos q6] at hR
          obtain ⟨off, hz, rfl⟩ := i32_ge0 (Int32.not_lt.mp q5)
          have hof : off < os o := by rw [i32_lt hz (by omega)] at q6; exact q6
          have hkk := arr_l (Or.inl ⟨rfl, rfl⟩) hv n19 hob q off hof
          have hju : oa o + off < U := by omega
          have y0 : VR NO (hk (oa o + off)) v0 (B 198 (16 * dp + (t.1 - 1))) := by rw [hkk]; exact y0
          generalize hW : w0 ||| (x153 (up2 A 68 10 (Int32.ofNat (i + 1))) 4 w2 ||| x153 (up2 A 68 10 (Int32.ofNat (i + 1))) 1 w1) = W at hC
          have hi3' : inb (Int32.ofNat (oa o + off)) 3001 := (i32_inb (by omega)).mpr (by omega)
          have hcl3 : (Int32.ofNat (oa o + off)).toNatClampNeg = oa o + off := i32_cl (by omega)
          have e1f : (if B2 82 6 &&& 1 = 0 then some (0 : Int32) else some w1) = some (x153 (up2 A 68 10 (Int32.ofNat (i + 1))) 1 w1) := by
            unfold x153; rw [hg1.2.2.2.1]; split <;> rfl
          have e4f : (if B2 82 6 &&& 4 = 0 then (0 : Int32) else w2) = x153 (up2 A 68 10 (Int32.ofNat (i + 1))) 4 w2 := by
            unfold x153; rw [hg1.2.2.2.1]
          have hRW : x238 Z B = some (up2 (up2 (up2 B2 185 (oa o + off) (B 198 (16 * dp + (t.1 - 1)))) 186 (oa o + off) W) 82 64 (Int32.ofNat (F m + i + 1))) := by
            rw [hR, e1f, Option.bind_some, if_neg (by decide)]
            simp only [o3, i32_a, if_pos hi3', hcl3, Lt, i32_s]
            rw [← hW, ← e4f]
            by_cases zz : B2 82 6 &&& 4 = 0
            · rw [if_pos zz, if_pos zz, Int32.or_zero, Int32.zero_or]
            · rw [if_neg zz, if_neg zz, Int32.or_assoc, Int32.or_comm w2]
          generalize hA3 : up2 (up2 (up2 (up2 A 68 10 (Int32.ofNat (i + 1))) 73 (2 * (oa o + off)) v0) 73 (2 * (oa o + off) + 1) W) 68 11 (Int32.ofNat (t.1 - 3)) = A3
          generalize hB3 : up2 (up2 (up2 B2 185 (oa o + off) (B 198 (16 * dp + (t.1 - 1)))) 186 (oa o + off) W) 82 64 (Int32.ofNat (F m + i + 1)) = B3 at hRW
          have fA : ∀ a b, (a ≠ 68 ∨ (b ≠ 10 ∧ b ≠ 11)) → (a ≠ 73 ∨ (b ≠ 2 * (oa o + off) ∧ b ≠ 2 * (oa o + off) + 1)) → A3 a b = A a b := fun a b y1 y2 => by rw [← hA3, up2_o (by omega), up2_o (by omega), up2_o (by omega), up2_o (by omega)]
          have fB : ∀ a b, (a ≠ 82 ∨ (b ≠ 64 ∧ b ≠ 65 ∧ b ≠ 66)) → ((a ≠ 185 ∧ a ≠ 186) ∨ b ≠ oa o + off) → B3 a b = B a b := fun a b y1 y2 => by rw [← hB3, up2_o (by omega), up2_o (by omega), up2_o (by omega), p6 a b (by omega)]
          refine nx_gw (A1 := A3) (B1 := B3) (oa' := oa) (os' := os) (hk' := hk) (NO' := NO) (U' := U) (EV' := EV) (h0 := t.1 - 3) (r0 := ur) hP hP2 hZ2 hL hT h hc (Nat.le_refl _) (c1.of (fun a b _ _ => fA a b (by omega) (by omega)) (fun a b _ => fB a b (by omega) (by omega))) (c2.hp (j := oa o + off) (v := v0) (v' := B 198 (16 * dp + (t.1 - 1))) (w := W) hju y0 (fun a b y1 y2 => fA a b (by omega) y1) (fun a b y1 y2 => fB a b (by omega) (by omega)) ?_ ?_ ?_ ?_) (fun a b _ => fA a b (by omega) (by omega)) ?_ ?_ (fun a b _ => fB a b (by omega) (by omega)) ?_ ?_ (by omega) z3 hi3 hinc kfu ?_ hRW
          · rw [← hA3]; simp (disch := omega) only [up2_o, up2_s]
          · rw [← hA3]; simp (disch := omega) only [up2_o, up2_s]
          · rw [← hB3]; simp (disch := omega) only [up2_o, up2_s]
          · rw [← hB3]; simp (disch := omega) only [up2_o, up2_s]
          · rw [← hA3]; simp (disch := omega) only [up2_o, up2_s]
          · rw [← hA3, up2_s]
          · rw [← hB3, up2_s]
          · rw [← hB3]; simp (disch := omega) only [up2_o, up2_s]; exact p5
          · rw [hC]
            unfold x146 tset2
            simp (disch := omega) only [m70, o2, i32_a, m72]
            rw [Option.bind_some]
            unfold x135
            simp (disch := omega) only [up2_o]
            rw [c6.2.2.2.1, show (3 : Int32) = Int32.ofNat 3 from rfl, i32_sb (by omega), hA3]
        · rw [if_neg q6, if_neg (by decide)] at hC
          rw [if_neg q6] at hR
          exact flt_l (cls := 3) (w := (w2 ||| w1) ||| w0) (A1 := up2 A 68 10 (Int32.ofNat (i + 1))) (B1 := B2) hP hP2 hZ2 hL hT h hc (by decide) hA1 p6 hC hR
    · rw [if_neg q, if_neg (by decide)] at hC
      rw [if_neg q] at hR
      exact flt_l (cls := 6) (w := (w2 ||| w1) ||| w0) (A1 := up2 A 68 10 (Int32.ofNat (i + 1))) (B1 := B2) hP hP2 hZ2 hL hT h hc (by decide) hA1 p6 hC hR
theorem op_47 (hP : Hid (P = 3 ∨ P = 18)) (hP2 : 3 ≤ P ∧ P ≤ 18) (hZ2 : 85 ≤ Z ∧ Z ≤ 126) (hL : Lkd P Z n k s E F G p A0 B0) (hT : ∀ m, m < k → TyM B0 Z m (F (m + 1) - F m) (F m) G (VV m)) (h : MC P Z n k s E F p A0 B0 VV oa os hk NO U EV dp m i c fr t l A B) (hc : c < 20000) (ho : opn B0 Z (F m + i) = 47) : StepOK P Z n k s E F p A0 B0 VV c A B := by
  have hkn := kno hP hZ2 hL hT h
  obtain ⟨hLk, kx, ko, kt, k16, klo, kfu, klp, kvis, ka, kb1, kF, kF2, kk, k27⟩ := hkn
  have h' := h
  obtain ⟨c1, c2, c3, ⟨r1, r2, r3, r4, r5, r6, r7, r8, r9, r10, r11, r12⟩, c5, c6, c7⟩ := h'
  obtain ⟨t', hef, hnx, hlb, htr⟩ := kvis
  have hpt : PT dp t.1 (up2 A 68 10 (Int32.ofNat (i + 1))) B := ⟨by rw [up2_o (by omega)]; exact c6.1, c6.2.1, c6.2.2.1, by rw [up2_o (by omega)]; exact c6.2.2.2.1, c6.2.2.2.2⟩
  have hA1 : ∀ a b, (a ≠ 68 ∨ (b ≠ 10 ∧ b ≠ 11)) → up2 A 68 10 (Int32.ofNat (i + 1)) a b = A a b := fun a b y => up2_o (by omega)
  have dp24 := c6.2.2.1
  have haft : aft B0 Z (F m + i) t l = l := by unfold aft; rw [if_neg (by omega)]
  obtain ⟨hi3, hinc⟩ := hnx (by omega)
  rw [haft] at hinc
  have hef' : (tkz [2, 1, 2] t).bind (pso 0) = some t' := by
    have : efB B0 Z m (F m + i) t l = (tkz [2, 1, 2] t).bind (pso 0) := by unfold efB; rw [ho]; rfl
    rw [this] at hef; exact hef
  obtain ⟨u, g1, g2⟩ := Option.bind_eq_some_iff.mp hef'
  obtain ⟨z1, z2, z3, z4, z5⟩ := tkz_y g1 kt
  have ut : u = t' := Option.some.inj g2
  subst ut
  obtain ⟨ux, ur⟩ := u
  have z1 : 3 ≤ t.1 := z1
  have z2 : ux = t.1 - 3 := z2
  subst z2
  have z3 : ∀ j, j < t.1 - 3 → kbt ur j = kbt t.2 j := z3
  obtain ⟨v0, w0, a0, b0, y0, m0⟩ := tp_l hpt c7 (d := 0) (by omega) (y := 0) rfl
  obtain ⟨v1, w1, a1, b1, y1, m1⟩ := tp_l hpt c7 (d := 1) (by omega) (y := 1) rfl
  obtain ⟨v2, w2, a2, b2, y2, m2⟩ := tp_l hpt c7 (d := 2) (by omega) (y := 2) rfl
  have k0 : kbt t.2 (t.1 - 1 - 0) = 2 := (z5 0 (by decide)).resolve_left (by decide)
  have k1 : kbt t.2 (t.1 - 1 - 1) = 1 := (z5 1 (by decide)).resolve_left (by decide)
  have k2 : kbt t.2 (t.1 - 1 - 2) = 2 := (z5 2 (by decide)).resolve_left (by decide)
  rw [k0] at y0
  rw [k1] at y1
  rw [k2] at y2
  have y1 := y1.i
  rw [Nat.sub_zero] at y0 m0
  rw [show t.1 - 1 - 1 = t.1 - 2 by omega] at y1 m1
  rw [show t.1 - 1 - 2 = t.1 - 3 by omega] at y2 m2
  obtain ⟨B1, Bm, B2, p1, p2, pp, p3, p4, p7, p5, p6⟩ := pop3 c6 (by omega)
  have hg1 : GCo B0 Z n s p E oa os hk NO U EV (up2 A 68 10 (Int32.ofNat (i + 1))) B2 := c2.of (fun a b y => up2_o (by omega)) (fun a b y => p6 a b (by omega))
  have hn7 := hL.1.2.2.1
  have n19 := hL.1.2.2.2.1
  have hC : x129 P (up2 A 68 10 (Int32.ofNat (i + 1))) (A (P + 10) (3 * (F m + i))) (A (P + 10) (3 * (F m + i) + 1)) (A (P + 10) (3 * (F m + i) + 2)) = x160 (up2 A 68 10 (Int32.ofNat (i + 1))) (-3) := by
    rw [ka, ho, x129_h (by omega) (by omega), if_neg (by decide), if_neg (by decide), if_neg (by decide), if_pos (by decide)]; unfold x155; rw [if_neg (by decide), if_neg (by decide), if_neg (by decide), if_neg (by decide), if_neg (by decide), if_pos (by decide), Option.bind_fun_some]
  have hR : x238 Z B = x257 Z B (Int32.ofNat (F m + i)) 47 := by
    rw [x238_d kx r4 kb1 ko (by omega), ho]; unfold actR; rw [if_neg (by decide), if_neg (by decide), if_neg (by decide), if_neg (by decide), if_neg (by decide), if_neg (by decide), if_neg (by decide), if_neg (by decide), if_neg (by decide), if_neg (by decide), if_neg (by decide)]; unfold x251; rw [if_neg (by decide), if_neg (by decide), if_neg (by decide), if_neg (by decide), if_neg (by decide), if_neg (by decide), if_neg (by decide), if_neg (by decide), if_neg (by decide), if_neg (by decide), if_pos (by decide), Option.bind_fun_some]
    rfl
  unfold x160 x158 at hC
  rw [a0, b0, a1, b1, a2, b2] at hC
  unfold x257 at hR
  rw [if_neg (by decide), if_pos rfl, Option.bind_some, if_neg (by decide), p1, Option.bind_some, Option.bind_some, if_neg (by decide), Option.bind_some] at hR
  dsimp only at hR
  rw [p2, Option.bind_some] at hR
  dsimp only at hR
  rw [pp, Option.bind_some, if_neg (by decide), if_neg (by decide), Option.bind_some] at hR
  dsimp only at hR
  have eor : (w0 ||| w1) ||| w2 = (w2 ||| w1) ||| w0 := by rw [Int32.or_comm w0 w1, Int32.or_comm (w1 ||| w0) w2, Int32.or_assoc]
  rw [p3, p4, p7, m0, m1, m2, ← y1, eor] at hR
  simp only [Option.bind_fun_some] at hR hC
  rcases y2.r with ⟨y3, y4⟩ | ⟨o, hr, y3, y4⟩
  · rw [y3, if_pos rfl, if_neg (by decide)] at hC
    rw [y4, if_pos rfl, if_pos rfl, Option.bind_some] at hR
    exact flt_l (cls := 2) (w := (w2 ||| w1) ||| w0) (A1 := up2 A 68 10 (Int32.ofNat (i + 1))) (B1 := B2) hP hP2 hZ2 hL hT h hc (by decide) hA1 p6 hC hR
  · obtain ⟨-, cc, hv, hob⟩ := ob_cv hn7 hg1 hr
    obtain ⟨e1, e2⟩ := cls_l hg1 hr rfl
    obtain ⟨o1, o2, o3, o4, o5, o6, o7, o8⟩ := hg1.1.2.2.2.2.2.2.1 o hr
    have hNU := hg1.1.2.2.2.2.2.1
    have hn0 : ¬ Int32.ofNat (o + 1) = 0 := i32_n0 (by omega)
    have hi2 : inb (Int32.ofNat o) 3001 := (i32_inb (by omega)).mpr (by omega)
    have hcl2 : (Int32.ofNat o).toNatClampNeg = o := i32_cl (by omega)
    have e159 : x159 (up2 A 68 10 (Int32.ofNat (i + 1))) (Int32.ofNat o) = Int32.ofNat (os o) := by unfold x159; simp (disch := omega) only [m70]; exact o4
    rw [y3, if_neg (i32_m1 (by omega)), e1, e159] at hC
    rw [y4, if_neg hn0, i32_p] at hR
    simp only [if_pos hi2, hcl2, if_neg hn0, Option.bind_some] at hR
    by_cases q : B2 181 o = -3
    · rw [if_pos q] at hC hR
      by_cases q5 : v1 < 0
      · rw [if_pos q5, if_neg (by decide)] at hC
        rw [if_pos q5] at hR
        exact flt_l (cls := 3) (w := (w2 ||| w1) ||| w0) (A1 := up2 A 68 10 (Int32.ofNat (i + 1))) (B1 := B2) hP hP2 hZ2 hL hT h hc (by decide) hA1 p6 hC hR
      · rw [if_neg q5] at hC hR
        rw [o5] at hR
        by_cases q6 : v1 < Int32.ofNat (os o)
        · rw [if_pos q6, if_pos rfl] at hC
          rw [if_pos q6] at hR
          obtain ⟨off, hz, rfl⟩ := i32_ge0 (Int32.not_lt.mp q5)
          have hof : off < os o := by rw [i32_lt hz (by omega)] at q6; exact q6
          have hkk := arr_l (Or.inr ⟨rfl, rfl⟩) hv n19 hob q off hof
          have hju : oa o + off < U := by omega
          have y0 : VR NO (hk (oa o + off)) v0 (B 198 (16 * dp + (t.1 - 1))) := by rw [hkk]; exact y0
          generalize hW : w0 ||| (x153 (up2 A 68 10 (Int32.ofNat (i + 1))) 4 w2 ||| x153 (up2 A 68 10 (Int32.ofNat (i + 1))) 1 w1) = W at hC
          have hi3' : inb (Int32.ofNat (oa o + off)) 3001 := (i32_inb (by omega)).mpr (by omega)
          have hcl3 : (Int32.ofNat (oa o + off)).toNatClampNeg = oa o + off := i32_cl (by omega)
          have e1f : (if B2 82 6 &&& 1 = 0 then some (0 : Int32) else some w1) = some (x153 (up2 A 68 10 (Int32.ofNat (i + 1))) 1 w1) := by
            unfold x153; rw [hg1.2.2.2.1]; split <;> rfl
          have e4f : (if B2 82 6 &&& 4 = 0 then (0 : Int32) else w2) = x153 (up2 A 68 10 (Int32.ofNat (i + 1))) 4 w2 := by
            unfold x153; rw [hg1.2.2.2.1]
          have hRW : x238 Z B = some (up2 (up2 (up2 B2 185 (oa o + off) (B 198 (16 * dp + (t.1 - 1)))) 186 (oa o + off) W) 82 64 (Int32.ofNat (F m + i + 1))) := by
            rw [hR, e1f, Option.bind_some, if_neg (by decide)]
            simp only [o3, i32_a, if_pos hi3', hcl3, Lt, i32_s]
            rw [← hW, ← e4f]
            by_cases zz : B2 82 6 &&& 4 = 0
            · rw [if_pos zz, if_pos zz, Int32.or_zero, Int32.zero_or]
            · rw [if_neg zz, if_neg zz, Int32.or_assoc, Int32.or_comm w2]
          generalize hA3 : up2 (up2 (up2 (up2 A 68 10 (Int32.ofNat (i + 1))) 73 (2 * (oa o + off)) v0) 73 (2 * (oa o + off) + 1) W) 68 11 (Int32.ofNat (t.1 - 3)) = A3
          generalize hB3 : up2 (up2 (up2 B2 185 (oa o + off) (B 198 (16 * dp + (t.1 - 1)))) 186 (oa o + off) W) 82 64 (Int32.ofNat (F m + i + 1)) = B3 at hRW
          have fA : ∀ a b, (a ≠ 68 ∨ (b ≠ 10 ∧ b ≠ 11)) → (a ≠ 73 ∨ (b ≠ 2 * (oa o + off) ∧ b ≠ 2 * (oa o + off) + 1)) → A3 a b = A a b := fun a b y1 y2 => by rw [← hA3, up2_o (by omega), up2_o (by omega), up2_o (by omega), up2_o (by omega)]
          have fB : ∀ a b, (a ≠ 82 ∨ (b ≠ 64 ∧ b ≠ 65 ∧ b ≠ 66)) → ((a ≠ 185 ∧ a ≠ 186) ∨ b ≠ oa o + off) → B3 a b = B a b := fun a b y1 y2 => by rw [← hB3, up2_o (by omega), up2_o (by omega), up2_o (by omega), p6 a b (by omega)]
          refine nx_gw (A1 := A3) (B1 := B3) (oa' := oa) (os' := os) (hk' := hk) (NO' := NO) (U' := U) (EV' := EV) (h0 := t.1 - 3) (r0 := ur) hP hP2 hZ2 hL hT h hc (Nat.le_refl _) (c1.of (fun a b _ _ => fA a b (by omega) (by omega)) (fun a b _ => fB a b (by omega) (by omega))) (c2.hp (j := oa o + off) (v := v0) (v' := B 198 (16 * dp + (t.1 - 1))) (w := W) hju y0 (fun a b y1 y2 => fA a b (by omega) y1) (fun a b y1 y2 => fB a b (by omega) (by omega)) ?_ ?_ ?_ ?_) (fun a b _ => fA a b (by omega) (by omega)) ?_ ?_ (fun a b _ => fB a b (by omega) (by omega)) ?_ ?_ (by omega) z3 hi3 hinc kfu ?_ hRW
          · rw [← hA3]; simp (disch := omega) only [up2_o, up2_s]
          · rw [← hA3]; simp (disch := omega) only [up2_o, up2_s]
          · rw [← hB3]; simp (disch := omega) only [up2_o, up2_s]
          · rw [← hB3]; simp (disch := omega) only [up2_o, up2_s]
          · rw [← hA3]; simp (disch := omega) only [up2_o, up2_s]
          · rw [← hA3, up2_s]
          · rw [← hB3, up2_s]
          · rw [← hB3]; simp (disch := omega) only [up2_o, up2_s]; exact p5
          · rw [hC]
            unfold x146 tset2
            simp (disch := omega) only [m70, o2, i32_a, m72]
            rw [Option.bind_some]
            unfold x135
            simp (disch := omega) only [up2_o]
            rw [c6.2.2.2.1, show (3 : Int32) = Int32.ofNat 3 from rfl, i32_sb (by omega), hA3]
        · rw [if_neg q6, if_neg (by decide)] at hC
          rw [if_neg q6] at hR
          exact flt_l (cls := 3) (w := (w2 ||| w1) ||| w0) (A1 := up2 A 68 10 (Int32.ofNat (i + 1))) (B1 := B2) hP hP2 hZ2 hL hT h hc (by decide) hA1 p6 hC hR
    · rw [if_neg q, if_neg (by decide)] at hC
      rw [if_neg q] at hR
      exact flt_l (cls := 6) (w := (w2 ||| w1) ||| w0) (A1 := up2 A 68 10 (Int32.ofNat (i + 1))) (B1 := B2) hP hP2 hZ2 hL hT h hc (by decide) hA1 p6 hC hR
end
