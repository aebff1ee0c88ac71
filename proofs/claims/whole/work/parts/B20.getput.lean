/-! get, put -/
section
variable {P Z n k s : Nat} {E F G p oa os hk : Nat → Nat} {A0 B0 A B A' B' : St} {VV : Nat → Nat → Option VEn} {NO U EV dp m i c x o : Nat} {fr : Nat → FrT} {t : Nat × Nat} {l : Nat × Nat × Nat}
theorem op_38 (hP : Hid (P = 3 ∨ P = 18)) (hP2 : 3 ≤ P ∧ P ≤ 18) (hZ2 : 85 ≤ Z ∧ Z ≤ 126) (hL : Lkd P Z n k s E F G p A0 B0) (hT : ∀ m, m < k → TyM B0 Z m (F (m + 1) - F m) (F m) G (VV m)) (h : MC P Z n k s E F p A0 B0 VV oa os hk NO U EV dp m i c fr t l A B) (hc : c < 20000) (ho : opn B0 Z (F m + i) = 38) : StepOK P Z n k s E F p A0 B0 VV c A B := by
  have hkn := kno hP hZ2 hL hT h
  obtain ⟨hLk, kx, ko, kt, k16, klo, kfu, klp, kvis, ka, kb1, kF, kF2, kk, k27⟩ := hkn
  have h' := h
  obtain ⟨c1, c2, c3, ⟨r1, r2, r3, r4, r5, r6, r7, r8, r9, r10, r11, r12⟩, c5, c6, c7⟩ := h'
  obtain ⟨t', hef, hnx, hlb, htr⟩ := kvis
  have hpt : PT dp t.1 (up2 A 68 10 (Int32.ofNat (i + 1))) B := ⟨by rw [up2_o (by omega)]; exact c6.1, c6.2.1, c6.2.2.1, by rw [up2_o (by omega)]; exact c6.2.2.2.1, c6.2.2.2.2⟩
  have hA1 : ∀ a b, (a ≠ 68 ∨ (b ≠ 10 ∧ b ≠ 11)) → up2 A 68 10 (Int32.ofNat (i + 1)) a b = A a b := fun a b y => up2_o (by omega)
  have dp24 := c6.2.2.1
  have haft : aft B0 Z (F m + i) t l = l := by unfold aft; rw [if_neg (by omega)]
  obtain ⟨hi3, hinc⟩ := hnx (by omega)
  rw [haft] at hinc
  obtain ⟨o, o1, o2, o3, o4, o5, o6, o7, o8, o9⟩ := klp
  have eo : o = 38 := by rw [kb1, ho, i32_eq (by omega) (Nat.lt_trans o1 (by decide))] at o3; exact o3.symm
  subst eo
  obtain ⟨cl, d1, d2, d3⟩ := o8 (by decide)
  obtain ⟨cl', r, fn, f2, f3, f4, f5, -, -, -⟩ := o9 (by decide)
  obtain ⟨hrE, d, hd, hisa, h9⟩ := f5 (by decide)
  clear o4 o5 o6 o7 o8 o9
  have n19 := hL.1.2.2.2.1
  have hn7 := hL.1.2.2.1
  obtain rfl : cl' = cl := by rw [f2, i32_eq (by omega) (by omega)] at d3; exact d3
  obtain ⟨hEm, hE0, hE96⟩ := E_mo hLk.1
  have hown := (E_own hLk.1 hrE hd).mp h9
  have hd7 : 7 ≤ d := by
    have e7 := hL.1.2.2.2.2.2.2.1
    by_cases y : d + 1 ≤ 7
    · have := hEm (d + 1) 7 y (by omega); omega
    · omega
  have hisb : isb p cl' d = 1 := by unfold isb; exact if_pos hisa
  have hcl0 : cl' ≠ 0 := by
    intro z
    rw [z, isb_s hL.1.2.2.2.2.2.2.2.1 n19 (by omega), if_neg (by omega), if_pos rfl] at hisb
    exact absurd hisb (by decide)
  have einn : inn B0 Z (F m + i) = r := by unfold inn; rw [← k27, f4, i32_cl (by omega)]
  have e11 : B (Z + 11) r = B0 (Z + 11) r := c1.2 _ _ (by omega)
  have e12 : (B0 (Z + 11) r).toNatClampNeg = 1 ∨ (B0 (Z + 11) r).toNatClampNeg = 2 := by
    rcases (hL.1.2.2.2.2.2.2.2.2.2.2.2.1 r hrE).2 with y | y <;> rw [y]
    · exact Or.inl rfl
    · exact Or.inr rfl
  have hfk : ifk B0 Z (F m + i) = (B0 (Z + 11) r).toNatClampNeg := by unfold ifk; rw [if_pos (by omega), einn]
  have h5r : A (P + 4) (5 * r + 4) = Int32.ofNat (alf p E 19 (p d) + (r - E d)) := hLk.1.2.2.2.2.2.2.2.2.2.2.2.2.1 d hd7 hd r hown.1 hown.2
  have hi : inb (Int32.ofNat (F m + i)) 2400 := (i32_inb (by omega)).mpr (by omega)
  have hcl : (Int32.ofNat (F m + i)).toNatClampNeg = F m + i := i32_cl (by omega)
  have hef' : (tkk 2 t).bind (psg (B0 (Z + 11) r).toNatClampNeg) = some t' := by
    have : efB B0 Z m (F m + i) t l = (tkk 2 t).bind (psg (ifk B0 Z (F m + i))) := by unfold efB; rw [ho]; rfl
    rw [this, hfk] at hef; exact hef
  obtain ⟨u, g1, g2⟩ := Option.bind_eq_some_iff.mp hef'
  obtain ⟨z1, q2, rfl⟩ := tkk_y g1
  obtain ⟨q3, rfl⟩ := psg_y g2
  have q2 := q2.resolve_left (by omega)
  rw [skd_kb] at q2
  obtain ⟨v0, w0, a0, b0, y0, m0⟩ := tp_l hpt c7 (d := 0) (by omega) (y := 0) rfl
  rw [Nat.sub_zero] at y0 m0
  rw [q2] at y0
  obtain ⟨B1, p1, p3, p5, p6⟩ := pop1 c6 (by omega)
  have hLk1 : Lkd P Z n k s E F G p (up2 A 68 10 (Int32.ofNat (i + 1))) B1 := hLk.of (fun a b y1 y2 _ => up2_o (by omega)) (fun a b y => p6 a b (by omega))
  have hg1 : GCo B0 Z n s p E oa os hk NO U EV (up2 A 68 10 (Int32.ofNat (i + 1))) B1 := c2.of (fun a b y => up2_o (by omega)) (fun a b y => p6 a b (by omega))
  have hC : x129 P (up2 A 68 10 (Int32.ofNat (i + 1))) (A (P + 10) (3 * (F m + i))) (A (P + 10) (3 * (F m + i) + 1)) (A (P + 10) (3 * (F m + i) + 2)) = (x148 P (up2 A 68 10 (Int32.ofNat (i + 1))) v0 (Int32.ofNat cl')).bind fun q1 => if q1 = 0 then x136 (up2 A 68 10 (Int32.ofNat (i + 1))) 1 (x151 (up2 A 68 10 (Int32.ofNat (i + 1))) v0 (Int32.ofNat (alf p E 19 (p d) + (r - E d)))) ((x152 (up2 A 68 10 (Int32.ofNat (i + 1))) v0 (Int32.ofNat (alf p E 19 (p d) + (r - E d)))) ||| (x153 (up2 A 68 10 (Int32.ofNat (i + 1))) 2 w0)) else x138 (up2 A 68 10 (Int32.ofNat (i + 1))) q1 w0 := by
    rw [ka, ho, x129_h (by omega) (by omega), if_neg (by decide), if_neg (by decide), if_pos (by decide)]; unfold x144; rw [if_neg (by decide), if_pos (by decide), Option.bind_fun_some, f3, d2]
    simp (disch := omega) only [tP3 hP]
    rw [up2_o (by omega), h5r]
    unfold x147
    rw [a0, b0]
    simp only [Option.bind_fun_some]
  have hR : x238 Z B = x253 Z B (Int32.ofNat (F m + i)) 38 := by
    rw [x238_d kx r4 kb1 ko (by omega), ho]; unfold actR; rw [if_neg (by decide), if_neg (by decide), if_neg (by decide), if_neg (by decide), if_neg (by decide), if_neg (by decide), if_neg (by decide), if_neg (by decide), if_neg (by decide), if_neg (by decide), if_neg (by decide)]; unfold x251; rw [if_neg (by decide), if_pos (by decide), Option.bind_fun_some]
    rfl
  have e33 : B1 (Z + 33) (F m + i) = Int32.ofNat cl' := by rw [p6 _ _ (by omega)]; exact f2
  have e27 : B1 (Z + 27) (F m + i) = Int32.ofNat r := by rw [p6 _ _ (by omega)]; exact f4
  unfold x253 at hR
  rw [if_neg (by decide), Option.bind_some, if_neg (by decide), Option.bind_some] at hR
  dsimp only at hR
  rw [p1, Option.bind_some] at hR
  dsimp only at hR
  rw [p3, m0, show (0 : Int32) ||| w0 = w0 from Int32.zero_or] at hR
  simp only [Option.bind_fun_some, if_pos hi, hcl, e33, e27, if_neg (show ¬ (38 : Int32) = 39 by decide)] at hR
  rcases y0.r with ⟨y1, y2⟩ | ⟨o, hr, y1, y2⟩
  · rw [y1] at hC
    unfold x148 at hC
    rw [if_pos rfl, Option.bind_some, if_neg (by decide)] at hC
    rw [y2, if_pos rfl, if_pos rfl, Option.bind_some] at hR
    exact flt_l (cls := 2) (w := w0) (A1 := up2 A 68 10 (Int32.ofNat (i + 1))) (B1 := B1) hP hP2 hZ2 hL hT h hc (by decide) hA1 p6 hC hR
  · obtain ⟨-, cc, hv, hob⟩ := ob_cv hn7 hg1 hr
    obtain ⟨e1, e2⟩ := cls_l hg1 hr rfl
    obtain ⟨t1, t2, t3⟩ := obf_l hP hLk1.1 hv e2 d1 hcl0 e1
    have hn0 : ¬ Int32.ofNat (o + 1) = 0 := i32_n0 (by omega)
    rw [y1, t1, Option.bind_some] at hC
    rw [y2, if_neg hn0, t2, Option.bind_some] at hR
    by_cases q : isb p cc cl' = 0
    · rw [if_pos q, if_neg (by decide)] at hC
      rw [if_pos q, if_pos rfl, if_neg hn0, Option.bind_some] at hR
      exact flt_l (cls := 6) (w := w0) (A1 := up2 A 68 10 (Int32.ofNat (i + 1))) (B1 := B1) hP hP2 hZ2 hL hT h hc (by decide) hA1 p6 hC hR
    · obtain ⟨t4, t5⟩ := t3 q
      rw [if_neg q, if_pos rfl] at hC
      rw [if_neg q, if_neg (by decide), i32_p, x255_n hLk1.1 hrE hd hd7 (by rw [p6 _ _ (by omega)]; exact h9), Option.bind_some] at hR
      obtain ⟨s1, s2⟩ := fkd_l (B0 := B0) hLk1.1 hd hd7 hown cc hv.1 (isb_tr hL.1.2.2.2.2.2.2.2.1 n19 cc cl' d hv.1 d1 t4 hisb)
      obtain ⟨o1, o2, o3, o4, o5, o6, o7, o8⟩ := hg1.1.2.2.2.2.2.2.1 o hr
      have hos : os o = alf p E 19 cc ∧ ∀ q, q < os o → hk (oa o + q) = fkd B0 Z p E 19 cc q := by
        rcases hob with ⟨-, x1, x2⟩ | ⟨x1, x2⟩
        · exact ⟨x1, x2⟩
        · exfalso
          rw [x1, isb_s hL.1.2.2.2.2.2.2.2.1 n19 (by omega), if_neg (by omega), if_pos rfl] at q
          exact q rfl
      generalize hof : alf p E 19 (p d) + (r - E d) = off at hC hR s1 s2
      have hkk := hos.2 off (by omega)
      rw [s2] at hkk
      have hNU := hg1.1.2.2.2.2.2.1
      obtain ⟨j1, j2⟩ := hg1.1.2.2.2.2.2.2.2 (oa o + off) (by omega)
      rw [hkk] at j1
      have e151 : x151 (up2 A 68 10 (Int32.ofNat (i + 1))) (Int32.ofNat o) (Int32.ofNat off) = up2 A 68 10 (Int32.ofNat (i + 1)) 73 (2 * (oa o + off)) := by
        unfold x151; simp (disch := omega) only [m70, o2, i32_a, m72]
      have e152 : x152 (up2 A 68 10 (Int32.ofNat (i + 1))) (Int32.ofNat o) (Int32.ofNat off) = up2 A 68 10 (Int32.ofNat (i + 1)) 73 (2 * (oa o + off) + 1) := by
        unfold x152; simp (disch := omega) only [m70, o2, i32_a, m72]
      rw [e151, e152] at hC
      have hi2 : inb (Int32.ofNat o) 3001 := (i32_inb (by omega)).mpr (by omega)
      have hcl2 : (Int32.ofNat o).toNatClampNeg = o := i32_cl (by omega)
      have hi3' : inb (Int32.ofNat (oa o + off)) 3001 := (i32_inb (by omega)).mpr (by omega)
      have hcl3 : (Int32.ofNat (oa o + off)).toNatClampNeg = oa o + off := i32_cl (by omega)
      simp only [if_pos hi2, hcl2, o3, i32_a, if_pos hi3', hcl3] at hR
      refine nx_push (A1 := up2 (up2 A 68 10 (Int32.ofNat (i + 1))) 68 11 (Int32.ofNat (t.1 - 1))) (B1 := B1) (h0 := t.1 - 1) (r0 := (spp t).2) (kd := (B0 (Z + 11) r).toNatClampNeg) (v := up2 A 68 10 (Int32.ofNat (i + 1)) 73 (2 * (oa o + off))) (v' := B1 185 (oa o + off)) (w := B1 186 (oa o + off) ||| x153 (up2 A 68 10 (Int32.ofNat (i + 1))) 2 w0) hP hP2 hZ2 hL hT h hc (fun a b y => by rw [up2_o (by omega), up2_o (by omega)]) (by rw [up2_o (by omega), up2_s]) p6 ⟨by rw [up2_o (by omega)]; exact hpt.1, by rw [p6 _ _ (by omega)]; exact hpt.2.1, dp24, up2_s _ _ _ _, p5, by omega⟩ (by omega) (by omega) (fun j hj => spp_k hj) (spp_ok kt).2 j1 e12 hi3 hinc kfu ?_ ?_
      · rw [hC, ← j2]; unfold x136; rw [drp_n hpt (j := 1) (x := 1) (by omega) rfl, Option.bind_some]; simp only [Option.bind_fun_some]
      · have e153 : (if B1 82 6 &&& 2 = 0 then some (0 : Int32) else some w0) = some (x153 (up2 A 68 10 (Int32.ofNat (i + 1))) 2 w0) := by
          unfold x153
          rw [hg1.2.2.2.1]
          split <;> rfl
        rw [hR, e153, Option.bind_some, i32_s]
theorem op_39 (hP : Hid (P = 3 ∨ P = 18)) (hP2 : 3 ≤ P ∧ P ≤ 18) (hZ2 : 85 ≤ Z ∧ Z ≤ 126) (hL : Lkd P Z n k s E F G p A0 B0) (hT : ∀ m, m < k → TyM B0 Z m (F (m + 1) - F m) (F m) G (VV m)) (h : MC P Z n k s E F p A0 B0 VV oa os hk NO U EV dp m i c fr t l A B) (hc : c < 20000) (ho : opn B0 Z (F m + i) = 39) : StepOK P Z n k s E F p A0 B0 VV c A B := by
  have hkn := kno hP hZ2 hL hT h
  obtain ⟨hLk, kx, ko, kt, k16, klo, kfu, klp, kvis, ka, kb1, kF, kF2, kk, k27⟩ := hkn
  have h' := h
  obtain ⟨c1, c2, c3, ⟨r1, r2, r3, r4, r5, r6, r7, r8, r9, r10, r11, r12⟩, c5, c6, c7⟩ := h'
  obtain ⟨t', hef, hnx, hlb, htr⟩ := kvis
  have hpt : PT dp t.1 (up2 A 68 10 (Int32.ofNat (i + 1))) B := ⟨by rw [up2_o (by omega)]; exact c6.1, c6.2.1, c6.2.2.1, by rw [up2_o (by omega)]; exact c6.2.2.2.1, c6.2.2.2.2⟩
  have hA1 : ∀ a b, (a ≠ 68 ∨ (b ≠ 10 ∧ b ≠ 11)) → up2 A 68 10 (Int32.ofNat (i + 1)) a b = A a b := fun a b y => up2_o (by omega)
  have dp24 := c6.2.2.1
  have haft : aft B0 Z (F m + i) t l = l := by unfold aft; rw [if_neg (by omega)]
  obtain ⟨hi3, hinc⟩ := hnx (by omega)
  rw [haft] at hinc
  obtain ⟨o, o1, o2, o3, o4, o5, o6, o7, o8, o9⟩ := klp
  have eo : o = 39 := by rw [kb1, ho, i32_eq (by omega) (Nat.lt_trans o1 (by decide))] at o3; exact o3.symm
  subst eo
  obtain ⟨cl, d1, d2, d3⟩ := o8 (by decide)
  obtain ⟨cl', r, fn, f2, f3, f4, f5, -, -, -⟩ := o9 (by decide)
  obtain ⟨hrE, d, hd, hisa, h9⟩ := f5 (by decide)
  clear o4 o5 o6 o7 o8 o9
  have n19 := hL.1.2.2.2.1
  have hn7 := hL.1.2.2.1
  obtain rfl : cl' = cl := by rw [f2, i32_eq (by omega) (by omega)] at d3; exact d3
  obtain ⟨hEm, hE0, hE96⟩ := E_mo hLk.1
  have hown := (E_own hLk.1 hrE hd).mp h9
  have hd7 : 7 ≤ d := by
    have e7 := hL.1.2.2.2.2.2.2.1
    by_cases y : d + 1 ≤ 7
    · have := hEm (d + 1) 7 y (by omega); omega
    · omega
  have hisb : isb p cl' d = 1 := by unfold isb; exact if_pos hisa
  have hcl0 : cl' ≠ 0 := by
    intro z
    rw [z, isb_s hL.1.2.2.2.2.2.2.2.1 n19 (by omega), if_neg (by omega), if_pos rfl] at hisb
    exact absurd hisb (by decide)
  have einn : inn B0 Z (F m + i) = r := by unfold inn; rw [← k27, f4, i32_cl (by omega)]
  have e11 : B (Z + 11) r = B0 (Z + 11) r := c1.2 _ _ (by omega)
  have e12 : (B0 (Z + 11) r).toNatClampNeg = 1 ∨ (B0 (Z + 11) r).toNatClampNeg = 2 := by
    rcases (hL.1.2.2.2.2.2.2.2.2.2.2.2.1 r hrE).2 with y | y <;> rw [y]
    · exact Or.inl rfl
    · exact Or.inr rfl
  have hfk : ifk B0 Z (F m + i) = (B0 (Z + 11) r).toNatClampNeg := by unfold ifk; rw [if_pos (by omega), einn]
  have h5r : A (P + 4) (5 * r + 4) = Int32.ofNat (alf p E 19 (p d) + (r - E d)) := hLk.1.2.2.2.2.2.2.2.2.2.2.2.2.1 d hd7 hd r hown.1 hown.2
  have hi : inb (Int32.ofNat (F m + i)) 2400 := (i32_inb (by omega)).mpr (by omega)
  have hcl : (Int32.ofNat (F m + i)).toNatClampNeg = F m + i := i32_cl (by omega)
  have hef' : tkz [(B0 (Z + 11) r).toNatClampNeg, 2] t = some t' := by
    have : efB B0 Z m (F m + i) t l = tkz [ifk B0 Z (F m + i), 2] t := by unfold efB; rw [ho]; rfl
    rw [this, hfk] at hef; exact hef
  obtain ⟨z1, z2, z3, z4, z5⟩ := tkz_y hef' kt
  obtain ⟨ux, ur⟩ := t'
  have z1 : 2 ≤ t.1 := z1
  have z2 : ux = t.1 - 2 := z2
  subst z2
  have z3 : ∀ j, j < t.1 - 2 → kbt ur j = kbt t.2 j := z3
  obtain ⟨v0, w0, a0, b0, y0, m0⟩ := tp_l hpt c7 (d := 0) (by omega) (y := 0) rfl
  obtain ⟨v1, w1, a1, b1, y1, m1⟩ := tp_l hpt c7 (d := 1) (by omega) (y := 1) rfl
  have k0 : kbt t.2 (t.1 - 1 - 0) = (B0 (Z + 11) r).toNatClampNeg := (z5 0 (by show 0 < 2; decide)).resolve_left (by show ¬ (B0 (Z + 11) r).toNatClampNeg = 0; omega)
  have k1 : kbt t.2 (t.1 - 1 - 1) = 2 := (z5 1 (by show 1 < 2; decide)).resolve_left (by show ¬ 2 = 0; decide)
  rw [k0] at y0
  rw [k1] at y1
  rw [Nat.sub_zero] at y0 m0
  rw [show t.1 - 1 - 1 = t.1 - 2 by omega] at y1 m1
  obtain ⟨B1, B2, p1, p2, p3, p4, p5, p6⟩ := pop2 c6 (by omega)
  have hLk1 : Lkd P Z n k s E F G p (up2 A 68 10 (Int32.ofNat (i + 1))) B2 := hLk.of (fun a b y1 y2 _ => up2_o (by omega)) (fun a b y => p6 a b (by omega))
  have hg1 : GCo B0 Z n s p E oa os hk NO U EV (up2 A 68 10 (Int32.ofNat (i + 1))) B2 := c2.of (fun a b y => up2_o (by omega)) (fun a b y => p6 a b (by omega))
  have hC : x129 P (up2 A 68 10 (Int32.ofNat (i + 1))) (A (P + 10) (3 * (F m + i))) (A (P + 10) (3 * (F m + i) + 1)) (A (P + 10) (3 * (F m + i) + 2)) = (x148 P (up2 A 68 10 (Int32.ofNat (i + 1))) v1 (Int32.ofNat cl')).bind fun q1 => if q1 = 0 then (x146 (up2 A 68 10 (Int32.ofNat (i + 1))) v1 (Int32.ofNat (alf p E 19 (p d) + (r - E d))) v0 (w0 ||| (x153 (up2 A 68 10 (Int32.ofNat (i + 1))) 4 w1))).bind (fun q2 => x135 q2 2) else x138 (up2 A 68 10 (Int32.ofNat (i + 1))) q1 (w1 ||| w0) := by
    rw [ka, ho, x129_h (by omega) (by omega), if_neg (by decide), if_neg (by decide), if_pos (by decide)]; unfold x144; rw [if_neg (by decide), if_neg (by decide), if_pos (by decide), Option.bind_fun_some, f3, d2]
    simp (disch := omega) only [tP3 hP]
    rw [up2_o (by omega), h5r]
    unfold x154
    rw [a0, b0, a1, b1]
    simp only [Option.bind_fun_some]
  have hR : x238 Z B = x253 Z B (Int32.ofNat (F m + i)) 39 := by
    rw [x238_d kx r4 kb1 ko (by omega), ho]; unfold actR; rw [if_neg (by decide), if_neg (by decide), if_neg (by decide), if_neg (by decide), if_neg (by decide), if_neg (by decide), if_neg (by decide), if_neg (by decide), if_neg (by decide), if_neg (by decide), if_neg (by decide)]; unfold x251; rw [if_neg (by decide), if_neg (by decide), if_pos (by decide), Option.bind_fun_some]
    rfl
  have e33 : B2 (Z + 33) (F m + i) = Int32.ofNat cl' := by rw [p6 _ _ (by omega)]; exact f2
  have e27 : B2 (Z + 27) (F m + i) = Int32.ofNat r := by rw [p6 _ _ (by omega)]; exact f4
  unfold x253 at hR
  rw [if_pos rfl, p1, Option.bind_some, Option.bind_some, if_pos rfl, Option.bind_some] at hR
  dsimp only at hR
  rw [p2, Option.bind_some] at hR
  dsimp only at hR
  rw [p3, p4, m0, m1, Int32.or_comm w0 w1] at hR
  simp only [Option.bind_fun_some, if_pos hi, hcl, e33, e27, if_pos (show (39 : Int32) = 39 from rfl)] at hR
  rcases y1.r with ⟨y3, y4⟩ | ⟨o, hr, y3, y4⟩
  · rw [y3] at hC
    unfold x148 at hC
    rw [if_pos rfl, Option.bind_some, if_neg (by decide)] at hC
    rw [y4, if_pos rfl, if_pos rfl, Option.bind_some] at hR
    exact flt_l (cls := 2) (w := w1 ||| w0) (A1 := up2 A 68 10 (Int32.ofNat (i + 1))) (B1 := B2) hP hP2 hZ2 hL hT h hc (by decide) hA1 p6 hC hR
  · obtain ⟨-, cc, hv, hob⟩ := ob_cv hn7 hg1 hr
    obtain ⟨e1, e2⟩ := cls_l hg1 hr rfl
    obtain ⟨t1, t2, t3⟩ := obf_l hP hLk1.1 hv e2 d1 hcl0 e1
    have hn0 : ¬ Int32.ofNat (o + 1) = 0 := i32_n0 (by omega)
    rw [y3, t1, Option.bind_some] at hC
    rw [y4, if_neg hn0, t2, Option.bind_some] at hR
    by_cases q : isb p cc cl' = 0
    · rw [if_pos q, if_neg (by decide)] at hC
      rw [if_pos q, if_pos rfl, if_neg hn0, Option.bind_some] at hR
      exact flt_l (cls := 6) (w := w1 ||| w0) (A1 := up2 A 68 10 (Int32.ofNat (i + 1))) (B1 := B2) hP hP2 hZ2 hL hT h hc (by decide) hA1 p6 hC hR
    · obtain ⟨t4, t5⟩ := t3 q
      rw [if_neg q, if_pos rfl] at hC
      rw [if_neg q, if_neg (by decide), i32_p, x255_n hLk1.1 hrE hd hd7 (by rw [p6 _ _ (by omega)]; exact h9), Option.bind_some] at hR
      obtain ⟨s1, s2⟩ := fkd_l (B0 := B0) hLk1.1 hd hd7 hown cc hv.1 (isb_tr hL.1.2.2.2.2.2.2.2.1 n19 cc cl' d hv.1 d1 t4 hisb)
      obtain ⟨o1, o2, o3, o4, o5, o6, o7, o8⟩ := hg1.1.2.2.2.2.2.2.1 o hr
      have hos : os o = alf p E 19 cc ∧ ∀ q, q < os o → hk (oa o + q) = fkd B0 Z p E 19 cc q := by
        rcases hob with ⟨-, x1, x2⟩ | ⟨x1, x2⟩
        · exact ⟨x1, x2⟩
        · exfalso
          rw [x1, isb_s hL.1.2.2.2.2.2.2.2.1 n19 (by omega), if_neg (by omega), if_pos rfl] at q
          exact q rfl
      generalize hof : alf p E 19 (p d) + (r - E d) = off at hC hR s1 s2
      have hkk := hos.2 off (by omega)
      rw [s2] at hkk
      have hNU := hg1.1.2.2.2.2.2.1
      have hju : oa o + off < U := by omega
      rw [← hkk] at y0
      have hi2 : inb (Int32.ofNat o) 3001 := (i32_inb (by omega)).mpr (by omega)
      have hcl2 : (Int32.ofNat o).toNatClampNeg = o := i32_cl (by omega)
      have hi3' : inb (Int32.ofNat (oa o + off)) 3001 := (i32_inb (by omega)).mpr (by omega)
      have hcl3 : (Int32.ofNat (oa o + off)).toNatClampNeg = oa o + off := i32_cl (by omega)
      generalize hW : w0 ||| x153 (up2 A 68 10 (Int32.ofNat (i + 1))) 4 w1 = W at hC
      have e153 : (if B2 82 6 &&& 4 = 0 then (0 : Int32) else w1) = x153 (up2 A 68 10 (Int32.ofNat (i + 1))) 4 w1 := by
        unfold x153
        rw [hg1.2.2.2.1]
      have hRW : x238 Z B = some (up2 (up2 (up2 B2 185 (oa o + off) (B 198 (16 * dp + (t.1 - 1)))) 186 (oa o + off) W) 82 64 (Int32.ofNat (F m + i + 1))) := by
        rw [hR]
        simp only [if_pos hi2, hcl2, o3, i32_a, if_pos hi3', hcl3, Lt, i32_s, if_true]
        rw [← hW, ← e153]
        by_cases zz : B2 82 6 &&& 4 = 0
        · rw [if_pos zz, if_pos zz]
        · rw [if_neg zz, if_neg zz, Int32.or_comm w1 w0]
      generalize hA3 : up2 (up2 (up2 (up2 A 68 10 (Int32.ofNat (i + 1))) 73 (2 * (oa o + off)) v0) 73 (2 * (oa o + off) + 1) W) 68 11 (Int32.ofNat (t.1 - 2)) = A3
      generalize hB3 : up2 (up2 (up2 B2 185 (oa o + off) (B 198 (16 * dp + (t.1 - 1)))) 186 (oa o + off) W) 82 64 (Int32.ofNat (F m + i + 1)) = B3 at hRW
      have fA : ∀ a b, (a ≠ 68 ∨ (b ≠ 10 ∧ b ≠ 11)) → (a ≠ 73 ∨ (b ≠ 2 * (oa o + off) ∧ b ≠ 2 * (oa o + off) + 1)) → A3 a b = A a b := fun a b y1 y2 => by rw [← hA3, up2_o (by omega), up2_o (by omega), up2_o (by omega), up2_o (by omega)]
      have fB : ∀ a b, (a ≠ 82 ∨ (b ≠ 64 ∧ b ≠ 65 ∧ b ≠ 66)) → ((a ≠ 185 ∧ a ≠ 186) ∨ b ≠ oa o + off) → B3 a b = B a b := fun a b y1 y2 => by rw [← hB3, up2_o (by omega), up2_o (by omega), up2_o (by omega), p6 a b (by omega)]
      refine nx_gw (A1 := A3) (B1 := B3) (oa' := oa) (os' := os) (hk' := hk) (NO' := NO) (U' := U) (EV' := EV) (h0 := t.1 - 2) (r0 := ur) hP hP2 hZ2 hL hT h hc (Nat.le_refl _) (c1.of (fun a b _ _ => fA a b (by omega) (by omega)) (fun a b _ => fB a b (by omega) (by omega))) (c2.hp (j := oa o + off) (v := v0) (v' := B 198 (16 * dp + (t.1 - 1))) (w := W) hju y0 (fun a b y1 y2 => fA a b (by omega) y1) (fun a b y1 y2 => fB a b (by omega) (by omega)) ?_ ?_ ?_ ?_) (fun a b _ => fA a b (by omega) (by omega)) ?_ ?_ (fun a b _ => fB a b (by omega) (by omega)) ?_ ?_ (by omega) z3 hi3 hinc kfu ?_ hRW
      · rw [← hA3]; simp (disch := omega) only [up2_o, up2_s]
      · rw [← hA3]; simp (disch := omega) only [up2_o, up2_s]
      · rw [← hB3]; simp (disch := omega) only [up2_o, up2_s]
      · rw [← hB3]; simp (disch := omega) only [up2_o, up2_s]
      · rw [← hA3]; simp (disch := omega) only [up2_o, up2_s]
      · rw [← hA3, up2_s]
      · rw [← hB3, up2_s]
      · rw [← hB3]; simp (disch := omega) only [up2_o, up2_s]; exact p5
      · rw [hC]
        unfold x146 tset2
        simp (disch := omega) only [m70, o2, i32_a, m72]
        rw [Option.bind_some]
        unfold x135
        simp (disch := omega) only [up2_o]
        rw [c6.2.2.2.1, show (2 : Int32) = Int32.ofNat 2 from rfl, i32_sb (by omega), hA3]
end
