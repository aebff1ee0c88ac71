/-! sink, gets, puts -/
section
variable {P Z n k s : Nat} {E F G p oa os hk : Nat → Nat} {A0 B0 A B A' B' : St} {VV : Nat → Nat → Option VEn} {NO U EV dp m i c x o : Nat} {fr : Nat → FrT} {t : Nat × Nat} {l : Nat × Nat × Nat}
/-- an EVENT more -/
theorem GCo.ev {q : Int32} {K V W : Int32} (h : GCo B0 Z n s p E oa os hk NO U EV A B) (he : EV < 500) (hA : ∀ a b, (a ≠ 76 ∨ b ≠ 3) → (a ≠ 77 ∨ b < 4 * EV) → (a ≠ 68 ∨ b ≠ 18) → (a = 70 ∨ a = 71 ∨ a = 72 ∨ a = 73 ∨ a = 75 ∨ a = 77 ∨ a = 61 ∨ a = 63 ∨ a = 65) → A' a b = A a b) (hB : ∀ a b, (a ≠ 82 ∨ (b ≠ 38 ∧ b ≠ 39)) → (a < 189 ∨ 192 < a ∨ b < EV) → ((181 ≤ a ∧ a ≤ 192) ∨ a = 167 ∨ a = 168 ∨ (a = 82 ∧ (b = 6 ∨ b = 40 ∨ b = 41 ∨ b = 48))) → B' a b = B a b) (a1 : A' 76 3 = Int32.ofNat (EV + 1)) (b1 : B' 82 38 = Int32.ofNat (EV + 1)) (a2 : A' 68 18 = A 68 18 + q) (b2 : B' 82 39 = B 82 39 + q) (a3 : A' 77 (4 * EV) = K) (b3 : B' 189 EV = K) (a4 : A' 77 (4 * EV + 1) = V) (b4 : B' 190 EV = V) (a5 : A' 77 (4 * EV + 2) = W) (b5 : B' 191 EV = W) (a6 : A' 77 (4 * EV + 3) = q) (b6 : B' 192 EV = q) (hq : q = 0 ∨ q = 1) : GCo B0 Z n s p E oa os hk NO U (EV + 1) A' B' := by
  obtain ⟨⟨h1, h2, h3, h4, h5, h6, h7, h8⟩, g, ⟨e1, e2, e3, e4, e5⟩, f1, f2⟩ := h
  refine ⟨⟨?_, ?_, ?_, ?_, ?_, h6, fun i hi => (h7 i hi).of (Nat.le_refl _) (fun b _ _ => hA _ _ (by omega) (by omega) (by omega) (by omega)) (fun a _ _ => hB _ _ (by omega) (by omega) (by omega)), fun j hj => ?_⟩, fun j hj => ?_, ⟨a1, b1, by omega, ?_, fun e he => ?_⟩, ?_, fun j hj => ?_⟩
  · rw [hA _ _ (by omega) (by omega) (by omega) (by omega)]; exact h1
  · rw [hB _ _ (by omega) (by omega) (by omega)]; exact h2
  · rw [hA _ _ (by omega) (by omega) (by omega) (by omega)]; exact h3
  · rw [hB _ _ (by omega) (by omega) (by omega)]; exact h4
  · rw [hB _ _ (by omega) (by omega) (by omega)]; exact h5
  · rw [hA _ _ (by omega) (by omega) (by omega) (by omega), hA _ _ (by omega) (by omega) (by omega) (by omega), hB _ _ (by omega) (by omega) (by omega), hB _ _ (by omega) (by omega) (by omega)]; exact h8 j hj
  · rw [hA _ _ (by omega) (by omega) (by omega) (by omega), hA _ _ (by omega) (by omega) (by omega) (by omega), hB 187 _ (by omega) (by omega) (by omega), hB 188 _ (by omega) (by omega) (by omega)]; exact g j hj
  · rw [a2, b2, e4]
  · by_cases y : e = EV
    · rw [y, a3, a4, a5, a6, b3, b4, b5, b6]; exact ⟨rfl, rfl, rfl, rfl, hq⟩
    · rw [hA _ _ (by omega) (by omega) (by omega) (by omega), hA _ _ (by omega) (by omega) (by omega) (by omega), hA _ _ (by omega) (by omega) (by omega) (by omega), hA _ _ (by omega) (by omega) (by omega) (by omega), hB 189 _ (by omega) (by omega) (by omega), hB 190 _ (by omega) (by omega) (by omega), hB 191 _ (by omega) (by omega) (by omega), hB 192 _ (by omega) (by omega) (by omega)]; exact e5 e (by omega)
  · rw [hA _ _ (by omega) (by omega) (by omega) (by omega), hB _ _ (by omega) (by omega) (by omega)]; exact f1
  · rw [hA _ _ (by omega) (by omega) (by omega) (by omega), hA _ _ (by omega) (by omega) (by omega) (by omega), hB _ _ (by omega) (by omega) (by omega), hB _ _ (by omega) (by omega) (by omega)]; exact f2 j hj
/-- a static written -/
theorem GCo.st {r : Nat} {v v' w : Int32} (h : GCo B0 Z n s p E oa os hk NO U EV A B) (hr : r < s) (hv : VR NO (B0 (Z + 14) r).toNatClampNeg v v') (hA : ∀ a b, (a ≠ 75 ∨ (b ≠ 2 * r ∧ b ≠ 2 * r + 1)) → ((a = 70 ∧ b = 3) ∨ a = 71 ∨ (a = 72 ∧ b = 3) ∨ a = 73 ∨ a = 75 ∨ (a = 76 ∧ b = 3) ∨ a = 77 ∨ (a = 68 ∧ b = 18) ∨ (a = 61 ∧ b = 0) ∨ a = 63 ∨ a = 65) → A' a b = A a b) (hB : ∀ a b, ((a ≠ 187 ∧ a ≠ 188) ∨ b ≠ r) → ((181 ≤ a ∧ a ≤ 192) ∨ a = 167 ∨ a = 168 ∨ (a = 82 ∧ (b = 6 ∨ b = 38 ∨ b = 39 ∨ b = 40 ∨ b = 41 ∨ b = 48))) → B' a b = B a b) (a1 : A' 75 (2 * r) = v) (a2 : A' 75 (2 * r + 1) = w) (b1 : B' 187 r = v') (b2 : B' 188 r = w) : GCo B0 Z n s p E oa os hk NO U EV A' B' := by
  obtain ⟨⟨h1, h2, h3, h4, h5, h6, h7, h8⟩, g, ⟨e1, e2, e3, e4, e5⟩, f1, f2⟩ := h
  refine ⟨⟨?_, ?_, ?_, ?_, ?_, h6, fun i hi => (h7 i hi).of (Nat.le_refl _) (fun b _ _ => hA _ _ (by omega) (by omega)) (fun a _ _ => hB _ _ (by omega) (by omega)), fun j hj => ?_⟩, fun j hj => ?_, ⟨?_, ?_, e3, ?_, fun e he => ?_⟩, ?_, fun j hj => ?_⟩
  · rw [hA _ _ (by omega) (by omega)]; exact h1
  · rw [hB _ _ (by omega) (by omega)]; exact h2
  · rw [hA _ _ (by omega) (by omega)]; exact h3
  · rw [hB _ _ (by omega) (by omega)]; exact h4
  · rw [hB _ _ (by omega) (by omega)]; exact h5
  · rw [hA _ _ (by omega) (by omega), hA _ _ (by omega) (by omega), hB _ _ (by omega) (by omega), hB _ _ (by omega) (by omega)]; exact h8 j hj
  · by_cases y : j = r
    · rw [y, a1, a2, b1, b2]; exact ⟨hv, rfl⟩
    · rw [hA _ _ (by omega) (by omega), hA _ _ (by omega) (by omega), hB 187 _ (by omega) (by omega), hB 188 _ (by omega) (by omega)]; exact g j hj
  · rw [hA _ _ (by omega) (by omega)]; exact e1
  · rw [hB _ _ (by omega) (by omega)]; exact e2
  · rw [hA _ _ (by omega) (by omega), hB _ _ (by omega) (by omega)]; exact e4
  · rw [hA _ _ (by omega) (by omega), hA _ _ (by omega) (by omega), hA _ _ (by omega) (by omega), hA _ _ (by omega) (by omega), hB _ _ (by omega) (by omega), hB _ _ (by omega) (by omega), hB _ _ (by omega) (by omega), hB _ _ (by omega) (by omega)]; exact e5 e he
  · rw [hA _ _ (by omega) (by omega), hB _ _ (by omega) (by omega)]; exact f1
  · rw [hA _ _ (by omega) (by omega), hA _ _ (by omega) (by omega), hB _ _ (by omega) (by omega), hB _ _ (by omega) (by omega)]; exact f2 j hj
theorem op_56 (hP : Hid (P = 3 ∨ P = 18)) (hP2 : 3 ≤ P ∧ P ≤ 18) (hZ2 : 85 ≤ Z ∧ Z ≤ 126) (hL : Lkd P Z n k s E F G p A0 B0) (hT : ∀ m, m < k → TyM B0 Z m (F (m + 1) - F m) (F m) G (VV m)) (h : MC P Z n k s E F p A0 B0 VV oa os hk NO U EV dp m i c fr t l A B) (hc : c < 20000) (ho : opn B0 Z (F m + i) = 56) : StepOK P Z n k s E F p A0 B0 VV c A B := by
  have hkn := kno hP hZ2 hL hT h
  obtain ⟨hLk, kx, ko, kt, k16, klo, kfu, klp, kvis, ka, kb1, kF, kF2, kk, k27⟩ := hkn
  have h' := h
  obtain ⟨c1, c2, c3, ⟨r1, r2, r3, r4, r5, r6, r7, r8, r9, r10, r11, r12⟩, c5, c6, c7⟩ := h'
  obtain ⟨t', hef, hnx, hlb, htr⟩ := kvis
  have hpt : PT dp t.1 (up2 A 68 10 (Int32.ofNat (i + 1))) B := ⟨by rw [up2_o (by omega)]; exact c6.1, c6.2.1, c6.2.2.1, by rw [up2_o (by omega)]; exact c6.2.2.2.1, c6.2.2.2.2⟩
  have hA1 : ∀ a b, (a ≠ 68 ∨ (b ≠ 10 ∧ b ≠ 11)) → up2 A 68 10 (Int32.ofNat (i + 1)) a b = A a b := fun a b y => up2_o (by omega)
  have dp24 := c6.2.2.1
  have haft : aft B0 Z (F m + i) t l = l := by unfold aft; rw [if_neg (by omega)]
  obtain ⟨hi3, hinc⟩ := hnx (by omega)
  rw [haft] at hinc
  have hef' : (tkz [1] t).bind (pso 0) = some t' := by
    have : efB B0 Z m (F m + i) t l = (tkz [1] t).bind (pso 0) := by unfold efB; rw [ho]; rfl
    rw [this] at hef; exact hef
  obtain ⟨u, g1, g2⟩ := Option.bind_eq_some_iff.mp hef'
  obtain ⟨z1, z2, z3, z4, z5⟩ := tkz_y g1 kt
  have ut : u = t' := Option.some.inj g2
  subst ut
  obtain ⟨ux, ur⟩ := u
  have z1 : 1 ≤ t.1 := z1
  have z2 : ux = t.1 - 1 := z2
  subst z2
  have z3 : ∀ j, j < t.1 - 1 → kbt ur j = kbt t.2 j := z3
  obtain ⟨v0, w0, a0, b0, y0, m0⟩ := tp_l hpt c7 (d := 0) (by omega) (y := 0) rfl
  have k0 : kbt t.2 (t.1 - 1 - 0) = 1 := (z5 0 (by decide)).resolve_left (by decide)
  rw [k0] at y0
  rw [Nat.sub_zero] at y0 m0
  obtain ⟨B1, p1, p3, p5, p6⟩ := pop1 c6 (by omega)
  have hLk1 : Lkd P Z n k s E F G p (up2 A 68 10 (Int32.ofNat (i + 1))) B1 := hLk.of (fun a b y1 y2 _ => up2_o (by omega)) (fun a b y => p6 a b (by omega))
  have hg1 : GCo B0 Z n s p E oa os hk NO U EV (up2 A 68 10 (Int32.ofNat (i + 1))) B1 := c2.of (fun a b y => up2_o (by omega)) (fun a b y => p6 a b (by omega))
  have hn7 := hL.1.2.2.1
  obtain ⟨o, o1, o2, o3, o4, o5, o6, o7, o8, o9⟩ := klp
  have eo : o = 56 := by rw [kb1, ho, i32_eq (by omega) (Nat.lt_trans o1 (by decide))] at o3; exact o3.symm
  subst eo
  obtain ⟨d, d1, d3⟩ := o5 (by decide)
  have d2 : A (P + 10) (3 * (F m + i) + 1) = Int32.ofNat d := (o4 (by decide)).trans d3
  clear o4 o5 o6 o7 o8 o9
  have y0 := y0.i
  obtain ⟨ev1, ev2, ev3, ev4, ev5⟩ := c2.2.2.1
  have hC : x129 P (up2 A 68 10 (Int32.ofNat (i + 1))) (A (P + 10) (3 * (F m + i))) (A (P + 10) (3 * (F m + i) + 1)) (A (P + 10) (3 * (F m + i) + 2)) = (x169 (up2 A 68 10 (Int32.ofNat (i + 1))) (Int32.ofNat d) v0 w0).bind fun q7 => (x135 q7 1).bind fun q8 => some q8 := by
    rw [ka, ho, x129_h (by omega) (by omega), if_neg (by decide), if_neg (by decide), if_neg (by decide), if_neg (by decide), if_neg (by decide)]; unfold x168; rw [if_neg (by decide), if_neg (by decide), if_neg (by decide), if_pos (by decide), d2, a0, b0]
  have hR : x238 Z B = (x241 B (Int32.ofNat d)).bind fun q => some (up2 q 82 64 (Int32.ofNat (F m + i + 1))) := by
    rw [x238_d kx r4 kb1 ko (by omega), ho]; unfold actR; rw [if_neg (by decide), if_neg (by decide), if_neg (by decide), if_neg (by decide), if_neg (by decide), if_neg (by decide), if_neg (by decide), if_neg (by decide), if_pos rfl, d3]
  by_cases he : EV < 500
  · obtain ⟨ta, tb⟩ := tadd_n (I := up2 A 68 10 (Int32.ofNat (i + 1))) (k := 76) (n := EV) (by rw [up2_o (by omega)]; exact ev1) (by show EV < 500; omega) (by decide)
    have hq : ∃ q, (if B 167 d &&& w0 = 0 then some (0 : Int32) else some 1) = some q ∧ vp_nar .boolean q = q ∧ (q = 0 ∨ q = 1) := by
      split
      · exact ⟨0, rfl, by decide, Or.inl rfl⟩
      · exact ⟨1, rfl, by decide, Or.inr rfl⟩
    obtain ⟨q, q1, q2, q3⟩ := hq
    have hse := (c2.2.2.2.2 d d1).1
    have hi : inb (Int32.ofNat EV) 500 := (i32_inb (by omega)).mpr (by omega)
    have hcl : (Int32.ofNat EV).toNatClampNeg = EV := i32_cl (by omega)
    have hid : inb (Int32.ofNat d) 16 := (i32_inb (by omega)).mpr (by omega)
    have hcd : (Int32.ofNat d).toNatClampNeg = d := i32_cl (by omega)
    generalize hA3 : up2 (up2 (up2 (up2 (up2 (up2 (up2 (up2 A 68 10 (Int32.ofNat (i + 1))) 76 3 (Int32.ofNat (EV + 1))) 77 (4 * EV) (Int32.ofNat d)) 77 (4 * EV + 1) v0) 77 (4 * EV + 2) w0) 77 (4 * EV + 3) q) 68 18 (A 68 18 + q)) 68 11 (Int32.ofNat (t.1 - 1)) = A3
    generalize hB3 : up2 (up2 (up2 (up2 (up2 (up2 (up2 B1 189 EV (Int32.ofNat d)) 190 EV v0) 191 EV w0) 192 EV q) 82 39 (B 82 39 + q)) 82 38 (Int32.ofNat (EV + 1))) 82 64 (Int32.ofNat (F m + i + 1)) = B3
    have fA : ∀ a b, (a ≠ 68 ∨ (b ≠ 10 ∧ b ≠ 11 ∧ b ≠ 18)) → (a ≠ 76 ∨ b ≠ 3) → (a ≠ 77 ∨ b < 4 * EV) → A3 a b = A a b := fun a b y1 y2 y3 => by rw [← hA3, up2_o (by omega), up2_o (by omega), up2_o (by omega), up2_o (by omega), up2_o (by omega), up2_o (by omega), up2_o (by omega), up2_o (by omega)]
    have fB : ∀ a b, (a ≠ 82 ∨ (b ≠ 38 ∧ b ≠ 39 ∧ b ≠ 64 ∧ b ≠ 65 ∧ b ≠ 66)) → (a < 189 ∨ 192 < a ∨ b ≠ EV) → B3 a b = B a b := fun a b y1 y2 => by rw [← hB3, up2_o (by omega), up2_o (by omega), up2_o (by omega), up2_o (by omega), up2_o (by omega), up2_o (by omega), up2_o (by omega), p6 a b (by omega)]
    refine nx_gw (A1 := A3) (B1 := B3) (oa' := oa) (os' := os) (hk' := hk) (NO' := NO) (U' := U) (EV' := EV + 1) (h0 := t.1 - 1) (r0 := ur) hP hP2 hZ2 hL hT h hc (Nat.le_refl _) (c1.of (fun a b _ _ => fA a b (by omega) (by omega) (by omega)) (fun a b _ => fB a b (by omega) (by omega))) (c2.ev (q := q) (K := Int32.ofNat d) (V := v0) (W := w0) he (fun a b y1 y2 y3 y4 => fA a b (by omega) y1 y2) (fun a b y1 y2 y3 => fB a b (by omega) (by omega)) ?_ ?_ ?_ ?_ ?_ ?_ ?_ ?_ ?_ ?_ ?_ ?_ q3) (fun a b _ => fA a b (by omega) (by omega) (by omega)) ?_ ?_ (fun a b _ => fB a b (by omega) (by omega)) ?_ ?_ (by omega) z3 hi3 hinc kfu ?_ ?_
    · rw [← hA3]; simp (disch := omega) only [up2_o, up2_s]
    · rw [← hB3]; simp (disch := omega) only [up2_o, up2_s]
    · rw [← hA3]; simp (disch := omega) only [up2_o, up2_s]
    · rw [← hB3]; simp (disch := omega) only [up2_o, up2_s]
    · rw [← hA3]; simp (disch := omega) only [up2_o, up2_s]
    · rw [← hB3]; simp (disch := omega) only [up2_o, up2_s]
    · rw [← hA3]; simp (disch := omega) only [up2_o, up2_s]
    · rw [← hB3]; simp (disch := omega) only [up2_o, up2_s]
    · rw [← hA3]; simp (disch := omega) only [up2_o, up2_s]
    · rw [← hB3]; simp (disch := omega) only [up2_o, up2_s]
    · rw [← hA3]; simp (disch := omega) only [up2_o, up2_s]
    · rw [← hB3]; simp (disch := omega) only [up2_o, up2_s]
    · rw [← hA3]; simp (disch := omega) only [up2_o, up2_s]
    · rw [← hA3, up2_s]
    · rw [← hB3, up2_s]
    · rw [← hB3]; simp (disch := omega) only [up2_o, up2_s]; exact p5
    · rw [hC]
      unfold x169
      rw [ta, tb, if_neg (i32_m1 (by omega)), m62.1 _ _ d1, up2_o (by omega), up2_o (by omega), hse, q1, Option.bind_some]
      unfold Lt
      simp (disch := omega) only [m76, up2_o]
      rw [Option.bind_some, Option.bind_fun_some]
      unfold x135
      simp (disch := omega) only [up2_o]
      rw [c6.2.2.2.1, show (1 : Int32) = Int32.ofNat 1 from rfl, i32_sb (by omega), hA3]
    · rw [hR]
      unfold x241
      have h500 : ¬ B 82 38 = 500 := by rw [ev2, i32_e (x := 500) (b := 500) rfl (by omega) (by decide)]; omega
      have e38 : B1 82 38 = Int32.ofNat EV := by rw [p6 _ _ (by omega)]; exact ev2
      have e39 : B1 82 39 = B 82 39 := p6 _ _ (by omega)
      have e167 : B1 167 d = B 167 d := p6 _ _ (by omega)
      rw [if_neg h500, p1, Option.bind_some]
      dsimp only
      simp (disch := omega) only [e38, if_pos hi, hcl, Lt, up2_o, if_pos hid, hcd, e167, p3, m0, q1, Option.bind_some, q2, up2_s, e39, i32_s]
      rw [← y0]
      rcases q3 with y | y
      · rw [if_pos y, Option.bind_some]
        rw [y] at hB3 ⊢
        rw [hB3]
      · rw [if_neg (by rw [y]; decide), Option.bind_some]
        rw [y] at hB3 ⊢
        rw [hB3]
  · obtain rfl : EV = 500 := by omega
    refine lim_l (A1 := up2 (up2 (up2 A 68 10 (Int32.ofNat (i + 1))) 68 14 7) 68 11 (Int32.ofNat (t.1 - 1))) (B1 := up2 (up2 B 82 34 7) 82 64 (Int32.ofNat (F m + i + 1))) (e := 7) hP hP2 hZ2 hL hT h hc (by omega) (c1.of (fun a b _ _ => by rw [up2_o (by omega), up2_o (by omega), up2_o (by omega)]) (fun a b _ => by rw [up2_o (by omega), up2_o (by omega)])) (c2.of (fun a b _ => by rw [up2_o (by omega), up2_o (by omega), up2_o (by omega)]) (fun a b _ => by rw [up2_o (by omega), up2_o (by omega)])) (by rw [up2_o (by omega), up2_s]; rfl) (by rw [up2_o (by omega), up2_o (by omega), up2_o (by omega)]) (by rw [up2_o (by omega), up2_o (by omega), up2_o (by omega)]) (by rw [up2_o (by omega), up2_s]; rfl) (by rw [up2_o (by omega), up2_o (by omega)]) ?_ ?_
    · have e76 : (up2 A 68 10 (Int32.ofNat (i + 1))) 76 3 = Int32.ofNat 500 := by rw [up2_o (by omega)]; exact ev1
      have n5 : ¬ Int32.ofNat 500 < Int32.ofNat (sf 76 0) := by decide
      have ta : tadr (up2 A 68 10 (Int32.ofNat (i + 1))) 76 = -1 := by unfold tadr; rw [e76, if_neg n5]
      have tb : tadd (up2 A 68 10 (Int32.ofNat (i + 1))) 76 = up2 A 68 10 (Int32.ofNat (i + 1)) := by unfold tadd; rw [e76, if_neg n5]
      rw [hC]
      unfold x169
      rw [ta, tb, if_pos rfl, Option.bind_some, Option.bind_fun_some]
      unfold x135
      simp (disch := omega) only [up2_o]
      rw [c6.2.2.2.1, show (1 : Int32) = Int32.ofNat 1 from rfl, i32_sb (by omega)]
    · rw [hR]
      unfold x241
      rw [if_pos (show B 82 38 = 500 from ev2), Option.bind_some]
theorem op_40 (hP : Hid (P = 3 ∨ P = 18)) (hP2 : 3 ≤ P ∧ P ≤ 18) (hZ2 : 85 ≤ Z ∧ Z ≤ 126) (hL : Lkd P Z n k s E F G p A0 B0) (hT : ∀ m, m < k → TyM B0 Z m (F (m + 1) - F m) (F m) G (VV m)) (h : MC P Z n k s E F p A0 B0 VV oa os hk NO U EV dp m i c fr t l A B) (hc : c < 20000) (ho : opn B0 Z (F m + i) = 40) : StepOK P Z n k s E F p A0 B0 VV c A B := by
  have hkn := kno hP hZ2 hL hT h
  obtain ⟨hLk, kx, ko, kt, k16, klo, kfu, klp, kvis, ka, kb1, kF, kF2, kk, k27⟩ := hkn
  have h' := h
  obtain ⟨c1, c2, c3, ⟨r1, r2, r3, r4, r5, r6, r7, r8, r9, r10, r11, r12⟩, c5, c6, c7⟩ := h'
  obtain ⟨t', hef, hnx, hlb, htr⟩ := kvis
  have hpt : PT dp t.1 (up2 A 68 10 (Int32.ofNat (i + 1))) B := ⟨by rw [up2_o (by omega)]; exact c6.1, c6.2.1, c6.2.2.1, by rw [up2_o (by omega)]; exact c6.2.2.2.1, c6.2.2.2.2⟩
  have hA1 : ∀ a b, (a ≠ 68 ∨ (b ≠ 10 ∧ b ≠ 11)) → up2 A 68 10 (Int32.ofNat (i + 1)) a b = A a b := fun a b y => up2_o (by omega)
  have dp24 := c6.2.2.1
  have haft : aft B0 Z (F m + i) t l = l := by unfold aft; rw [if_neg (by omega)]
  obtain ⟨hi3, hinc⟩ := hnx (by omega)
  rw [haft] at hinc
  obtain ⟨o, o1, o2, o3, o4, o5, o6, o7, o8, o9⟩ := klp
  have eo : o = 40 := by rw [kb1, ho, i32_eq (by omega) (Nat.lt_trans o1 (by decide))] at o3; exact o3.symm
  subst eo
  obtain ⟨cc, r, d1, d2, d3, d4, -, d5, -⟩ := o9 (by decide)
  have hrs := d5 (Or.inl rfl)
  clear o4 o5 o6 o7 o8 o9
  have s16 := hL.1.2.2.2.2.2.1
  have einn : inn B0 Z (F m + i) = r := by unfold inn; rw [← k27, d4, i32_cl (by omega)]
  have e12 : (B0 (Z + 14) r).toNatClampNeg = 1 ∨ (B0 (Z + 14) r).toNatClampNeg = 2 := by
    rcases (hL.1.2.2.2.2.2.2.2.2.2.2.2.2.2.2.2 r hrs).2 with y | y <;> rw [y]
    · exact Or.inl rfl
    · exact Or.inr rfl
  have hef' : psg (B0 (Z + 14) r).toNatClampNeg t = some t' := by
    have : efB B0 Z m (F m + i) t l = psg (ifk B0 Z (F m + i)) t := by unfold efB; rw [ho]; rfl
    rw [this] at hef
    have : ifk B0 Z (F m + i) = (B0 (Z + 14) r).toNatClampNeg := by unfold ifk; rw [if_neg (by omega), if_pos (by omega), einn]
    rw [this] at hef; exact hef
  obtain ⟨q1, rfl⟩ := psg_y hef'
  obtain ⟨g1, g2⟩ := c2.2.1 r hrs
  have hi : inb (Int32.ofNat (F m + i)) 2400 := (i32_inb (by omega)).mpr (by omega)
  have hcl : (Int32.ofNat (F m + i)).toNatClampNeg = F m + i := i32_cl (by omega)
  have hi2 : inb (Int32.ofNat r) 16 := (i32_inb (by omega)).mpr (by omega)
  have hcl2 : (Int32.ofNat r).toNatClampNeg = r := i32_cl (by omega)
  refine nx_push (A1 := up2 A 68 10 (Int32.ofNat (i + 1))) (B1 := B) (h0 := t.1) (r0 := t.2) (kd := (B0 (Z + 14) r).toNatClampNeg) (v := A 75 (2 * r)) (v' := B 187 r) (w := A 75 (2 * r + 1)) hP hP2 hZ2 hL hT h hc hA1 (up2_s _ _ _ _) (fun _ _ _ => rfl) hpt q1 (Nat.le_refl _) (fun _ _ => rfl) kt.2 g1 e12 hi3 hinc kfu ?_ ?_
  · rw [ka, ho, x129_h (by omega) (by omega), if_neg (by decide), if_neg (by decide), if_pos (by decide)]; unfold x144; rw [if_neg (by decide), if_neg (by decide), if_neg (by decide), if_pos (by decide), Option.bind_fun_some, d3]
    simp (disch := omega) only [m74, up2_o]
  · rw [x238_d kx r4 kb1 ko (by omega), ho]; unfold actR; rw [if_neg (by decide), if_neg (by decide), if_neg (by decide), if_neg (by decide), if_neg (by decide), if_neg (by decide), if_neg (by decide), if_neg (by decide), if_neg (by decide), if_neg (by decide), if_neg (by decide)]; unfold x251; rw [if_neg (by decide), if_neg (by decide), if_neg (by decide), if_pos (by decide)]
    simp only [if_pos hi, hcl, d4, if_pos hi2, hcl2]
    rw [g2, i32_s]
theorem op_41 (hP : Hid (P = 3 ∨ P = 18)) (hP2 : 3 ≤ P ∧ P ≤ 18) (hZ2 : 85 ≤ Z ∧ Z ≤ 126) (hL : Lkd P Z n k s E F G p A0 B0) (hT : ∀ m, m < k → TyM B0 Z m (F (m + 1) - F m) (F m) G (VV m)) (h : MC P Z n k s E F p A0 B0 VV oa os hk NO U EV dp m i c fr t l A B) (hc : c < 20000) (ho : opn B0 Z (F m + i) = 41) : StepOK P Z n k s E F p A0 B0 VV c A B := by
  have hkn := kno hP hZ2 hL hT h
  obtain ⟨hLk, kx, ko, kt, k16, klo, kfu, klp, kvis, ka, kb1, kF, kF2, kk, k27⟩ := hkn
  have h' := h
  obtain ⟨c1, c2, c3, ⟨r1, r2, r3, r4, r5, r6, r7, r8, r9, r10, r11, r12⟩, c5, c6, c7⟩ := h'
  obtain ⟨t', hef, hnx, hlb, htr⟩ := kvis
  have hpt : PT dp t.1 (up2 A 68 10 (Int32.ofNat (i + 1))) B := ⟨by rw [up2_o (by omega)]; exact c6.1, c6.2.1, c6.2.2.1, by rw [up2_o (by omega)]; exact c6.2.2.2.1, c6.2.2.2.2⟩
  have hA1 : ∀ a b, (a ≠ 68 ∨ (b ≠ 10 ∧ b ≠ 11)) → up2 A 68 10 (Int32.ofNat (i + 1)) a b = A a b := fun a b y => up2_o (by omega)
  have dp24 := c6.2.2.1
  have haft : aft B0 Z (F m + i) t l = l := by unfold aft; rw [if_neg (by omega)]
  obtain ⟨hi3, hinc⟩ := hnx (by omega)
  rw [haft] at hinc
  obtain ⟨o, o1, o2, o3, o4, o5, o6, o7, o8, o9⟩ := klp
  have eo : o = 41 := by rw [kb1, ho, i32_eq (by omega) (Nat.lt_trans o1 (by decide))] at o3; exact o3.symm
  subst eo
  obtain ⟨cc, r, d1, d2, d3, d4, -, d5, -⟩ := o9 (by decide)
  have hrs := d5 (Or.inr rfl)
  clear o4 o5 o6 o7 o8 o9
  have s16 := hL.1.2.2.2.2.2.1
  have einn : inn B0 Z (F m + i) = r := by unfold inn; rw [← k27, d4, i32_cl (by omega)]
  have e12 : (B0 (Z + 14) r).toNatClampNeg = 1 ∨ (B0 (Z + 14) r).toNatClampNeg = 2 := by
    rcases (hL.1.2.2.2.2.2.2.2.2.2.2.2.2.2.2.2 r hrs).2 with y | y <;> rw [y]
    · exact Or.inl rfl
    · exact Or.inr rfl
  have hef' : tkk (B0 (Z + 14) r).toNatClampNeg t = some t' := by
    have : efB B0 Z m (F m + i) t l = tkk (ifk B0 Z (F m + i)) t := by unfold efB; rw [ho]; rfl
    rw [this] at hef
    have : ifk B0 Z (F m + i) = (B0 (Z + 14) r).toNatClampNeg := by unfold ifk; rw [if_neg (by omega), if_pos (by omega), einn]
    rw [this] at hef; exact hef
  obtain ⟨q1, q2, rfl⟩ := tkk_y hef'
  have q2 := q2.resolve_left (by omega)
  rw [skd_kb] at q2
  obtain ⟨v0, w0, a0, b0, y0, m0⟩ := tp_l hpt c7 (d := 0) (by omega) (y := 0) rfl
  rw [Nat.sub_zero] at y0 m0
  rw [q2] at y0
  obtain ⟨B1, p1, p3, p5, p6⟩ := pop1 c6 (by omega)
  have hi : inb (Int32.ofNat (F m + i)) 2400 := (i32_inb (by omega)).mpr (by omega)
  have hcl : (Int32.ofNat (F m + i)).toNatClampNeg = F m + i := i32_cl (by omega)
  have hi2 : inb (Int32.ofNat r) 16 := (i32_inb (by omega)).mpr (by omega)
  have hcl2 : (Int32.ofNat r).toNatClampNeg = r := i32_cl (by omega)
  generalize hA3 : up2 (up2 (up2 (up2 A 68 10 (Int32.ofNat (i + 1))) 75 (2 * r) v0) 75 (2 * r + 1) w0) 68 11 (Int32.ofNat (t.1 - 1)) = A3
  generalize hB3 : up2 (up2 (up2 B1 187 r (B 198 (16 * dp + (t.1 - 1)))) 188 r w0) 82 64 (Int32.ofNat (F m + i + 1)) = B3
  have fA : ∀ a b, (a ≠ 68 ∨ (b ≠ 10 ∧ b ≠ 11)) → (a ≠ 75 ∨ (b ≠ 2 * r ∧ b ≠ 2 * r + 1)) → A3 a b = A a b := fun a b y1 y2 => by rw [← hA3, up2_o (by omega), up2_o (by omega), up2_o (by omega), up2_o (by omega)]
  have fB : ∀ a b, (a ≠ 82 ∨ (b ≠ 64 ∧ b ≠ 65 ∧ b ≠ 66)) → ((a ≠ 187 ∧ a ≠ 188) ∨ b ≠ r) → B3 a b = B a b := fun a b y1 y2 => by rw [← hB3, up2_o (by omega), up2_o (by omega), up2_o (by omega), p6 a b (by omega)]
  refine nx_gw (A1 := A3) (B1 := B3) (oa' := oa) (os' := os) (hk' := hk) (NO' := NO) (U' := U) (EV' := EV) (h0 := t.1 - 1) (r0 := (spp t).2) hP hP2 hZ2 hL hT h hc (Nat.le_refl _) (c1.of (fun a b _ _ => fA a b (by omega) (by omega)) (fun a b _ => fB a b (by omega) (by omega))) (c2.st (r := r) (v := v0) (v' := B 198 (16 * dp + (t.1 - 1))) (w := w0) hrs y0 (fun a b y1 y2 => fA a b (by omega) y1) (fun a b y1 y2 => fB a b (by omega) (by omega)) ?_ ?_ ?_ ?_) (fun a b _ => fA a b (by omega) (by omega)) ?_ ?_ (fun a b _ => fB a b (by omega) (by omega)) ?_ ?_ (by omega) (fun j hj => spp_k hj) hi3 hinc kfu ?_ ?_
  · rw [← hA3]; simp (disch := omega) only [up2_o, up2_s]
  · rw [← hA3]; simp (disch := omega) only [up2_o, up2_s]
  · rw [← hB3]; simp (disch := omega) only [up2_o, up2_s]
  · rw [← hB3]; simp (disch := omega) only [up2_o, up2_s]
  · rw [← hA3]; simp (disch := omega) only [up2_o, up2_s]
  · rw [← hA3, up2_s]
  · rw [← hB3, up2_s]
  · rw [← hB3]; simp (disch := omega) only [up2_o, up2_s]; exact p5
  · rw [ka, ho, x129_h (by omega) (by omega), if_neg (by decide), if_neg (by decide), if_pos (by decide)]; unfold x144; rw [if_neg (by decide), if_neg (by decide), if_neg (by decide), if_neg (by decide), Option.bind_fun_some, d3, a0, b0]
    unfold tset2
    simp (disch := omega) only [m74]
    unfold x135
    simp (disch := omega) only [up2_o]
    rw [c6.2.2.2.1, show (1 : Int32) = Int32.ofNat 1 from rfl, i32_sb (by omega), hA3]
  · rw [x238_d kx r4 kb1 ko (by omega), ho]; unfold actR; rw [if_neg (by decide), if_neg (by decide), if_neg (by decide), if_neg (by decide), if_neg (by decide), if_neg (by decide), if_neg (by decide), if_neg (by decide), if_neg (by decide), if_neg (by decide), if_neg (by decide)]; unfold x251; rw [if_neg (by decide), if_neg (by decide), if_neg (by decide), if_neg (by decide), if_pos (by decide), p1, Option.bind_some]
    dsimp only
    have e27 : B1 (Z + 27) (F m + i) = Int32.ofNat r := by rw [p6 _ _ (by omega)]; exact d4
    simp (disch := omega) only [if_pos hi, hcl, e27, if_pos hi2, hcl2, Lt, up2_o, p3, m0, i32_s, hB3]
end
