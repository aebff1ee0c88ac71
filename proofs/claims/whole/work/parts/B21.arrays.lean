/-! arrays -/
theorem i32_ge0 {v : Int32} (h : 0 ≤ v) : ∃ a, a < 2147483648 ∧ v = Int32.ofNat a := by
  refine ⟨v.toInt.toNat, ?_, ?_⟩
  · have := Int32.toInt_lt v
    omega
  · have h0 : 0 ≤ v.toInt := by rw [Int32.le_iff_toInt_le] at h; exact h
    apply Int32.toInt_inj.mp
    have h2 := Int32.toInt_lt v
    rw [Int32.toInt_ofNat_of_lt (by omega)]
    omega
section
variable {P Z n k s : Nat} {E F G p oa os hk : Nat → Nat} {A0 B0 A B A' B' : St} {VV : Nat → Nat → Option VEn} {NO U EV dp m i c x o : Nat} {fr : Nat → FrT} {t : Nat × Nat} {l : Nat × Nat × Nat}
theorem op_42 (hP : Hid (P = 3 ∨ P = 18)) (hP2 : 3 ≤ P ∧ P ≤ 18) (hZ2 : 85 ≤ Z ∧ Z ≤ 126) (hL : Lkd P Z n k s E F G p A0 B0) (hT : ∀ m, m < k → TyM B0 Z m (F (m + 1) - F m) (F m) G (VV m)) (h : MC P Z n k s E F p A0 B0 VV oa os hk NO U EV dp m i c fr t l A B) (hc : c < 20000) (ho : opn B0 Z (F m + i) = 42) : StepOK P Z n k s E F p A0 B0 VV c A B := by
  have hkn := kno hP hZ2 hL hT h
  obtain ⟨hLk, kx, ko, kt, k16, klo, kfu, klp, kvis, ka, kb1, kF, kF2, kk, k27⟩ := hkn
  have h' := h
  obtain ⟨c1, c2, c3, ⟨r1, r2, r3, r4, r5, r6, r7, r8, r9, r10, r11, r12⟩, c5, c6, c7⟩ := h'
  obtain ⟨t', hef, hnx, hlb, htr⟩ := kvis
  have hpt : PT dp t.1 (up2 A 68 10 (Int32.ofNat (i + 1))) B := ⟨by rw [up2_o (by omega)]; exact c6.1, c6.2.1, c6.2.2.1, by rw [up2_o (by omega)]; exact c6.2.2.2.1, c6.2.2.2.2⟩
  have hA1 : ∀ a b, (a ≠ 68 ∨ (b ≠ 10 ∧ b ≠ 11)) → up2 A 68 10 (Int32.ofNat (i + 1)) a b = A a b := fun a b y => up2_o (by omega)
  have dp24 := c6.2.2.1
  have haft : aft B0 Z (F m + i) t l = l := by unfold aft; rw [if_neg (by omega)]
  obtain ⟨hi3, hinc⟩ := hnx (by omega)
  rw [haft] at hinc
  have hef' : (tkz [1] t).bind (pso 2) = some t' := by
    have : efB B0 Z m (F m + i) t l = (tkz [1] t).bind (pso 2) := by unfold efB; rw [ho]; rfl
    rw [this] at hef; exact hef
  obtain ⟨u, g1, g2⟩ := Option.bind_eq_some_iff.mp hef'
  obtain ⟨z1, z2, z3, z4, z5⟩ := tkz_y g1 kt
  obtain ⟨q3, rfl⟩ := psg_y (show psg 2 u = some t' from g2)
  obtain ⟨ux, ur⟩ := u
  have z1 : 1 ≤ t.1 := z1
  have z2 : ux = t.1 - 1 := z2
  subst z2
  have z3 : ∀ j, j < t.1 - 1 → kbt ur j = kbt t.2 j := z3
  obtain ⟨v0, w0, a0, b0, y0, m0⟩ := tp_l hpt c7 (d := 0) (by omega) (y := 0) rfl
  have k0 : kbt t.2 (t.1 - 1 - 0) = 1 := (z5 0 (by decide)).resolve_left (by decide)
  rw [k0] at y0
  rw [Nat.sub_zero] at y0 m0
  obtain ⟨B1, p1, p3, p5, p6⟩ := pop1 c6 (by omega)
  have hLk1 : Lkd P Z n k s E F G p (up2 A 68 10 (Int32.ofNat (i + 1))) B1 := hLk.of (fun a b y1 y2 _ => up2_o (by omega)) (fun a b y => p6 a b (by omega))
  have hg1 : GCo B0 Z n s p E oa os hk NO U EV (up2 A 68 10 (Int32.ofNat (i + 1))) B1 := c2.of (fun a b y => up2_o (by omega)) (fun a b y => p6 a b (by omega))
  have hn7 := hL.1.2.2.1
  have y0 := y0.i
  have hC : x129 P (up2 A 68 10 (Int32.ofNat (i + 1))) (A (P + 10) (3 * (F m + i))) (A (P + 10) (3 * (F m + i) + 1)) (A (P + 10) (3 * (F m + i) + 2)) = x156 (up2 A 68 10 (Int32.ofNat (i + 1))) (-2) := by
    rw [ka, ho, x129_h (by omega) (by omega), if_neg (by decide), if_neg (by decide), if_neg (by decide), if_pos (by decide)]; unfold x155; rw [if_pos (by decide), Option.bind_fun_some]
  have hR : x238 Z B = x256 Z B (Int32.ofNat (F m + i)) 42 := by
    rw [x238_d kx r4 kb1 ko (by omega), ho]; unfold actR; rw [if_neg (by decide), if_neg (by decide), if_neg (by decide), if_neg (by decide), if_neg (by decide), if_neg (by decide), if_neg (by decide), if_neg (by decide), if_neg (by decide), if_neg (by decide), if_neg (by decide)]; unfold x251; rw [if_neg (by decide), if_neg (by decide), if_neg (by decide), if_neg (by decide), if_neg (by decide), if_pos (by decide), Option.bind_fun_some]
    rfl
  unfold x156 at hC
  rw [a0, b0] at hC
  unfold x256 at hR
  rw [p1, Option.bind_some] at hR
  dsimp only at hR
  rw [p3, m0, ← y0] at hR
  simp only [Option.bind_fun_some] at hC hR
  have hgg := hg1
  obtain ⟨⟨k1, k2, k3, k4, k5, k6, -⟩, -⟩ := hgg
  by_cases hs : 0 ≤ v0
  · rw [if_pos hs] at hC hR
    obtain ⟨sz, hz, rfl⟩ := i32_ge0 hs
    by_cases yf : NO + U + 1 + sz ≤ 3000
    · obtain ⟨A2, a1, a2, a3, a4, a5, a6, a7, a8, fA⟩ := mkA_y (v := -2) (w := w0) (fi := 0) (sz := sz) k1 k3 yf (by decide)
      obtain ⟨B2, b1, b2, b3, b4, b5, b6, b7, b8, b9, fB⟩ := mkB_y (v := -2) (sz := sz) k2 k4 k5 yf
      rw [if_pos ((i32_l3 (x := 3000) (b := 3000) rfl (by omega) (by decide)).mpr (by omega)), if_pos (by decide), Option.bind_some, b1, Option.bind_some] at hR
      have e34 : B2 82 34 = -1 := by rw [fB _ _ (by omega) (by omega) (by omega), p6 _ _ (by omega)]; exact r6
      have hi : inb (Int32.ofNat NO) 3001 := (i32_inb (by omega)).mpr (by omega)
      have hcl : (Int32.ofNat NO).toNatClampNeg = NO := i32_cl (by omega)
      dsimp only at hR
      rw [if_neg (show ¬ B2 82 34 = 6 by rw [e34]; decide), i32_p] at hR
      simp only [if_pos hi, hcl] at hR
      rw [a1, Option.bind_some, if_neg (show ¬ Int32.ofNat NO = -1 from i32_m1 (by omega))] at hC
      have gA : ∀ a b, ((a ≠ 70 ∧ a ≠ 72) ∨ b ≠ 3) → (a ≠ 71 ∨ b < 4 * NO ∨ 4 * NO + 4 ≤ b) → (a ≠ 73 ∨ b < 2 * U ∨ 2 * (U + sz) ≤ b) → (a ≠ 68 ∨ (b ≠ 10 ∧ b ≠ 11)) → up2 A2 68 11 (Int32.ofNat (t.1 - 1)) a b = A a b := fun a b x1 x2 x3 x4 => by rw [up2_o (by omega), fA a b x1 x2 x3, up2_o (by omega)]
      have gB : ∀ a b, (a ≠ 82 ∨ (b ≠ 40 ∧ b ≠ 41 ∧ b ≠ 48 ∧ b ≠ 65 ∧ b ≠ 66)) → (a < 181 ∨ 184 < a ∨ b ≠ NO) → ((a ≠ 185 ∧ a ≠ 186) ∨ b < U ∨ U + sz ≤ b) → up2 B2 184 NO w0 a b = B a b := fun a b x1 x2 x3 => by rw [up2_o (by omega), fB a b (by omega) x2 x3, p6 a b (by omega)]
      have hg2 : GCo B0 Z n s p E (updN oa NO U) (updN os NO sz) (nhk hk (fun _ => 1) U) (NO + 1) (U + sz) EV (up2 A2 68 11 (Int32.ofNat (t.1 - 1))) (up2 B2 184 NO w0) := by
        refine GCo.mk (kf := fun _ => 1) (A := A) (B := B) (v := -2) (sz := sz) c2 yf (fun a b x1 x2 x3 x4 => gA a b x1 x2 x3 (by omega)) (fun a b x1 x2 x3 x4 => gB a b (by omega) x2 x3) ?_ ?_ ?_ ?_ ?_ ?_ ?_ ?_ ?_ ?_ ?_ ?_ (fun q hq => ?_) (Or.inr (Or.inl ⟨rfl, fun _ _ => rfl⟩))
        · rw [up2_o (by omega)]; exact a2
        · rw [up2_o (by omega)]; exact a3
        · rw [up2_o (by omega)]; exact a4
        · rw [up2_o (by omega)]; exact a5
        · rw [up2_o (by omega)]; exact a6
        · rw [up2_o (by omega), up2_s]; exact a7
        · rw [up2_o (by omega)]; exact b2
        · rw [up2_o (by omega)]; exact b3
        · rw [up2_o (by omega)]; exact b4
        · rw [up2_o (by omega)]; exact b5
        · rw [up2_o (by omega)]; exact b6
        · rw [up2_o (by omega)]; exact b7
        · rw [up2_o (by omega), up2_o (by omega), up2_o (by omega), up2_o (by omega), (a8 q hq).1, (a8 q hq).2, (b9 q hq).1, (b9 q hq).2]
          exact ⟨Or.inl ⟨rfl, rfl⟩, rfl⟩
      have hpt2 : PT dp (t.1 - 1) (up2 A2 68 11 (Int32.ofNat (t.1 - 1))) (up2 B2 184 NO w0) := ⟨by rw [gA _ _ (by omega) (by omega) (by omega) (by omega)]; exact c6.1, by rw [gB _ _ (by omega) (by omega) (by omega)]; exact c6.2.1, dp24, up2_s _ _ _ _, by rw [up2_o (by omega), fB _ _ (by omega) (by omega) (by omega)]; exact p5, by omega⟩
      refine nx_gp (A1 := up2 A2 68 11 (Int32.ofNat (t.1 - 1))) (B1 := up2 B2 184 NO w0) (h0 := t.1 - 1) (r0 := ur) (kd := 2) (v := Int32.ofNat NO) (v' := Int32.ofNat (NO + 1)) (w := 0) hP hP2 hZ2 hL hT h hc (by omega) (c1.of (fun a b _ _ => gA a b (by omega) (by omega) (by omega) (by omega)) (fun a b _ => gB a b (by omega) (by omega) (by omega))) hg2 (fun a b _ => gA a b (by omega) (by omega) (by omega) (by omega)) ?_ (fun a b _ => gB a b (by omega) (by omega) (by omega)) hpt2 (by omega) ((c7.of (by omega) (fun b _ _ => gA _ _ (by omega) (by omega) (by omega) (by omega)) (fun a b _ _ _ => gB _ _ (by omega) (by omega) (by omega)) k16).pop (by omega) z3) z4.2 (Or.inr ⟨rfl, Or.inr ⟨NO, by omega, rfl, rfl⟩⟩) (Or.inr rfl) hi3 hinc kfu ?_ ?_
      · rw [up2_o (by omega), fA _ _ (by omega) (by omega) (by omega), up2_s]
      · rw [hC]
        unfold x136 x135
        dsimp only
        rw [fA 68 11 (by omega) (by omega) (by omega), hpt.2.2.2.1, show (1 : Int32) = Int32.ofNat 1 from rfl, i32_sb (by omega), Option.bind_some, Option.bind_fun_some]
      · rw [hR, i32_s]
    · have a1 := mkA_n (v := -2) (w := w0) (sz := sz) k1 k3 k6 hz (by omega)
      rw [a1, Option.bind_some, if_pos rfl] at hC
      have hRR : x238 Z B = some (up2 B1 82 34 6) := by
        rw [hR]
        by_cases yz : sz ≤ 3000
        · rw [if_pos ((i32_l3 (x := 3000) (b := 3000) rfl (by omega) (by decide)).mpr yz), if_pos (by decide), Option.bind_some, mkB_n k5 k6 yz (by omega), Option.bind_some, if_pos (up2_s _ _ _ _)]
        · rw [if_neg (by rw [i32_l3 (x := 3000) (b := 3000) rfl (by omega) (by decide)]; exact yz)]
      exact lim_l (A1 := up2 (up2 A 68 10 (Int32.ofNat (i + 1))) 68 14 6) (B1 := up2 B1 82 34 6) (e := 6) hP hP2 hZ2 hL hT h hc (by omega) (c1.of (fun a b _ _ => by rw [up2_o (by omega), up2_o (by omega)]) (fun a b _ => by rw [up2_o (by omega), p6 a b (by omega)])) (c2.of (fun a b _ => by rw [up2_o (by omega), up2_o (by omega)]) (fun a b _ => by rw [up2_o (by omega), p6 a b (by omega)])) (up2_s _ _ _ _) (by rw [up2_o (by omega), up2_o (by omega)]) (by rw [up2_o (by omega), up2_o (by omega)]) (up2_s _ _ _ _) (by rw [up2_o (by omega), p6 _ _ (by omega)]) hC hRR
  · rw [if_neg hs] at hC hR
    exact flt_l (cls := 4) (w := w0) (A1 := up2 A 68 10 (Int32.ofNat (i + 1))) (B1 := B1) hP hP2 hZ2 hL hT h hc (by decide) hA1 p6 hC hR
theorem op_43 (hP : Hid (P = 3 ∨ P = 18)) (hP2 : 3 ≤ P ∧ P ≤ 18) (hZ2 : 85 ≤ Z ∧ Z ≤ 126) (hL : Lkd P Z n k s E F G p A0 B0) (hT : ∀ m, m < k → TyM B0 Z m (F (m + 1) - F m) (F m) G (VV m)) (h : MC P Z n k s E F p A0 B0 VV oa os hk NO U EV dp m i c fr t l A B) (hc : c < 20000) (ho : opn B0 Z (F m + i) = 43) : StepOK P Z n k s E F p A0 B0 VV c A B := by
  have hkn := kno hP hZ2 hL hT h
  obtain ⟨hLk, kx, ko, kt, k16, klo, kfu, klp, kvis, ka, kb1, kF, kF2, kk, k27⟩ := hkn
  have h' := h
  obtain ⟨c1, c2, c3, ⟨r1, r2, r3, r4, r5, r6, r7, r8, r9, r10, r11, r12⟩, c5, c6, c7⟩ := h'
  obtain ⟨t', hef, hnx, hlb, htr⟩ := kvis
  have hpt : PT dp t.1 (up2 A 68 10 (Int32.ofNat (i + 1))) B := ⟨by rw [up2_o (by omega)]; exact c6.1, c6.2.1, c6.2.2.1, by rw [up2_o (by omega)]; exact c6.2.2.2.1, c6.2.2.2.2⟩
  have hA1 : ∀ a b, (a ≠ 68 ∨ (b ≠ 10 ∧ b ≠ 11)) → up2 A 68 10 (Int32.ofNat (i + 1)) a b = A a b := fun a b y => up2_o (by omega)
  have dp24 := c6.2.2.1
  have haft : aft B0 Z (F m + i) t l = l := by unfold aft; rw [if_neg (by omega)]
  obtain ⟨hi3, hinc⟩ := hnx (by omega)
  rw [haft] at hinc
  have hef' : (tkz [1] t).bind (pso 2) = some t' := by
    have : efB B0 Z m (F m + i) t l = (tkz [1] t).bind (pso 2) := by unfold efB; rw [ho]; rfl
    rw [this] at hef; exact hef
  obtain ⟨u, g1, g2⟩ := Option.bind_eq_some_iff.mp hef'
  obtain ⟨z1, z2, z3, z4, z5⟩ := tkz_y g1 kt
  obtain ⟨q3, rfl⟩ := psg_y (show psg 2 u = some t' from g2)
  obtain ⟨ux, ur⟩ := u
  have z1 : 1 ≤ t.1 := z1
  have z2 : ux = t.1 - 1 := z2
  subst z2
  have z3 : ∀ j, j < t.1 - 1 → kbt ur j = kbt t.2 j := z3
  obtain ⟨v0, w0, a0, b0, y0, m0⟩ := tp_l hpt c7 (d := 0) (by omega) (y := 0) rfl
  have k0 : kbt t.2 (t.1 - 1 - 0) = 1 := (z5 0 (by decide)).resolve_left (by decide)
  rw [k0] at y0
  rw [Nat.sub_zero] at y0 m0
  obtain ⟨B1, p1, p3, p5, p6⟩ := pop1 c6 (by omega)
  have hLk1 : Lkd P Z n k s E F G p (up2 A 68 10 (Int32.ofNat (i + 1))) B1 := hLk.of (fun a b y1 y2 _ => up2_o (by omega)) (fun a b y => p6 a b (by omega))
  have hg1 : GCo B0 Z n s p E oa os hk NO U EV (up2 A 68 10 (Int32.ofNat (i + 1))) B1 := c2.of (fun a b y => up2_o (by omega)) (fun a b y => p6 a b (by omega))
  have hn7 := hL.1.2.2.1
  have y0 := y0.i
  have hC : x129 P (up2 A 68 10 (Int32.ofNat (i + 1))) (A (P + 10) (3 * (F m + i))) (A (P + 10) (3 * (F m + i) + 1)) (A (P + 10) (3 * (F m + i) + 2)) = x156 (up2 A 68 10 (Int32.ofNat (i + 1))) (-3) := by
    rw [ka, ho, x129_h (by omega) (by omega), if_neg (by decide), if_neg (by decide), if_neg (by decide), if_pos (by decide)]; unfold x155; rw [if_neg (by decide), if_pos (by decide), Option.bind_fun_some]
  have hR : x238 Z B = x256 Z B (Int32.ofNat (F m + i)) 43 := by
    rw [x238_d kx r4 kb1 ko (by omega), ho]; unfold actR; rw [if_neg (by decide), if_neg (by decide), if_neg (by decide), if_neg (by decide), if_neg (by decide), if_neg (by decide), if_neg (by decide), if_neg (by decide), if_neg (by decide), if_neg (by decide), if_neg (by decide)]; unfold x251; rw [if_neg (by decide), if_neg (by decide), if_neg (by decide), if_neg (by decide), if_neg (by decide), if_neg (by decide), if_pos (by decide), Option.bind_fun_some]
    rfl
  unfold x156 at hC
  rw [a0, b0] at hC
  unfold x256 at hR
  rw [p1, Option.bind_some] at hR
  dsimp only at hR
  rw [p3, m0, ← y0] at hR
  simp only [Option.bind_fun_some] at hC hR
  have hgg := hg1
  obtain ⟨⟨k1, k2, k3, k4, k5, k6, -⟩, -⟩ := hgg
  by_cases hs : 0 ≤ v0
  · rw [if_pos hs] at hC hR
    obtain ⟨sz, hz, rfl⟩ := i32_ge0 hs
    by_cases yf : NO + U + 1 + sz ≤ 3000
    · obtain ⟨A2, a1, a2, a3, a4, a5, a6, a7, a8, fA⟩ := mkA_y (v := -3) (w := w0) (fi := -1) (sz := sz) k1 k3 yf (by decide)
      obtain ⟨B2, b1, b2, b3, b4, b5, b6, b7, b8, b9, fB⟩ := mkB_y (v := -3) (sz := sz) k2 k4 k5 yf
      rw [if_pos ((i32_l3 (x := 3000) (b := 3000) rfl (by omega) (by decide)).mpr (by omega)), if_neg (by decide), Option.bind_some, b1, Option.bind_some] at hR
      have e34 : B2 82 34 = -1 := by rw [fB _ _ (by omega) (by omega) (by omega), p6 _ _ (by omega)]; exact r6
      have hi : inb (Int32.ofNat NO) 3001 := (i32_inb (by omega)).mpr (by omega)
      have hcl : (Int32.ofNat NO).toNatClampNeg = NO := i32_cl (by omega)
      dsimp only at hR
      rw [if_neg (show ¬ B2 82 34 = 6 by rw [e34]; decide), i32_p] at hR
      simp only [if_pos hi, hcl] at hR
      rw [a1, Option.bind_some, if_neg (show ¬ Int32.ofNat NO = -1 from i32_m1 (by omega))] at hC
      have gA : ∀ a b, ((a ≠ 70 ∧ a ≠ 72) ∨ b ≠ 3) → (a ≠ 71 ∨ b < 4 * NO ∨ 4 * NO + 4 ≤ b) → (a ≠ 73 ∨ b < 2 * U ∨ 2 * (U + sz) ≤ b) → (a ≠ 68 ∨ (b ≠ 10 ∧ b ≠ 11)) → up2 A2 68 11 (Int32.ofNat (t.1 - 1)) a b = A a b := fun a b x1 x2 x3 x4 => by rw [up2_o (by omega), fA a b x1 x2 x3, up2_o (by omega)]
      have gB : ∀ a b, (a ≠ 82 ∨ (b ≠ 40 ∧ b ≠ 41 ∧ b ≠ 48 ∧ b ≠ 65 ∧ b ≠ 66)) → (a < 181 ∨ 184 < a ∨ b ≠ NO) → ((a ≠ 185 ∧ a ≠ 186) ∨ b < U ∨ U + sz ≤ b) → up2 B2 184 NO w0 a b = B a b := fun a b x1 x2 x3 => by rw [up2_o (by omega), fB a b (by omega) x2 x3, p6 a b (by omega)]
      have hg2 : GCo B0 Z n s p E (updN oa NO U) (updN os NO sz) (nhk hk (fun _ => 2) U) (NO + 1) (U + sz) EV (up2 A2 68 11 (Int32.ofNat (t.1 - 1))) (up2 B2 184 NO w0) := by
        refine GCo.mk (kf := fun _ => 2) (A := A) (B := B) (v := -3) (sz := sz) c2 yf (fun a b x1 x2 x3 x4 => gA a b x1 x2 x3 (by omega)) (fun a b x1 x2 x3 x4 => gB a b (by omega) x2 x3) ?_ ?_ ?_ ?_ ?_ ?_ ?_ ?_ ?_ ?_ ?_ ?_ (fun q hq => ?_) (Or.inr (Or.inr ⟨rfl, fun _ _ => rfl⟩))
        · rw [up2_o (by omega)]; exact a2
        · rw [up2_o (by omega)]; exact a3
        · rw [up2_o (by omega)]; exact a4
        · rw [up2_o (by omega)]; exact a5
        · rw [up2_o (by omega)]; exact a6
        · rw [up2_o (by omega), up2_s]; exact a7
        · rw [up2_o (by omega)]; exact b2
        · rw [up2_o (by omega)]; exact b3
        · rw [up2_o (by omega)]; exact b4
        · rw [up2_o (by omega)]; exact b5
        · rw [up2_o (by omega)]; exact b6
        · rw [up2_o (by omega)]; exact b7
        · rw [up2_o (by omega), up2_o (by omega), up2_o (by omega), up2_o (by omega), (a8 q hq).1, (a8 q hq).2, (b9 q hq).1, (b9 q hq).2]
          exact ⟨Or.inr ⟨rfl, Or.inl ⟨rfl, rfl⟩⟩, rfl⟩
      have hpt2 : PT dp (t.1 - 1) (up2 A2 68 11 (Int32.ofNat (t.1 - 1))) (up2 B2 184 NO w0) := ⟨by rw [gA _ _ (by omega) (by omega) (by omega) (by omega)]; exact c6.1, by rw [gB _ _ (by omega) (by omega) (by omega)]; exact c6.2.1, dp24, up2_s _ _ _ _, by rw [up2_o (by omega), fB _ _ (by omega) (by omega) (by omega)]; exact p5, by omega⟩
      refine nx_gp (A1 := up2 A2 68 11 (Int32.ofNat (t.1 - 1))) (B1 := up2 B2 184 NO w0) (h0 := t.1 - 1) (r0 := ur) (kd := 2) (v := Int32.ofNat NO) (v' := Int32.ofNat (NO + 1)) (w := 0) hP hP2 hZ2 hL hT h hc (by omega) (c1.of (fun a b _ _ => gA a b (by omega) (by omega) (by omega) (by omega)) (fun a b _ => gB a b (by omega) (by omega) (by omega))) hg2 (fun a b _ => gA a b (by omega) (by omega) (by omega) (by omega)) ?_ (fun a b _ => gB a b (by omega) (by omega) (by omega)) hpt2 (by omega) ((c7.of (by omega) (fun b _ _ => gA _ _ (by omega) (by omega) (by omega) (by omega)) (fun a b _ _ _ => gB _ _ (by omega) (by omega) (by omega)) k16).pop (by omega) z3) z4.2 (Or.inr ⟨rfl, Or.inr ⟨NO, by omega, rfl, rfl⟩⟩) (Or.inr rfl) hi3 hinc kfu ?_ ?_
      · rw [up2_o (by omega), fA _ _ (by omega) (by omega) (by omega), up2_s]
      · rw [hC]
        unfold x136 x135
        dsimp only
        rw [fA 68 11 (by omega) (by omega) (by omega), hpt.2.2.2.1, show (1 : Int32) = Int32.ofNat 1 from rfl, i32_sb (by omega), Option.bind_some, Option.bind_fun_some]
      · rw [hR, i32_s]
    · have a1 := mkA_n (v := -3) (w := w0) (sz := sz) k1 k3 k6 hz (by omega)
      rw [a1, Option.bind_some, if_pos rfl] at hC
      have hRR : x238 Z B = some (up2 B1 82 34 6) := by
        rw [hR]
        by_cases yz : sz ≤ 3000
        · rw [if_pos ((i32_l3 (x := 3000) (b := 3000) rfl (by omega) (by decide)).mpr yz), if_neg (by decide), Option.bind_some, mkB_n k5 k6 yz (by omega), Option.bind_some, if_pos (up2_s _ _ _ _)]
        · rw [if_neg (by rw [i32_l3 (x := 3000) (b := 3000) rfl (by omega) (by decide)]; exact yz)]
      exact lim_l (A1 := up2 (up2 A 68 10 (Int32.ofNat (i + 1))) 68 14 6) (B1 := up2 B1 82 34 6) (e := 6) hP hP2 hZ2 hL hT h hc (by omega) (c1.of (fun a b _ _ => by rw [up2_o (by omega), up2_o (by omega)]) (fun a b _ => by rw [up2_o (by omega), p6 a b (by omega)])) (c2.of (fun a b _ => by rw [up2_o (by omega), up2_o (by omega)]) (fun a b _ => by rw [up2_o (by omega), p6 a b (by omega)])) (up2_s _ _ _ _) (by rw [up2_o (by omega), up2_o (by omega)]) (by rw [up2_o (by omega), up2_o (by omega)]) (up2_s _ _ _ _) (by rw [up2_o (by omega), p6 _ _ (by omega)]) hC hRR
  · rw [if_neg hs] at hC hR
    exact flt_l (cls := 4) (w := w0) (A1 := up2 A 68 10 (Int32.ofNat (i + 1))) (B1 := B1) hP hP2 hZ2 hL hT h hc (by decide) hA1 p6 hC hR
end
