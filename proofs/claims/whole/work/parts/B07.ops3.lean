/-! store, inc, swap; two ints into one -/
section
variable {P Z n k s : Nat} {E F G p oa os hk : Nat → Nat} {A0 B0 A B A' B' : St} {VV : Nat → Nat → Option VEn} {NO U EV dp m i c x o : Nat} {fr : Nat → FrT} {t : Nat × Nat} {l : Nat × Nat × Nat}
theorem FV.loc {N h r kd v : Nat} {xv yv w : Int32} (h0 : FV N dp h r l A B) (hkd : kd = 1 ∨ kd = 2) (hv : v < 16) (hr : VR N kd xv yv) (h16 : h ≤ 16) (hA1 : A' 81 (2 * (32 * dp + v)) = xv ∧ A' 81 (2 * (32 * dp + v) + 1) = w) (hB1 : B' 196 (16 * dp + v) = yv ∧ B' 197 (16 * dp + v) = w) (hA : ∀ b, b ≠ 2 * (32 * dp + v) → b ≠ 2 * (32 * dp + v) + 1 → 64 * dp ≤ b → b < 64 * dp + 64 → A' 81 b = A 81 b) (hB : ∀ a b, (196 ≤ a ∧ a ≤ 199) → (b ≠ 16 * dp + v ∨ 197 < a) → 16 * dp ≤ b → b < 16 * dp + 16 → B' a b = B a b) : FV N dp h r (stl kd v l) A' B' := by
  refine ⟨fun j hj => ?_, fun k hk hw => ?_⟩
  · rw [hA _ (by omega) (by omega) (by omega) (by omega), hA _ (by omega) (by omega) (by omega) (by omega), hB _ _ (by omega) (by omega) (by omega) (by omega), hB _ _ (by omega) (by omega) (by omega) (by omega)]
    exact h0.1 j hj
  · rw [wvl_stl hkd hk] at hw ⊢
    by_cases y : k = v
    · subst y
      rw [if_pos rfl, hA1.1, hA1.2, hB1.1, hB1.2]
      exact ⟨hr, rfl⟩
    · rw [if_neg y] at hw ⊢
      rw [hA _ (by omega) (by omega) (by omega) (by omega), hA _ (by omega) (by omega) (by omega) (by omega), hB _ _ (by omega) (by omega) (by omega) (by omega), hB _ _ (by omega) (by omega) (by omega) (by omega)]
      exact h0.2 k hk hw
theorem op_3 (hP : Hid (P = 3 ∨ P = 18)) (hP2 : 3 ≤ P ∧ P ≤ 18) (hZ2 : 85 ≤ Z ∧ Z ≤ 126) (hL : Lkd P Z n k s E F G p A0 B0) (hT : ∀ m, m < k → TyM B0 Z m (F (m + 1) - F m) (F m) G (VV m)) (h : MC P Z n k s E F p A0 B0 VV oa os hk NO U EV dp m i c fr t l A B) (hc : c < 20000) (ho : opn B0 Z (F m + i) = 3) : StepOK P Z n k s E F p A0 B0 VV c A B := by
  have hkn := kno hP hZ2 hL hT h
  obtain ⟨hLk, kx, ko, kt, k16, klo, kfu, klp, kvis, ka, kb1, kF, kF2, kk, k27⟩ := hkn
  have h' := h
  obtain ⟨c1, c2, c3, ⟨r1, r2, r3, r4, r5, r6, r7, r8, r9, r10, r11, r12⟩, c5, c6, c7⟩ := h'
  obtain ⟨t', hef, hnx, hlb, htr⟩ := kvis
  have hpt : PT dp t.1 (up2 A 68 10 (Int32.ofNat (i + 1))) B := ⟨by rw [up2_o (by omega)]; exact c6.1, c6.2.1, c6.2.2.1, by rw [up2_o (by omega)]; exact c6.2.2.2.1, c6.2.2.2.2⟩
  have hA1 : ∀ a b, (a ≠ 68 ∨ (b ≠ 10 ∧ b ≠ 11)) → up2 A 68 10 (Int32.ofNat (i + 1)) a b = A a b := fun a b y => up2_o (by omega)
  have dp24 := c6.2.2.1
  obtain ⟨o, o1, o2, o3, o4, o5, o6, -⟩ := klp
  have eo : o = 3 := by rw [kb1, ho, i32_eq (by omega) (Nat.lt_trans o1 (by decide))] at o3; exact o3.symm
  subst eo
  obtain ⟨v, hv, h27⟩ := o5 (by decide)
  have e27 : A (P + 10) (3 * (F m + i) + 1) = Int32.ofNat v := (o4 (by decide)).trans h27
  clear o4 o5 o6
  have einn : inn B0 Z (F m + i) = v := by unfold inn; rw [← k27, h27, i32_cl (by omega)]
  have haft : aft B0 Z (F m + i) t l = stl (skd t) v l := by unfold aft; rw [if_pos ho, einn]
  obtain ⟨hi3, hinc⟩ := hnx (by omega)
  rw [haft] at hinc
  have hef' : tkk 0 t = some t' := by
    have : efB B0 Z m (F m + i) t l = ((tkk 0 t).bind (tkz [])).bind (pso 0) := by unfold efB; rw [ho]; rfl
    rw [this] at hef
    cases z : tkk 0 t with
    | none => rw [z] at hef; cases hef
    | some u => rw [z] at hef; exact hef
  obtain ⟨q1, -, rfl⟩ := tkk_y hef'
  obtain ⟨v1, v2⟩ := top_r (j := t.1 - 1) c7 (by omega)
  obtain ⟨w1, w2⟩ := val_n hpt (j := 0) (x := 0) q1 rfl
  rw [Nat.sub_zero, hA1 _ _ (by omega)] at w1 w2
  have hlo := loc_n hpt (k := v) hv
  obtain ⟨B1, b1, b2, b3, b4⟩ := pop1 c6 q1
  have hi2 : inb (Int32.ofNat (16 * dp + v)) 384 := (i32_inb (by omega)).mpr (by omega)
  have hc2 : (Int32.ofNat (16 * dp + v)).toNatClampNeg = 16 * dp + v := i32_cl (by omega)
  generalize hA3 : up2 (up2 (up2 (up2 A 68 10 (Int32.ofNat (i + 1))) 81 (2 * (32 * dp + v)) (A 81 (2 * (32 * dp + 16 + (t.1 - 1))))) 81 (2 * (32 * dp + v) + 1) (A 81 (2 * (32 * dp + 16 + (t.1 - 1)) + 1))) 68 11 (Int32.ofNat (t.1 - 1)) = A3
  generalize hB3 : up2 (up2 (up2 B1 196 (16 * dp + v) (B 198 (16 * dp + (t.1 - 1)))) 197 (16 * dp + v) (B 199 (16 * dp + (t.1 - 1)))) 82 64 (Int32.ofNat (F m + i + 1)) = B3
  have fA : ∀ a b, (a ≠ 68 ∨ (b ≠ 10 ∧ b ≠ 11)) → (a ≠ 81 ∨ (b ≠ 2 * (32 * dp + v) ∧ b ≠ 2 * (32 * dp + v) + 1)) → A3 a b = A a b := fun a b y1 y2 => by rw [← hA3, up2_o (by omega), up2_o (by omega), up2_o (by omega), up2_o (by omega)]
  have fB : ∀ a b, (a ≠ 82 ∨ (b ≠ 64 ∧ b ≠ 65 ∧ b ≠ 66)) → (a < 196 ∨ 197 < a ∨ b ≠ 16 * dp + v) → B3 a b = B a b := fun a b y1 y2 => by rw [← hB3, up2_o (by omega), up2_o (by omega), up2_o (by omega), b4 a b (by omega)]
  have hpt3 : PT dp (t.1 - 1) A3 B3 := ⟨by rw [fA _ _ (by omega) (by omega)]; exact c6.1, by rw [fB _ _ (by omega) (by omega)]; exact c6.2.1, dp24, by rw [← hA3, up2_s], by rw [← hB3, up2_o (by omega), up2_o (by omega), up2_o (by omega)]; exact b3, by omega⟩
  have hfv : FV NO dp (t.1 - 1) (spp t).2 (stl (skd t) v l) A3 B3 := by
    refine FV.loc (xv := A 81 (2 * (32 * dp + 16 + (t.1 - 1)))) (yv := B 198 (16 * dp + (t.1 - 1))) (w := A 81 (2 * (32 * dp + 16 + (t.1 - 1)) + 1)) (c7.pop (by omega) (fun j hj => spp_k hj)) skd_12 hv v1 (by omega) ⟨?_, ?_⟩ ⟨?_, ?_⟩ (fun b y1 y2 y3 y4 => fA _ _ (by omega) (by omega)) (fun a b y1 y2 y3 y4 => fB _ _ (by omega) (by omega))
    · rw [← hA3, up2_o (by omega), up2_o (by omega), up2_s]
    · rw [← hA3, up2_o (by omega), up2_s]
    · rw [← hB3, up2_o (by omega), up2_o (by omega), up2_s]
    · rw [← hB3, up2_o (by omega), up2_s, v2]
  have hful2 : Lful (stl (skd t) v l) := by
    intro j hj
    rw [wvl_stl skd_12 hj]
    split
    · rcases skd_12 (t := t) with y | y <;> rw [y] <;> decide
    · exact kfu j hj
  obtain ⟨A2, B2, l2, e1, e2, e3⟩ := cl_run (A1 := A3) (B1 := B3) (oa' := oa) (os' := os) (hk' := hk) (NO' := NO) (U' := U) (EV' := EV) (i' := i + 1) (t' := spp t) (l' := stl (skd t) v l) hP2 hZ2 h hT hc (Nat.le_refl _) (c1.of (fun a b y1 y2 => fA a b (by omega) (by omega)) (fun a b y => fB a b (by omega) (by omega))) (c2.of (fun a b y => fA a b (by omega) (by omega)) (fun a b y => fB a b (by omega) (by omega))) (fun a b y => fA a b (by omega) (by omega)) (fun a b y => fB a b (by omega) (by omega)) hpt3 hfv (by rw [← hA3]; simp (disch := omega) only [up2_o, up2_s]) (by rw [← hB3, up2_s]; rfl) hi3 hinc hful2
  refine ⟨A2, B2, ?_, ?_, Or.inl ⟨oa, os, hk, NO, U, EV, dp, m, i + 1, fr, _, l2, e3⟩⟩
  · have eA : x129 P (up2 A 68 10 (Int32.ofNat (i + 1))) (A (P + 10) (3 * (F m + i))) (A (P + 10) (3 * (F m + i) + 1)) (A (P + 10) (3 * (F m + i) + 2)) = some A3 := by
      rw [ka, ho, x129_1 (by omega)]; unfold x130; rw [if_neg (by decide), if_neg (by decide), if_neg (by decide), if_pos (show Int32.ofNat 3 = 3 from rfl), Option.bind_fun_some, e27, hlo, w1, w2]
      unfold tset2
      simp (disch := omega) only [m80]
      unfold x135
      rw [← hA3, up2_o (by omega), up2_o (by omega), up2_o (by omega), c6.2.2.2.1, show (1 : Int32) = Int32.ofNat 1 from rfl, i32_sb (by omega)]
    rw [tnC_e hP hP2 hLk ⟨r1, r2, r3, r4, r5, r6, r7, r8, r9, r10, r11, r12⟩, eA, Option.bind_some]; exact e1
  · have eB : x238 Z B = some B3 := by
      rw [x238_e kx r4 o3 (Or.inr (Or.inl rfl)) c6.2.1 dp24 hv h27 hZ2, if_neg (by decide), if_pos rfl, b1, Option.bind_some]
      dsimp only [Lt]
      have e55 : B1 82 55 = Int32.ofNat dp := by rw [b4 _ _ (by omega)]; exact c6.2.1
      have e27' : B1 (Z + 27) (F m + i) = Int32.ofNat v := by rw [b4 _ _ (by omega)]; exact h27
      simp (disch := omega) only [e55, e27', i32_m16, if_pos hi2, hc2, up2_o, b2, hB3]
    unfold tnR; rw [eB, Option.bind_some]; exact e2
theorem op_4 (hP : Hid (P = 3 ∨ P = 18)) (hP2 : 3 ≤ P ∧ P ≤ 18) (hZ2 : 85 ≤ Z ∧ Z ≤ 126) (hL : Lkd P Z n k s E F G p A0 B0) (hT : ∀ m, m < k → TyM B0 Z m (F (m + 1) - F m) (F m) G (VV m)) (h : MC P Z n k s E F p A0 B0 VV oa os hk NO U EV dp m i c fr t l A B) (hc : c < 20000) (ho : opn B0 Z (F m + i) = 4) : StepOK P Z n k s E F p A0 B0 VV c A B := by
  have hkn := kno hP hZ2 hL hT h
  obtain ⟨hLk, kx, ko, kt, k16, klo, kfu, klp, kvis, ka, kb1, kF, kF2, kk, k27⟩ := hkn
  have h' := h
  obtain ⟨c1, c2, c3, ⟨r1, r2, r3, r4, r5, r6, r7, r8, r9, r10, r11, r12⟩, c5, c6, c7⟩ := h'
  obtain ⟨t', hef, hnx, hlb, htr⟩ := kvis
  have hpt : PT dp t.1 (up2 A 68 10 (Int32.ofNat (i + 1))) B := ⟨by rw [up2_o (by omega)]; exact c6.1, c6.2.1, c6.2.2.1, by rw [up2_o (by omega)]; exact c6.2.2.2.1, c6.2.2.2.2⟩
  have hA1 : ∀ a b, (a ≠ 68 ∨ (b ≠ 10 ∧ b ≠ 11)) → up2 A 68 10 (Int32.ofNat (i + 1)) a b = A a b := fun a b y => up2_o (by omega)
  have dp24 := c6.2.2.1
  have haft : aft B0 Z (F m + i) t l = l := by unfold aft; rw [if_neg (by omega)]
  obtain ⟨hi3, hinc⟩ := hnx (by omega)
  rw [haft] at hinc
  obtain ⟨o, o1, o2, o3, o4, o5, o6, -⟩ := klp
  have eo : o = 4 := by rw [kb1, ho, i32_eq (by omega) (Nat.lt_trans o1 (by decide))] at o3; exact o3.symm
  subst eo
  obtain ⟨v, hv, h27⟩ := o5 (by decide)
  have e27 : A (P + 10) (3 * (F m + i) + 1) = Int32.ofNat v := (o4 (by decide)).trans h27
  have e31 : A (P + 10) (3 * (F m + i) + 2) = B (Z + 31) (F m + i) := o6 (by decide)
  clear o4 o5 o6
  have einn : inn B0 Z (F m + i) = v := by unfold inn; rw [← k27, h27, i32_cl (by omega)]
  have hef' : (if wvl l v = 1 then some t else none) = some t' := by
    have : efB B0 Z m (F m + i) t l = if wvl l (inn B0 Z (F m + i)) = 1 then some t else none := by unfold efB; rw [ho]; rfl
    rw [this, einn] at hef; exact hef
  by_cases hw : wvl l v = 1
  · rw [if_pos hw] at hef'
    cases hef'
    obtain ⟨v1, v2⟩ := c7.2 v hv (Or.inl hw)
    rw [hw] at v1
    have v1 := v1.i
    have hlo := loc_n hpt (k := v) hv
    generalize hA3 : up2 (up2 A 68 10 (Int32.ofNat (i + 1))) 81 (2 * (32 * dp + v)) (A 81 (2 * (32 * dp + v)) + B (Z + 31) (F m + i)) = A3
    generalize hB3 : up2 (up2 B 196 (16 * dp + v) (B 196 (16 * dp + v) + B (Z + 31) (F m + i))) 82 64 (Int32.ofNat (F m + i + 1)) = B3
    have fA : ∀ a b, (a ≠ 68 ∨ b ≠ 10) → (a ≠ 81 ∨ b ≠ 2 * (32 * dp + v)) → A3 a b = A a b := fun a b y1 y2 => by rw [← hA3, up2_o (by omega), up2_o (by omega)]
    have fB : ∀ a b, (a ≠ 82 ∨ b ≠ 64) → (a ≠ 196 ∨ b ≠ 16 * dp + v) → B3 a b = B a b := fun a b y1 y2 => by rw [← hB3, up2_o (by omega), up2_o (by omega)]
    have hpt3 : PT dp t.1 A3 B3 := ⟨by rw [fA _ _ (by omega) (by omega)]; exact c6.1, by rw [fB _ _ (by omega) (by omega)]; exact c6.2.1, dp24, by rw [fA _ _ (by omega) (by omega)]; exact c6.2.2.2.1, by rw [fB _ _ (by omega) (by omega)]; exact c6.2.2.2.2.1, k16⟩
    have hfv : FV NO dp t.1 t.2 l A3 B3 := by
      refine ⟨fun j hj => ?_, fun kk hk hww => ?_⟩
      · rw [fA _ _ (by omega) (by omega), fA _ _ (by omega) (by omega), fB _ _ (by omega) (by omega), fB _ _ (by omega) (by omega)]
        exact c7.1 j hj
      · by_cases y : kk = v
        · subst y
          rw [hw, fA 81 (2 * (32 * dp + kk) + 1) (by omega) (by omega), fB 197 _ (by omega) (by omega), ← hA3, ← hB3, up2_s, up2_o (by omega), up2_s]
          exact ⟨Or.inl ⟨rfl, by rw [v1]⟩, v2⟩
        · rw [fA _ _ (by omega) (by omega), fA _ _ (by omega) (by omega), fB _ _ (by omega) (by omega), fB _ _ (by omega) (by omega)]
          exact c7.2 kk hk hww
    obtain ⟨A2, B2, l2, e1, e2, e3⟩ := cl_run (A1 := A3) (B1 := B3) (oa' := oa) (os' := os) (hk' := hk) (NO' := NO) (U' := U) (EV' := EV) (i' := i + 1) (t' := t) (l' := l) hP2 hZ2 h hT hc (Nat.le_refl _) (c1.of (fun a b y1 y2 => fA a b (by omega) (by omega)) (fun a b y => fB a b (by omega) (by omega))) (c2.of (fun a b y => fA a b (by omega) (by omega)) (fun a b y => fB a b (by omega) (by omega))) (fun a b y => fA a b (by omega) (by omega)) (fun a b y => fB a b (by omega) (by omega)) hpt3 hfv (by rw [← hA3]; simp (disch := omega) only [up2_o, up2_s]) (by rw [← hB3, up2_s]; rfl) hi3 hinc kfu
    refine ⟨A2, B2, ?_, ?_, Or.inl ⟨oa, os, hk, NO, U, EV, dp, m, i + 1, fr, _, l2, e3⟩⟩
    · have eA : x129 P (up2 A 68 10 (Int32.ofNat (i + 1))) (A (P + 10) (3 * (F m + i))) (A (P + 10) (3 * (F m + i) + 1)) (A (P + 10) (3 * (F m + i) + 2)) = some A3 := by
        rw [ka, ho, x129_1 (by omega)]; unfold x130; rw [if_neg (by decide), if_neg (by decide), if_neg (by decide), if_neg (by decide), if_pos (show Int32.ofNat 4 = 4 from rfl), e27, hlo, e31]
        simp (disch := omega) only [m80]
        rw [hA1 _ _ (by omega), hA3]
      rw [tnC_e hP hP2 hLk ⟨r1, r2, r3, r4, r5, r6, r7, r8, r9, r10, r11, r12⟩, eA, Option.bind_some]; exact e1
    · have eB : x238 Z B = some B3 := by
        rw [x238_e kx r4 o3 (Or.inr (Or.inr (Or.inl rfl))) c6.2.1 dp24 hv h27 hZ2, if_neg (by decide), if_neg (by decide), if_pos rfl, hB3]
      unfold tnR; rw [eB, Option.bind_some]; exact e2
  · rw [if_neg hw] at hef'; cases hef'
end
