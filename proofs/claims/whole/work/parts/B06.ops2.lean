/-! LOCALS; dup, swap, source -/
section
variable {P Z n k s : Nat} {E F G p oa os hk : Nat → Nat} {A0 B0 A B A' B' : St} {VV : Nat → Nat → Option VEn} {NO U EV dp m i c x o : Nat} {fr : Nat → FrT} {t : Nat × Nat} {l : Nat × Nat × Nat}
set_option maxHeartbeats 4000000 in
theorem x238_e (hx : x < 1333) (hpc : B 82 64 = Int32.ofNat x) (hop : B (Z + 26) x = Int32.ofNat o) (ho : o = 2 ∨ o = 3 ∨ o = 4 ∨ o = 55) (hdp : B 82 55 = Int32.ofNat dp) (hd : dp < 24) {v : Nat} (hv : v < 16) (h27 : B (Z + 27) x = Int32.ofNat v) (hZ2 : 85 ≤ Z ∧ Z ≤ 126) : x238 Z B = if o = 2 then (x239 B (B 196 (16 * dp + v)) (B 197 (16 * dp + v))).bind fun q3 => some (up2 q3 82 64 (Int32.ofNat (x + 1))) else if o = 3 then (x240 B).bind fun q4 => if inb ((16 * (q4.2 82 55)) + (q4.2 (Z + 27) x)) 384 then Lt (up2 q4.2 196 ((16 * (q4.2 82 55)) + (q4.2 (Z + 27) x)).toNatClampNeg q4.1) fun J5 => if inb ((16 * (J5 82 55)) + (J5 (Z + 27) x)) 384 then Lt (up2 J5 197 ((16 * (J5 82 55)) + (J5 (Z + 27) x)).toNatClampNeg (J5 82 66)) fun J6 => some (up2 J6 82 64 (Int32.ofNat (x + 1))) else none else none else if o = 4 then some (up2 (up2 B 196 (16 * dp + v) ((B 196 (16 * dp + v)) + (B (Z + 31) x))) 82 64 (Int32.ofNat (x + 1))) else (x239 B (B 168 v) (1 <<< (Int32.ofNat v &&& 31))).bind fun q18 => some (up2 q18 82 64 (Int32.ofNat (x + 1))) := by
  have hin : inb (Int32.ofNat x) 2400 := (i32_inb (by omega)).mpr (by omega)
  have hcl : (Int32.ofNat x).toNatClampNeg = x := i32_cl (by omega)
  have hi2 : inb (Int32.ofNat (16 * dp + v)) 384 := (i32_inb (by omega)).mpr (by omega)
  have hc2 : (Int32.ofNat (16 * dp + v)).toNatClampNeg = 16 * dp + v := i32_cl (by omega)
  have hi3 : inb (Int32.ofNat v) 16 := (i32_inb (by omega)).mpr (by omega)
  have hc3 : (Int32.ofNat v).toNatClampNeg = v := i32_cl (by omega)
  unfold x238
  rcases ho with rfl | rfl | rfl | rfl
  · simp (decide := true) only [hpc, if_pos hin, hcl, hop, i32_s, if_true, if_false, h27, hdp, i32_m16, if_pos hi2, hc2]
  · simp (decide := true) only [hpc, if_pos hin, hcl, hop, i32_s, if_true, if_false]
  · simp (decide := true) only [hpc, if_pos hin, hcl, hop, i32_s, if_true, if_false, h27, hdp, i32_m16, if_pos hi2, hc2, Lt]
  · simp (decide := true) only [hpc, if_pos hin, hcl, hop, i32_s, if_true, if_false, h27, if_pos hi3, hc3]
theorem op_2 (hP : Hid (P = 3 ∨ P = 18)) (hP2 : 3 ≤ P ∧ P ≤ 18) (hZ2 : 85 ≤ Z ∧ Z ≤ 126) (hL : Lkd P Z n k s E F G p A0 B0) (hT : ∀ m, m < k → TyM B0 Z m (F (m + 1) - F m) (F m) G (VV m)) (h : MC P Z n k s E F p A0 B0 VV oa os hk NO U EV dp m i c fr t l A B) (hc : c < 20000) (ho : opn B0 Z (F m + i) = 2) : StepOK P Z n k s E F p A0 B0 VV c A B := by
  have hkn := kno hP hZ2 hL hT h
  obtain ⟨hLk, kx, ko, kt, k16, klo, kfu, klp, kvis, ka, kb1, kF, kF2, kk, k27⟩ := hkn
  have h' := h
  obtain ⟨c1, c2, c3, ⟨r1, r2, r3, r4, r5, r6, r7, r8, r9, r10, r11, r12⟩, c5, c6, c7⟩ := h'
  obtain ⟨t', hef, hnx, hlb, htr⟩ := kvis
  have hpt : PT dp t.1 (up2 A 68 10 (Int32.ofNat (i + 1))) B := ⟨by rw [up2_o (by omega)]; exact c6.1, c6.2.1, c6.2.2.1, by rw [up2_o (by omega)]; exact c6.2.2.2.1, c6.2.2.2.2⟩
  have hA1 : ∀ a b, (a ≠ 68 ∨ (b ≠ 10 ∧ b ≠ 11)) → up2 A 68 10 (Int32.ofNat (i + 1)) a b = A a b := fun a b y => up2_o (by omega)
  have dp24 := c6.2.2.1
  have haft : aft B0 Z (F m + i) t l = l := by unfold aft; rw [if_neg (by omega)]
  obtain ⟨hi3, hinc⟩ := hnx (by omega)
  rw [haft] at hinc
  obtain ⟨o, o1, o2, o3, o4, o5, o6, -⟩ := klp
  have eo : o = 2 := by rw [kb1, ho, i32_eq (by omega) (Nat.lt_trans o1 (by decide))] at o3; exact o3.symm
  subst eo
  obtain ⟨v, hv, h27⟩ := o5 (by decide)
  have e27 : A (P + 10) (3 * (F m + i) + 1) = Int32.ofNat v := (o4 (by decide)).trans h27
  clear o4 o5 o6
  have einn : inn B0 Z (F m + i) = v := by unfold inn; rw [← k27, h27, i32_cl (by omega)]
  have hef' : (if wvl l v = 1 ∨ wvl l v = 2 then psg (wvl l v) t else none) = some t' := by
    have : efB B0 Z m (F m + i) t l = if wvl l (inn B0 Z (F m + i)) = 1 ∨ wvl l (inn B0 Z (F m + i)) = 2 then psg (wvl l (inn B0 Z (F m + i))) t else none := by unfold efB; rw [ho]; rfl
    rw [this, einn] at hef; exact hef
  by_cases hw : wvl l v = 1 ∨ wvl l v = 2
  · rw [if_pos hw] at hef'
    obtain ⟨q1, rfl⟩ := psg_y hef'
    obtain ⟨v1, v2⟩ := c7.2 v hv hw
    have hlo := loc_n hpt (k := v) hv
    refine nx_push (A1 := up2 A 68 10 (Int32.ofNat (i + 1))) (B1 := B) (h0 := t.1) (r0 := t.2) (kd := wvl l v) (v := A 81 (2 * (32 * dp + v))) (v' := B 196 (16 * dp + v)) (w := A 81 (2 * (32 * dp + v) + 1)) hP hP2 hZ2 hL hT h hc hA1 (up2_s _ _ _ _) (fun _ _ _ => rfl) hpt q1 (Nat.le_refl _) (fun _ _ => rfl) kt.2 v1 hw hi3 hinc kfu ?_ ?_
    · rw [ka, ho, x129_1 (by omega)]; unfold x130; rw [if_neg (by decide), if_neg (by decide), if_pos (show Int32.ofNat 2 = 2 from rfl), Option.bind_fun_some, e27, hlo, m80.1 _ _ (by omega), m80.2.1 _ _ (by omega), hA1 _ _ (by omega), hA1 _ _ (by omega)]
    · rw [x238_e kx r4 o3 (Or.inl rfl) c6.2.1 dp24 hv h27 hZ2, if_pos rfl, v2]
  · rw [if_neg hw] at hef'; cases hef'
theorem op_55 (hP : Hid (P = 3 ∨ P = 18)) (hP2 : 3 ≤ P ∧ P ≤ 18) (hZ2 : 85 ≤ Z ∧ Z ≤ 126) (hL : Lkd P Z n k s E F G p A0 B0) (hT : ∀ m, m < k → TyM B0 Z m (F (m + 1) - F m) (F m) G (VV m)) (h : MC P Z n k s E F p A0 B0 VV oa os hk NO U EV dp m i c fr t l A B) (hc : c < 20000) (ho : opn B0 Z (F m + i) = 55) : StepOK P Z n k s E F p A0 B0 VV c A B := by
  have hkn := kno hP hZ2 hL hT h
  obtain ⟨hLk, kx, ko, kt, k16, klo, kfu, klp, kvis, ka, kb1, kF, kF2, kk, k27⟩ := hkn
  have h' := h
  obtain ⟨c1, c2, c3, ⟨r1, r2, r3, r4, r5, r6, r7, r8, r9, r10, r11, r12⟩, c5, c6, c7⟩ := h'
  obtain ⟨t', hef, hnx, hlb, htr⟩ := kvis
  have hpt : PT dp t.1 (up2 A 68 10 (Int32.ofNat (i + 1))) B := ⟨by rw [up2_o (by omega)]; exact c6.1, c6.2.1, c6.2.2.1, by rw [up2_o (by omega)]; exact c6.2.2.2.1, c6.2.2.2.2⟩
  have hA1 : ∀ a b, (a ≠ 68 ∨ (b ≠ 10 ∧ b ≠ 11)) → up2 A 68 10 (Int32.ofNat (i + 1)) a b = A a b := fun a b y => up2_o (by omega)
  have dp24 := c6.2.2.1
  have haft : aft B0 Z (F m + i) t l = l := by unfold aft; rw [if_neg (by omega)]
  obtain ⟨hi3, hinc⟩ := hnx (by omega)
  rw [haft] at hinc
  obtain ⟨o, o1, o2, o3, o4, o5, o6, -⟩ := klp
  have eo : o = 55 := by rw [kb1, ho, i32_eq (by omega) (Nat.lt_trans o1 (by decide))] at o3; exact o3.symm
  subst eo
  obtain ⟨v, hv, h27⟩ := o5 (by decide)
  have e27 : A (P + 10) (3 * (F m + i) + 1) = Int32.ofNat v := (o4 (by decide)).trans h27
  clear o4 o5 o6
  have hef' : psg 1 t = some t' := by
    have : efB B0 Z m (F m + i) t l = (tkz [] t).bind (pso 1) := by unfold efB; rw [ho]; rfl
    rw [this] at hef; exact hef
  obtain ⟨q1, rfl⟩ := psg_y hef'
  have hin := (c2.2.2.2.2 v hv).2
  refine nx_push (A1 := up2 A 68 10 (Int32.ofNat (i + 1))) (B1 := B) (h0 := t.1) (r0 := t.2) (kd := 1) (v := A 65 v) (v' := B 168 v) (w := 1 <<< (Int32.ofNat v &&& 31)) hP hP2 hZ2 hL hT h hc hA1 (up2_s _ _ _ _) (fun _ _ _ => rfl) hpt q1 (Nat.le_refl _) (fun _ _ => rfl) kt.2 (Or.inl ⟨rfl, hin⟩) (Or.inl rfl) hi3 hinc kfu ?_ ?_
  · rw [ka, ho, x129_h (by omega) (by omega), if_neg (by decide), if_neg (by decide), if_neg (by decide), if_neg (by decide), if_neg (by decide)]; unfold x168; rw [if_neg (by decide), if_neg (by decide), if_pos (by decide), Option.bind_fun_some, e27, m64.1 _ _ hv, hA1 _ _ (by omega)]
  · rw [x238_e kx r4 o3 (Or.inr (Or.inr (Or.inr rfl))) c6.2.1 dp24 hv h27 hZ2, if_neg (by decide), if_neg (by decide), if_neg (by decide)]
theorem op_5 (hP : Hid (P = 3 ∨ P = 18)) (hP2 : 3 ≤ P ∧ P ≤ 18) (hZ2 : 85 ≤ Z ∧ Z ≤ 126) (hL : Lkd P Z n k s E F G p A0 B0) (hT : ∀ m, m < k → TyM B0 Z m (F (m + 1) - F m) (F m) G (VV m)) (h : MC P Z n k s E F p A0 B0 VV oa os hk NO U EV dp m i c fr t l A B) (hc : c < 20000) (ho : opn B0 Z (F m + i) = 5) : StepOK P Z n k s E F p A0 B0 VV c A B := by
  have hkn := kno hP hZ2 hL hT h
  obtain ⟨hLk, kx, ko, kt, k16, klo, kfu, klp, kvis, ka, kb1, kF, kF2, kk, k27⟩ := hkn
  have h' := h
  obtain ⟨c1, c2, c3, ⟨r1, r2, r3, r4, r5, r6, r7, r8, r9, r10, r11, r12⟩, c5, c6, c7⟩ := h'
  obtain ⟨t', hef, hnx, hlb, htr⟩ := kvis
  have hpt : PT dp t.1 (up2 A 68 10 (Int32.ofNat (i + 1))) B := ⟨by rw [up2_o (by omega)]; exact c6.1, c6.2.1, c6.2.2.1, by rw [up2_o (by omega)]; exact c6.2.2.2.1, c6.2.2.2.2⟩
  have hA1 : ∀ a b, (a ≠ 68 ∨ (b ≠ 10 ∧ b ≠ 11)) → up2 A 68 10 (Int32.ofNat (i + 1)) a b = A a b := fun a b y => up2_o (by omega)
  have dp24 := c6.2.2.1
  have haft : aft B0 Z (F m + i) t l = l := by unfold aft; rw [if_neg (by omega)]
  obtain ⟨hi3, hinc⟩ := hnx (by omega)
  rw [haft] at hinc
  have hef' : (tkk 0 t).bind (fun u => (psg (skd t) u).bind (psg (skd t))) = some t' := by
    have : efB B0 Z m (F m + i) t l = (tkk 0 t).bind (fun u => (psg (skd t) u).bind (psg (skd t))) := by unfold efB; rw [ho]; rfl
    rw [this] at hef; exact hef
  obtain ⟨u, g1, g2⟩ := Option.bind_eq_some_iff.mp hef'
  obtain ⟨q1, -, rfl⟩ := tkk_y g1
  obtain ⟨u2, g3, g4⟩ := Option.bind_eq_some_iff.mp g2
  obtain ⟨q3, rfl⟩ := psg_y g3
  obtain ⟨q4, rfl⟩ := psg_y g4
  have q4 : t.1 - 1 + 1 < 16 := q4
  obtain ⟨v1, v2⟩ := top_r (j := t.1 - 1) c7 (by omega)
  obtain ⟨w1, w2⟩ := val_n hpt (j := 0) (x := 0) q1 rfl
  rw [Nat.sub_zero, hA1 _ _ (by omega)] at w1 w2
  have hsk := skd_12 (t := t)
  -- the stack, popped and pushed, is the stack
  have est : sps (skd t) (spp t) = t := by
    have h2 := kt.2
    unfold sps spp skd
    dsimp only
    refine Prod.ext (by show t.1 - 1 + 1 = t.1; omega) ?_
    show (if (if t.2.testBit (t.1 - 1) = true then 2 else 1) = 2 then t.2 % 2 ^ (t.1 - 1) ||| 2 ^ (t.1 - 1) else t.2 % 2 ^ (t.1 - 1)) = t.2
    have ml : t.2 % 2 ^ (t.1 - 1) < 2 ^ (t.1 - 1) := Nat.mod_lt _ (Nat.two_pow_pos _)
    have pl : 2 ^ (t.1 - 1) < 2 ^ t.1 := Nat.pow_lt_pow_right (by decide) (by omega)
    refine tb_ext (n := t.1) ?_ h2 (fun j hj => ?_)
    · split
      · exact or_lt (Nat.lt_trans ml pl) pl
      · exact Nat.lt_trans ml pl
    · by_cases y : j = t.1 - 1
      · subst y
        cases hb : t.2.testBit (t.1 - 1)
        · simp [Nat.testBit_mod_two_pow]
        · simp [or_tb, p2_tb]
      · have y2 : j < t.1 - 1 := by omega
        have y3 : ¬ t.1 - 1 = j := by omega
        cases hb : t.2.testBit (t.1 - 1)
        · simp [Nat.testBit_mod_two_pow, y2]
        · simp [or_tb, p2_tb, Nat.testBit_mod_two_pow, y2, y3]
  rw [est] at hinc
  -- the reference pops and pushes: the same again
  obtain ⟨B1, b1, b2, b3, b4⟩ := pop1 c6 q1
  have hptB : PT dp (t.1 - 1) (up2 A 68 11 (Int32.ofNat (t.1 - 1))) B1 := ⟨by rw [up2_o (by omega)]; exact c6.1, by rw [b4 _ _ (by omega)]; exact c6.2.1, dp24, up2_s _ _ _ _, b3, by omega⟩
  have eq1 := rps_n hptB (v := B 198 (16 * dp + (t.1 - 1))) (w := B1 82 66) (by omega)
  generalize hB2 : up2 (up2 (up2 B1 198 (16 * dp + (t.1 - 1)) (B 198 (16 * dp + (t.1 - 1)))) 199 (16 * dp + (t.1 - 1)) (B1 82 66)) 82 65 (Int32.ofNat (t.1 - 1 + 1)) = B2 at eq1
  have f2 : ∀ a b, (a ≠ 82 ∨ (b ≠ 65 ∧ b ≠ 66)) → B2 a b = B a b := fun a b y => by
    rw [← hB2, up2_o (by omega)]
    by_cases y1 : a = 199 ∧ b = 16 * dp + (t.1 - 1)
    · rw [y1.1, y1.2, up2_s, b2]
    · rw [up2_o (by omega)]
      by_cases y2 : a = 198 ∧ b = 16 * dp + (t.1 - 1)
      · rw [y2.1, y2.2, up2_s]
      · rw [up2_o (by omega), b4 a b y]
  have hb65 : B2 82 65 = Int32.ofNat t.1 := by rw [← hB2, up2_s, show t.1 - 1 + 1 = t.1 by omega]
  refine nx_push (A1 := up2 A 68 10 (Int32.ofNat (i + 1))) (B1 := B2) (h0 := t.1) (r0 := t.2) (kd := skd t) (v := A 81 (2 * (32 * dp + 16 + (t.1 - 1)))) (v' := B 198 (16 * dp + (t.1 - 1))) (w := A 81 (2 * (32 * dp + 16 + (t.1 - 1)) + 1)) hP hP2 hZ2 hL hT h hc hA1 (up2_s _ _ _ _) f2 ⟨hpt.1, by rw [f2 _ _ (by omega)]; exact c6.2.1, dp24, hpt.2.2.2.1, hb65, k16⟩ (by omega) (Nat.le_refl _) (fun _ _ => rfl) kt.2 v1 hsk hi3 hinc kfu ?_ ?_
  · rw [ka, ho, x129_1 (by omega)]; unfold x130; rw [if_neg (by decide), if_neg (by decide), if_neg (by decide), if_neg (by decide), if_neg (by decide), if_pos (show Int32.ofNat 5 = 5 from rfl), Option.bind_fun_some, w1, w2]
  · rw [x238_d kx r4 kb1 ko (by omega), ho]; unfold actR; rw [if_neg (by decide), if_neg (by decide), if_pos rfl, b1, Option.bind_some]
    dsimp only
    rw [eq1, Option.bind_some, b2, v2]
end
