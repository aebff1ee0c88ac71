/-! STACK INSTRUCTIONS -/
theorem psg_y {k : Nat} {t t' : Nat × Nat} (h : psg k t = some t') : t.1 < 16 ∧ t' = sps k t := by
  unfold psg at h
  split at h
  · rename_i z; cases h; exact ⟨z, rfl⟩
  · cases h
section
variable {P Z n k s : Nat} {E F G p oa os hk : Nat → Nat} {A0 B0 A B A' B' : St} {VV : Nat → Nat → Option VEn} {NO U EV dp m i c : Nat} {fr : Nat → FrT} {t : Nat × Nat} {l : Nat × Nat × Nat}
/-- the top of the stack on both sides, after j pops -/
theorem top_r (h0 : FV NO dp t.1 t.2 l A B) {j : Nat} (hj : j < t.1) : VR NO (kbt t.2 j) (A 81 (2 * (32 * dp + 16 + j))) (B 198 (16 * dp + j)) ∧ A 81 (2 * (32 * dp + 16 + j) + 1) = B 199 (16 * dp + j) := h0.1 j hj
/-- the reference, one value popped -/
theorem pop1 (h0 : PT dp t.1 A B) (hh : 0 < t.1) : ∃ B1, x240 B = some (B 198 (16 * dp + (t.1 - 1)), B1) ∧ B1 82 66 = B 199 (16 * dp + (t.1 - 1)) ∧ B1 82 65 = Int32.ofNat (t.1 - 1) ∧ ∀ a b, (a ≠ 82 ∨ (b ≠ 65 ∧ b ≠ 66)) → B1 a b = B a b := ⟨_, pop_n h0 hh, up2_s _ _ _ _, by rw [up2_o (by omega), up2_s], fun a b y => by rw [up2_o (by omega), up2_o (by omega)]⟩
theorem spp_k {t : Nat × Nat} {j : Nat} (hj : j < t.1 - 1) : kbt (spp t).2 j = kbt t.2 j := kbt_mod hj
theorem op_0 (hP : Hid (P = 3 ∨ P = 18)) (hP2 : 3 ≤ P ∧ P ≤ 18) (hZ2 : 85 ≤ Z ∧ Z ≤ 126) (hL : Lkd P Z n k s E F G p A0 B0) (hT : ∀ m, m < k → TyM B0 Z m (F (m + 1) - F m) (F m) G (VV m)) (h : MC P Z n k s E F p A0 B0 VV oa os hk NO U EV dp m i c fr t l A B) (hc : c < 20000) (ho : opn B0 Z (F m + i) = 0) : StepOK P Z n k s E F p A0 B0 VV c A B := by
  have hkn := kno hP hZ2 hL hT h
  obtain ⟨hLk, kx, ko, kt, k16, klo, kfu, klp, kvis, ka, kb1, kF, kF2, kk, k27⟩ := hkn
  have h' := h
  obtain ⟨c1, c2, c3, ⟨r1, r2, r3, r4, r5, r6, r7, r8, r9, r10, r11, r12⟩, c5, c6, c7⟩ := h'
  obtain ⟨t', hef, hnx, hlb, htr⟩ := kvis
  have hpt : PT dp t.1 (up2 A 68 10 (Int32.ofNat (i + 1))) B := ⟨by rw [up2_o (by omega)]; exact c6.1, c6.2.1, c6.2.2.1, by rw [up2_o (by omega)]; exact c6.2.2.2.1, c6.2.2.2.2⟩
  have hA1 : ∀ a b, (a ≠ 68 ∨ (b ≠ 10 ∧ b ≠ 11)) → up2 A 68 10 (Int32.ofNat (i + 1)) a b = A a b := fun a b y => up2_o (by omega)
  have dp24 := c6.2.2.1
  have haft : aft B0 Z (F m + i) t l = l := by unfold aft; rw [if_neg (by omega)]
  obtain ⟨hi3, hinc⟩ := hnx (by omega)
  rw [haft] at hinc
  have hef' : psg 1 t = some t' := by
    have : efB B0 Z m (F m + i) t l = (tkz [] t).bind (pso 1) := by unfold efB; rw [ho]; rfl
    rw [this] at hef; exact hef
  obtain ⟨q1, rfl⟩ := psg_y hef'
  obtain ⟨o, o1, o2, o3, o4, -⟩ := klp
  have eo : o = 0 := by rw [kb1, ho, i32_eq (by omega) (by omega)] at o3; exact o3.symm
  subst eo
  refine nx_push (A1 := up2 A 68 10 (Int32.ofNat (i + 1))) (B1 := B) (h0 := t.1) (r0 := t.2) (kd := 1) (v := A (P + 10) (3 * (F m + i) + 1)) (v' := B (Z + 27) (F m + i)) (w := 0) hP hP2 hZ2 hL hT h hc hA1 (up2_s _ _ _ _) (fun _ _ _ => rfl) hpt q1 (Nat.le_refl _) (fun _ _ => rfl) kt.2 (Or.inl ⟨rfl, o4 (Or.inl rfl)⟩) (Or.inl rfl) hi3 hinc kfu ?_ ?_
  · rw [ka, ho, x129_1 (by omega)]; unfold x130; rw [if_pos (show Int32.ofNat 0 = 0 from rfl), Option.bind_fun_some]
  · rw [x238_d kx r4 kb1 ko (by omega), ho]; unfold actR; rw [if_pos rfl]
theorem op_1 (hP : Hid (P = 3 ∨ P = 18)) (hP2 : 3 ≤ P ∧ P ≤ 18) (hZ2 : 85 ≤ Z ∧ Z ≤ 126) (hL : Lkd P Z n k s E F G p A0 B0) (hT : ∀ m, m < k → TyM B0 Z m (F (m + 1) - F m) (F m) G (VV m)) (h : MC P Z n k s E F p A0 B0 VV oa os hk NO U EV dp m i c fr t l A B) (hc : c < 20000) (ho : opn B0 Z (F m + i) = 1) : StepOK P Z n k s E F p A0 B0 VV c A B := by
  have hkn := kno hP hZ2 hL hT h
  obtain ⟨hLk, kx, ko, kt, k16, klo, kfu, klp, kvis, ka, kb1, kF, kF2, kk, k27⟩ := hkn
  have h' := h
  obtain ⟨c1, c2, c3, ⟨r1, r2, r3, r4, r5, r6, r7, r8, r9, r10, r11, r12⟩, c5, c6, c7⟩ := h'
  obtain ⟨t', hef, hnx, hlb, htr⟩ := kvis
  have hpt : PT dp t.1 (up2 A 68 10 (Int32.ofNat (i + 1))) B := ⟨by rw [up2_o (by omega)]; exact c6.1, c6.2.1, c6.2.2.1, by rw [up2_o (by omega)]; exact c6.2.2.2.1, c6.2.2.2.2⟩
  have hA1 : ∀ a b, (a ≠ 68 ∨ (b ≠ 10 ∧ b ≠ 11)) → up2 A 68 10 (Int32.ofNat (i + 1)) a b = A a b := fun a b y => up2_o (by omega)
  have dp24 := c6.2.2.1
  have haft : aft B0 Z (F m + i) t l = l := by unfold aft; rw [if_neg (by omega)]
  obtain ⟨hi3, hinc⟩ := hnx (by omega)
  rw [haft] at hinc
  have hef' : psg 2 t = some t' := by
    have : efB B0 Z m (F m + i) t l = (tkz [] t).bind (pso 2) := by unfold efB; rw [ho]; rfl
    rw [this] at hef; exact hef
  obtain ⟨q1, rfl⟩ := psg_y hef'
  refine nx_push (A1 := up2 A 68 10 (Int32.ofNat (i + 1))) (B1 := B) (h0 := t.1) (r0 := t.2) (kd := 2) (v := -1) (v' := 0) (w := 0) hP hP2 hZ2 hL hT h hc hA1 (up2_s _ _ _ _) (fun _ _ _ => rfl) hpt q1 (Nat.le_refl _) (fun _ _ => rfl) kt.2 (Or.inr ⟨rfl, Or.inl ⟨rfl, rfl⟩⟩) (Or.inr rfl) hi3 hinc kfu ?_ ?_
  · rw [ka, ho, x129_1 (by omega)]; unfold x130; rw [if_neg (by decide), if_pos (show Int32.ofNat 1 = 1 from rfl), Option.bind_fun_some]
  · rw [x238_d kx r4 kb1 ko (by omega), ho]; unfold actR; rw [if_neg (by decide), if_pos rfl]
theorem op_6 (hP : Hid (P = 3 ∨ P = 18)) (hP2 : 3 ≤ P ∧ P ≤ 18) (hZ2 : 85 ≤ Z ∧ Z ≤ 126) (hL : Lkd P Z n k s E F G p A0 B0) (hT : ∀ m, m < k → TyM B0 Z m (F (m + 1) - F m) (F m) G (VV m)) (h : MC P Z n k s E F p A0 B0 VV oa os hk NO U EV dp m i c fr t l A B) (hc : c < 20000) (ho : opn B0 Z (F m + i) = 6) : StepOK P Z n k s E F p A0 B0 VV c A B := by
  have hkn := kno hP hZ2 hL hT h
  obtain ⟨hLk, kx, ko, kt, k16, klo, kfu, klp, kvis, ka, kb1, kF, kF2, kk, k27⟩ := hkn
  have h' := h
  obtain ⟨c1, c2, c3, ⟨r1, r2, r3, r4, r5, r6, r7, r8, r9, r10, r11, r12⟩, c5, c6, c7⟩ := h'
  obtain ⟨t', hef, hnx, hlb, htr⟩ := kvis
  have hpt : PT dp t.1 (up2 A 68 10 (Int32.ofNat (i + 1))) B := ⟨by rw [up2_o (by omega)]; exact c6.1, c6.2.1, c6.2.2.1, by rw [up2_o (by omega)]; exact c6.2.2.2.1, c6.2.2.2.2⟩
  have hA1 : ∀ a b, (a ≠ 68 ∨ (b ≠ 10 ∧ b ≠ 11)) → up2 A 68 10 (Int32.ofNat (i + 1)) a b = A a b := fun a b y => up2_o (by omega)
  have dp24 := c6.2.2.1
  have haft : aft B0 Z (F m + i) t l = l := by unfold aft; rw [if_neg (by omega)]
  obtain ⟨hi3, hinc⟩ := hnx (by omega)
  rw [haft] at hinc
  have hef' : tkk 0 t = some t' := by
    have : efB B0 Z m (F m + i) t l = ((tkk 0 t).bind (tkz [])).bind (pso 0) := by unfold efB; rw [ho]; rfl
    rw [this] at hef
    cases z : tkk 0 t with
    | none => rw [z] at hef; cases hef
    | some u => rw [z] at hef; exact hef
  obtain ⟨q1, -, rfl⟩ := tkk_y hef'
  obtain ⟨B1, b1, b2, b3, b4⟩ := pop1 c6 q1
  refine nx_pop (A1 := up2 (up2 A 68 10 (Int32.ofNat (i + 1))) 68 11 (Int32.ofNat (t.1 - 1))) (B1 := up2 B1 82 64 (Int32.ofNat (F m + i + 1))) (h0 := t.1 - 1) (r0 := (spp t).2) (i' := i + 1) hP hP2 hZ2 hL hT h hc (fun a b y => by rw [up2_o (by omega), up2_o (by omega)]) (by rw [up2_o (by omega), up2_s]) (fun a b y => by rw [up2_o (by omega), b4 a b (by omega)]) (by rw [up2_s]; rfl) ⟨by rw [up2_o (by omega)]; exact hpt.1, by rw [up2_o (by omega), b4 _ _ (by omega)]; exact c6.2.1, dp24, up2_s _ _ _ _, by rw [up2_o (by omega)]; exact b3, by omega⟩ (by omega) (fun j hj => spp_k hj) hi3 hinc kfu ?_ ?_
  · rw [ka, ho, x129_1 (by omega)]; unfold x130; rw [if_neg (by decide), if_neg (by decide), if_neg (by decide), if_neg (by decide), if_neg (by decide), if_neg (by decide), if_pos (show Int32.ofNat 6 = 6 from rfl), Option.bind_fun_some, drp_n hpt (j := 1) (x := 1) (by omega) rfl]
  · rw [x238_d kx r4 kb1 ko (by omega), ho]; unfold actR; rw [if_neg (by decide), if_neg (by decide), if_neg (by decide), if_pos rfl, b1, Option.bind_some]
theorem op_19 (hP : Hid (P = 3 ∨ P = 18)) (hP2 : 3 ≤ P ∧ P ≤ 18) (hZ2 : 85 ≤ Z ∧ Z ≤ 126) (hL : Lkd P Z n k s E F G p A0 B0) (hT : ∀ m, m < k → TyM B0 Z m (F (m + 1) - F m) (F m) G (VV m)) (h : MC P Z n k s E F p A0 B0 VV oa os hk NO U EV dp m i c fr t l A B) (hc : c < 20000) (ho : opn B0 Z (F m + i) = 19) : StepOK P Z n k s E F p A0 B0 VV c A B := by
  have hkn := kno hP hZ2 hL hT h
  obtain ⟨hLk, kx, ko, kt, k16, klo, kfu, klp, kvis, ka, kb1, kF, kF2, kk, k27⟩ := hkn
  have h' := h
  obtain ⟨c1, c2, c3, ⟨r1, r2, r3, r4, r5, r6, r7, r8, r9, r10, r11, r12⟩, c5, c6, c7⟩ := h'
  obtain ⟨t', hef, hnx, hlb, htr⟩ := kvis
  have hpt : PT dp t.1 (up2 A 68 10 (Int32.ofNat (i + 1))) B := ⟨by rw [up2_o (by omega)]; exact c6.1, c6.2.1, c6.2.2.1, by rw [up2_o (by omega)]; exact c6.2.2.2.1, c6.2.2.2.2⟩
  have hA1 : ∀ a b, (a ≠ 68 ∨ (b ≠ 10 ∧ b ≠ 11)) → up2 A 68 10 (Int32.ofNat (i + 1)) a b = A a b := fun a b y => up2_o (by omega)
  have dp24 := c6.2.2.1
  have haft : aft B0 Z (F m + i) t l = l := by unfold aft; rw [if_neg (by omega)]
  obtain ⟨hi3, hinc⟩ := hnx (by omega)
  rw [haft] at hinc
  have hef' : (tkk 1 t).bind (psg 1) = some t' := by
    have : efB B0 Z m (F m + i) t l = ((tkk 1 t).bind (tkz [])).bind (pso 1) := by unfold efB; rw [ho]; rfl
    rw [this] at hef
    cases z : tkk 1 t with
    | none => rw [z] at hef; cases hef
    | some u => rw [z] at hef; exact hef
  obtain ⟨u, g1, g2⟩ := Option.bind_eq_some_iff.mp hef'
  obtain ⟨q1, q2, rfl⟩ := tkk_y g1
  obtain ⟨q3, rfl⟩ := psg_y g2
  have q2 : kbt t.2 (t.1 - 1) = 1 := q2.resolve_left (by decide)
  obtain ⟨B1, b1, b2, b3, b4⟩ := pop1 c6 q1
  obtain ⟨v1, v2⟩ := top_r (j := t.1 - 1) c7 (by omega)
  rw [q2] at v1
  have v1 := v1.i
  obtain ⟨w1, w2⟩ := val_n hpt (j := 0) (x := 0) q1 rfl
  rw [Nat.sub_zero, hA1 _ _ (by omega)] at w1 w2
  obtain ⟨o, o1, o2, o3, o4, -⟩ := klp
  have eo : o = 19 := by rw [kb1, ho, i32_eq (by omega) (by omega)] at o3; exact o3.symm
  subst eo
  refine nx_push (A1 := up2 (up2 A 68 10 (Int32.ofNat (i + 1))) 68 11 (Int32.ofNat (t.1 - 1))) (B1 := B1) (h0 := t.1 - 1) (r0 := (spp t).2) (kd := 1) (v := -(A 81 (2 * (32 * dp + 16 + (t.1 - 1))))) (v' := -(B 198 (16 * dp + (t.1 - 1)))) (w := A 81 (2 * (32 * dp + 16 + (t.1 - 1)) + 1)) hP hP2 hZ2 hL hT h hc (fun a b y => by rw [up2_o (by omega), up2_o (by omega)]) (by rw [up2_o (by omega), up2_s]) b4 ⟨by rw [up2_o (by omega)]; exact hpt.1, by rw [b4 _ _ (by omega)]; exact c6.2.1, dp24, up2_s _ _ _ _, b3, by omega⟩ q3 (by omega) (fun j hj => spp_k hj) (spp_ok kt).2 (Or.inl ⟨rfl, by rw [v1]⟩) (Or.inl rfl) hi3 hinc kfu ?_ ?_
  · rw [ka, ho, x129_h (by omega) (by omega), if_pos rfl, w1, w2]; unfold x136; rw [drp_n hpt (j := 1) (x := 1) (by omega) rfl, Option.bind_some, Option.bind_fun_some]
  · rw [x238_d kx r4 kb1 ko (by omega), ho]; unfold actR; rw [if_neg (by decide), if_neg (by decide), if_neg (by decide), if_neg (by decide), if_neg (by decide), if_pos rfl, b1, Option.bind_some]
    dsimp only
    rw [b2, v2]
theorem op_57 (hP : Hid (P = 3 ∨ P = 18)) (hP2 : 3 ≤ P ∧ P ≤ 18) (hZ2 : 85 ≤ Z ∧ Z ≤ 126) (hL : Lkd P Z n k s E F G p A0 B0) (hT : ∀ m, m < k → TyM B0 Z m (F (m + 1) - F m) (F m) G (VV m)) (h : MC P Z n k s E F p A0 B0 VV oa os hk NO U EV dp m i c fr t l A B) (hc : c < 20000) (ho : opn B0 Z (F m + i) = 57) : StepOK P Z n k s E F p A0 B0 VV c A B := by
  have hkn := kno hP hZ2 hL hT h
  obtain ⟨hLk, kx, ko, kt, k16, klo, kfu, klp, kvis, ka, kb1, kF, kF2, kk, k27⟩ := hkn
  have h' := h
  obtain ⟨c1, c2, c3, ⟨r1, r2, r3, r4, r5, r6, r7, r8, r9, r10, r11, r12⟩, c5, c6, c7⟩ := h'
  obtain ⟨t', hef, hnx, hlb, htr⟩ := kvis
  have hpt : PT dp t.1 (up2 A 68 10 (Int32.ofNat (i + 1))) B := ⟨by rw [up2_o (by omega)]; exact c6.1, c6.2.1, c6.2.2.1, by rw [up2_o (by omega)]; exact c6.2.2.2.1, c6.2.2.2.2⟩
  have hA1 : ∀ a b, (a ≠ 68 ∨ (b ≠ 10 ∧ b ≠ 11)) → up2 A 68 10 (Int32.ofNat (i + 1)) a b = A a b := fun a b y => up2_o (by omega)
  have dp24 := c6.2.2.1
  have haft : aft B0 Z (F m + i) t l = l := by unfold aft; rw [if_neg (by omega)]
  obtain ⟨hi3, hinc⟩ := hnx (by omega)
  rw [haft] at hinc
  have hef' : (tkk 1 t).bind (psg 1) = some t' := by
    have : efB B0 Z m (F m + i) t l = ((tkk 1 t).bind (tkz [])).bind (pso 1) := by unfold efB; rw [ho]; rfl
    rw [this] at hef
    cases z : tkk 1 t with
    | none => rw [z] at hef; cases hef
    | some u => rw [z] at hef; exact hef
  obtain ⟨u, g1, g2⟩ := Option.bind_eq_some_iff.mp hef'
  obtain ⟨q1, q2, rfl⟩ := tkk_y g1
  obtain ⟨q3, rfl⟩ := psg_y g2
  have q2 : kbt t.2 (t.1 - 1) = 1 := q2.resolve_left (by decide)
  obtain ⟨B1, b1, b2, b3, b4⟩ := pop1 c6 q1
  obtain ⟨v1, v2⟩ := top_r (j := t.1 - 1) c7 (by omega)
  rw [q2] at v1
  have v1 := v1.i
  obtain ⟨w1, w2⟩ := val_n hpt (j := 0) (x := 0) q1 rfl
  rw [Nat.sub_zero, hA1 _ _ (by omega)] at w1 w2
  obtain ⟨o, o1, o2, o3, o4, -⟩ := klp
  have eo : o = 57 := by rw [kb1, ho, i32_eq (by omega) (by omega)] at o3; exact o3.symm
  subst eo
  have e27 : A (P + 10) (3 * (F m + i) + 1) = B (Z + 27) (F m + i) := o4 (by decide)
  refine nx_push (A1 := up2 (up2 A 68 10 (Int32.ofNat (i + 1))) 68 11 (Int32.ofNat (t.1 - 1))) (B1 := B1) (h0 := t.1 - 1) (r0 := (spp t).2) (kd := 1) (v := A 81 (2 * (32 * dp + 16 + (t.1 - 1)))) (v' := B 198 (16 * dp + (t.1 - 1))) (w := A 81 (2 * (32 * dp + 16 + (t.1 - 1)) + 1) &&& (A (P + 10) (3 * (F m + i) + 1) ^^^ (-1))) hP hP2 hZ2 hL hT h hc (fun a b y => by rw [up2_o (by omega), up2_o (by omega)]) (by rw [up2_o (by omega), up2_s]) b4 ⟨by rw [up2_o (by omega)]; exact hpt.1, by rw [b4 _ _ (by omega)]; exact c6.2.1, dp24, up2_s _ _ _ _, b3, by omega⟩ q3 (by omega) (fun j hj => spp_k hj) (spp_ok kt).2 (Or.inl ⟨rfl, v1⟩) (Or.inl rfl) hi3 hinc kfu ?_ ?_
  · rw [ka, ho, x129_h (by omega) (by omega), if_neg (by decide), if_neg (by decide), if_neg (by decide), if_neg (by decide), if_neg (by decide)]; unfold x168; rw [if_neg (by decide), if_neg (by decide), if_neg (by decide), if_neg (by decide), if_pos (by decide), w1, w2]; unfold x136; rw [drp_n hpt (j := 1) (x := 1) (by omega) rfl, Option.bind_some]; simp only [Option.bind_fun_some]
  · rw [x238_d kx r4 kb1 ko (by omega), ho]; unfold actR; rw [if_neg (by decide), if_neg (by decide), if_neg (by decide), if_neg (by decide), if_neg (by decide), if_neg (by decide), if_pos rfl, b1, Option.bind_some]
    dsimp only
    rw [b2, v2, b4 (Z + 27) _ (by omega), e27]
theorem op_58 (hP : Hid (P = 3 ∨ P = 18)) (hP2 : 3 ≤ P ∧ P ≤ 18) (hZ2 : 85 ≤ Z ∧ Z ≤ 126) (hL : Lkd P Z n k s E F G p A0 B0) (hT : ∀ m, m < k → TyM B0 Z m (F (m + 1) - F m) (F m) G (VV m)) (h : MC P Z n k s E F p A0 B0 VV oa os hk NO U EV dp m i c fr t l A B) (hc : c < 20000) (ho : opn B0 Z (F m + i) = 58) : StepOK P Z n k s E F p A0 B0 VV c A B := by
  have hkn := kno hP hZ2 hL hT h
  obtain ⟨hLk, kx, ko, kt, k16, klo, kfu, klp, kvis, ka, kb1, kF, kF2, kk, k27⟩ := hkn
  have h' := h
  obtain ⟨c1, c2, c3, ⟨r1, r2, r3, r4, r5, r6, r7, r8, r9, r10, r11, r12⟩, c5, c6, c7⟩ := h'
  obtain ⟨t', hef, hnx, hlb, htr⟩ := kvis
  have hpt : PT dp t.1 (up2 A 68 10 (Int32.ofNat (i + 1))) B := ⟨by rw [up2_o (by omega)]; exact c6.1, c6.2.1, c6.2.2.1, by rw [up2_o (by omega)]; exact c6.2.2.2.1, c6.2.2.2.2⟩
  have hA1 : ∀ a b, (a ≠ 68 ∨ (b ≠ 10 ∧ b ≠ 11)) → up2 A 68 10 (Int32.ofNat (i + 1)) a b = A a b := fun a b y => up2_o (by omega)
  have dp24 := c6.2.2.1
  have haft : aft B0 Z (F m + i) t l = l := by unfold aft; rw [if_neg (by omega)]
  obtain ⟨hi3, hinc⟩ := hnx (by omega)
  rw [haft] at hinc
  have hef' : (tkk 1 t).bind (psg 1) = some t' := by
    have : efB B0 Z m (F m + i) t l = ((tkk 1 t).bind (tkz [])).bind (pso 1) := by unfold efB; rw [ho]; rfl
    rw [this] at hef
    cases z : tkk 1 t with
    | none => rw [z] at hef; cases hef
    | some u => rw [z] at hef; exact hef
  obtain ⟨u, g1, g2⟩ := Option.bind_eq_some_iff.mp hef'
  obtain ⟨q1, q2, rfl⟩ := tkk_y g1
  obtain ⟨q3, rfl⟩ := psg_y g2
  have q2 : kbt t.2 (t.1 - 1) = 1 := q2.resolve_left (by decide)
  obtain ⟨B1, b1, b2, b3, b4⟩ := pop1 c6 q1
  obtain ⟨v1, v2⟩ := top_r (j := t.1 - 1) c7 (by omega)
  rw [q2] at v1
  have v1 := v1.i
  obtain ⟨w1, w2⟩ := val_n hpt (j := 0) (x := 0) q1 rfl
  rw [Nat.sub_zero, hA1 _ _ (by omega)] at w1 w2
  obtain ⟨o, o1, o2, o3, o4, -⟩ := klp
  have eo : o = 58 := by rw [kb1, ho, i32_eq (by omega) (by omega)] at o3; exact o3.symm
  subst eo
  have e27 : A (P + 10) (3 * (F m + i) + 1) = B (Z + 27) (F m + i) := o4 (by decide)
  refine nx_push (A1 := up2 (up2 A 68 10 (Int32.ofNat (i + 1))) 68 11 (Int32.ofNat (t.1 - 1))) (B1 := B1) (h0 := t.1 - 1) (r0 := (spp t).2) (kd := 1) (v := A 81 (2 * (32 * dp + 16 + (t.1 - 1)))) (v' := B 198 (16 * dp + (t.1 - 1))) (w := A 81 (2 * (32 * dp + 16 + (t.1 - 1)) + 1) ||| A (P + 10) (3 * (F m + i) + 1)) hP hP2 hZ2 hL hT h hc (fun a b y => by rw [up2_o (by omega), up2_o (by omega)]) (by rw [up2_o (by omega), up2_s]) b4 ⟨by rw [up2_o (by omega)]; exact hpt.1, by rw [b4 _ _ (by omega)]; exact c6.2.1, dp24, up2_s _ _ _ _, b3, by omega⟩ q3 (by omega) (fun j hj => spp_k hj) (spp_ok kt).2 (Or.inl ⟨rfl, v1⟩) (Or.inl rfl) hi3 hinc kfu ?_ ?_
  · rw [ka, ho, x129_h (by omega) (by omega), if_neg (by decide), if_neg (by decide), if_neg (by decide), if_neg (by decide), if_neg (by decide)]; unfold x168; rw [if_neg (by decide), if_neg (by decide), if_neg (by decide), if_neg (by decide), if_neg (by decide), w1, w2]; unfold x136; rw [drp_n hpt (j := 1) (x := 1) (by omega) rfl, Option.bind_some]; simp only [Option.bind_fun_some]
  · rw [x238_d kx r4 kb1 ko (by omega), ho]; unfold actR; rw [if_neg (by decide), if_neg (by decide), if_neg (by decide), if_neg (by decide), if_neg (by decide), if_neg (by decide), if_neg (by decide), if_pos rfl, b1, Option.bind_some]
    dsimp only
    rw [b2, v2, b4 (Z + 27) _ (by omega), e27]
end
