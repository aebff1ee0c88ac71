/-! THE NEXT STATE, with what is written elsewhere -/
section
variable {P Z n k s : Nat} {E F G p oa os hk : Nat → Nat} {A0 B0 A B A' B' : St} {VV : Nat → Nat → Option VEn} {NO U EV dp m i c x o : Nat} {fr : Nat → FrT} {t : Nat × Nat} {l : Nat × Nat × Nat}
theorem tkz_y : ∀ {ks : List Nat} {t u : Nat × Nat}, tkz ks t = some u → Sok t → ks.length ≤ t.1 ∧ u.1 = t.1 - ks.length ∧ (∀ j, j < u.1 → kbt u.2 j = kbt t.2 j) ∧ Sok u ∧ ∀ j, j < ks.length → ks.getD j 0 = 0 ∨ kbt t.2 (t.1 - 1 - j) = ks.getD j 0 := by
  intro ks
  induction ks with
  | nil =>
    intro t u h ht
    cases h
    exact ⟨Nat.zero_le _, rfl, fun _ _ => rfl, ht, fun j hj => by cases hj⟩
  | cons k ks ih =>
    intro t u h ht
    obtain ⟨v, h1, h2⟩ := Option.bind_eq_some_iff.mp h
    obtain ⟨q1, q2, rfl⟩ := tkk_y h1
    have hs := spp_ok ht
    obtain ⟨y1, y2, y3, y4, y5⟩ := ih h2 hs
    have e1 : (spp t).1 = t.1 - 1 := rfl
    rw [e1] at y1 y2 y5
    refine ⟨by rw [List.length_cons]; omega, by rw [y2, List.length_cons]; omega, fun j hj => ?_, y4, fun j hj => ?_⟩
    · rw [y3 j hj]; exact spp_k (by omega)
    · cases j with
      | zero => rw [Nat.sub_zero]; exact q2
      | succ j =>
        have := y5 j (by rw [List.length_cons] at hj; omega)
        rw [List.length_cons] at hj
        rw [spp_k (by omega)] at this
        rw [List.getD_cons_succ, show t.1 - 1 - (j + 1) = t.1 - 1 - 1 - j by omega]
        exact this
/-- a slot of the stack, d from its top, on both sides -/
theorem tp_l {z : Int32} (hpt : PT dp t.1 (up2 A 68 10 z) B) (c7 : FV NO dp t.1 t.2 l A B) {d : Nat} (hd : d < t.1) {y : Int32} (hy : y = Int32.ofNat d) : ∃ v w, x133 (up2 A 68 10 z) y = v ∧ x134 (up2 A 68 10 z) y = w ∧ VR NO (kbt t.2 (t.1 - 1 - d)) v (B 198 (16 * dp + (t.1 - 1 - d))) ∧ B 199 (16 * dp + (t.1 - 1 - d)) = w := by
  obtain ⟨v1, v2⟩ := top_r (j := t.1 - 1 - d) c7 (by omega)
  obtain ⟨w1, w2⟩ := val_n hpt hd hy
  rw [up2_o (by omega)] at w1 w2
  exact ⟨_, _, w1, w2, v1, v2.symm⟩
theorem pop3 (h0 : PT dp t.1 A B) (hh : 2 < t.1) : ∃ B1 B2 B3, x240 B = some (B 198 (16 * dp + (t.1 - 1)), B1) ∧ x240 B1 = some (B 198 (16 * dp + (t.1 - 2)), B2) ∧ x240 B2 = some (B 198 (16 * dp + (t.1 - 3)), B3) ∧ B1 82 66 = B 199 (16 * dp + (t.1 - 1)) ∧ B2 82 66 = B 199 (16 * dp + (t.1 - 2)) ∧ B3 82 66 = B 199 (16 * dp + (t.1 - 3)) ∧ B3 82 65 = Int32.ofNat (t.1 - 3) ∧ ∀ a b, (a ≠ 82 ∨ (b ≠ 65 ∧ b ≠ 66)) → B3 a b = B a b := by
  obtain ⟨B1, B2, b1, b2, b3, b4, b5, b6⟩ := pop2 h0 (by omega)
  have hpt2 : PT dp (t.1 - 2) (up2 A 68 11 (Int32.ofNat (t.1 - 2))) B2 := ⟨by rw [up2_o (by omega)]; exact h0.1, by rw [b6 _ _ (by omega)]; exact h0.2.1, h0.2.2.1, up2_s _ _ _ _, b5, by have := h0.2.2.2.2.2; omega⟩
  have e := pop_n hpt2 (by omega)
  rw [show t.1 - 2 - 1 = t.1 - 3 by omega, b6 198 _ (by omega), b6 199 _ (by omega)] at e
  exact ⟨B1, B2, _, b1, b2, e, b3, b4, up2_s _ _ _ _, by rw [up2_o (by omega), up2_s], fun a b y => by rw [up2_o (by omega), up2_o (by omega), b6 a b y]⟩
theorem nx_gp {A1 B1 : St} {oa' os' hk' : Nat → Nat} {NO' U' EV' h0 r0 kd : Nat} {v v' w : Int32} (hP : Hid (P = 3 ∨ P = 18)) (hP2 : 3 ≤ P ∧ P ≤ 18) (hZ2 : 85 ≤ Z ∧ Z ≤ 126) (hL : Lkd P Z n k s E F G p A0 B0) (hT : ∀ m, m < k → TyM B0 Z m (F (m + 1) - F m) (F m) G (VV m)) (h : MC P Z n k s E F p A0 B0 VV oa os hk NO U EV dp m i c fr t l A B) (hc : c < 20000) (hN : NO ≤ NO') (hp : PRG P Z A0 B0 A1 B1) (hg : GCo B0 Z n s p E oa' os' hk' NO' U' EV' A1 B1) (hA : ∀ a b, (a = 79 ∨ (a = 81 ∧ b < 64 * dp) ∨ (a = 68 ∧ (b = 8 ∨ b = 12 ∨ b = 14 ∨ b = 17))) → A1 a b = A a b) (hA10 : A1 68 10 = Int32.ofNat (i + 1)) (hB : ∀ a b, ((193 ≤ a ∧ a ≤ 195) ∨ ((196 ≤ a ∧ a ≤ 199) ∧ b < 16 * dp) ∨ (a = 82 ∧ (b = 34 ∨ b = 37 ∨ b = 63))) → B1 a b = B a b) (hpt : PT dp h0 A1 B1) (h16 : h0 < 16) (hfv : FV NO' dp h0 r0 l A1 B1) (hr2 : r0 < 2 ^ h0) (hv : VR NO' kd v v') (hkd : kd = 1 ∨ kd = 2) (hi3 : i + 1 < F (m + 1) - F m) (hinc : Inc (VV m) (i + 1) (sps kd (h0, r0)) l) (hful : Lful l) (eA : x129 P (up2 A 68 10 (Int32.ofNat (i + 1))) (A (P + 10) (3 * (F m + i))) (A (P + 10) (3 * (F m + i) + 1)) (A (P + 10) (3 * (F m + i) + 2)) = x131 A1 v w) (eB : x238 Z B = (x239 B1 v' w).bind fun q => some (up2 q 82 64 (Int32.ofNat (F m + i + 1)))) : StepOK P Z n k s E F p A0 B0 VV c A B := by
  have hkn := kno hP hZ2 hL hT h
  have h' := h
  obtain ⟨c1, c2, c3, c4, c5, c6, c7⟩ := h'
  rw [psh_n hpt h16] at eA
  rw [rps_n hpt h16, Option.bind_some] at eB
  generalize hA3 : up2 (up2 (up2 A1 68 11 (Int32.ofNat (h0 + 1))) 81 (2 * (32 * dp + 16 + h0)) v) 81 (2 * (32 * dp + 16 + h0) + 1) w = A3 at eA
  generalize hB3 : up2 (up2 (up2 (up2 B1 198 (16 * dp + h0) v') 199 (16 * dp + h0) w) 82 65 (Int32.ofNat (h0 + 1))) 82 64 (Int32.ofNat (F m + i + 1)) = B3 at eB
  have fA : ∀ a b, (a ≠ 68 ∨ b ≠ 11) → (a ≠ 81 ∨ (b ≠ 2 * (32 * dp + 16 + h0) ∧ b ≠ 2 * (32 * dp + 16 + h0) + 1)) → A3 a b = A1 a b := fun a b y1 y2 => by rw [← hA3, up2_o (by omega), up2_o (by omega), up2_o (by omega)]
  have fB : ∀ a b, (a ≠ 82 ∨ (b ≠ 64 ∧ b ≠ 65)) → (a < 198 ∨ 199 < a ∨ b ≠ 16 * dp + h0) → B3 a b = B1 a b := fun a b y1 y2 => by rw [← hB3, up2_o (by omega), up2_o (by omega), up2_o (by omega), up2_o (by omega)]
  have dp24 := hpt.2.2.1
  have hfv3 : FV NO' dp (sps kd (h0, r0)).1 (sps kd (h0, r0)).2 l A3 B3 := by
    refine FV.push hfv (k := kd) (v := v) (v' := v') (w := w) hv (fun j hj => ?_) ?_ ⟨?_, ?_⟩ ⟨?_, ?_⟩ (fun b y1 y2 y3 y4 => fA _ _ (by omega) (by omega)) (fun a b y1 y2 y3 y4 => fB _ _ (by omega) (by omega)) h16
    · show kbt (if kd = 2 then r0 ||| 2 ^ h0 else r0) j = kbt r0 j
      split
      · exact kbt_or (by omega)
      · rfl
    · show kbt (if kd = 2 then r0 ||| 2 ^ h0 else r0) h0 = kd
      rcases hkd with y | y
      · rw [y, if_neg (by decide)]; exact kbt_lt hr2
      · rw [y, if_pos rfl]; exact kbt_os
    · rw [← hA3, up2_o (by omega), up2_s]
    · rw [← hA3, up2_s]
    · rw [← hB3]; simp (disch := omega) only [up2_o, up2_s]
    · rw [← hB3]; simp (disch := omega) only [up2_o, up2_s]
  obtain ⟨A2, B2, l2, e1, e2, e3⟩ := cl_run (A1 := A3) (B1 := B3) (oa' := oa') (os' := os') (hk' := hk') (NO' := NO') (U' := U') (EV' := EV') (i' := i + 1) (t' := sps kd (h0, r0)) (l' := l) hP2 hZ2 h hT hc hN (hp.of (fun a b y1 y2 => fA a b (by omega) (by omega)) (fun a b y => fB a b (by omega) (by omega))) (hg.of (fun a b y => fA a b (by omega) (by omega)) (fun a b y => fB a b (by omega) (by omega))) (fun a b y => by rw [fA a b (by omega) (by omega), hA a b (by omega)]) (fun a b y => by rw [fB a b (by omega) (by omega), hB a b (by omega)]) ⟨by rw [fA _ _ (by omega) (by omega)]; exact hpt.1, by rw [fB _ _ (by omega) (by omega)]; exact hpt.2.1, dp24, by rw [← hA3, up2_o (by omega), up2_o (by omega), up2_s]; rfl, by rw [← hB3, up2_o (by omega), up2_s]; rfl, by show h0 + 1 ≤ 16; omega⟩ hfv3 (by rw [← hA3, up2_o (by omega), up2_o (by omega), up2_o (by omega)]; exact hA10) (by rw [← hB3, up2_s]; rfl) hi3 hinc hful
  refine ⟨A2, B2, ?_, ?_, Or.inl ⟨oa', os', hk', NO', U', EV', dp, m, i + 1, fr, _, l2, e3⟩⟩
  · rw [tnC_e hP hP2 hkn.1 c4, eA, Option.bind_some]; exact e1
  · unfold tnR; rw [eB, Option.bind_some]; exact e2
/-- written elsewhere, popped to h0 -/
theorem nx_gw {A1 B1 : St} {oa' os' hk' : Nat → Nat} {NO' U' EV' h0 r0 : Nat} (hP : Hid (P = 3 ∨ P = 18)) (hP2 : 3 ≤ P ∧ P ≤ 18) (hZ2 : 85 ≤ Z ∧ Z ≤ 126) (hL : Lkd P Z n k s E F G p A0 B0) (hT : ∀ m, m < k → TyM B0 Z m (F (m + 1) - F m) (F m) G (VV m)) (h : MC P Z n k s E F p A0 B0 VV oa os hk NO U EV dp m i c fr t l A B) (hc : c < 20000) (hN : NO ≤ NO') (hp : PRG P Z A0 B0 A1 B1) (hg : GCo B0 Z n s p E oa' os' hk' NO' U' EV' A1 B1) (hA : ∀ a b, (a = 79 ∨ a = 81 ∨ (a = 68 ∧ (b = 7 ∨ b = 8 ∨ b = 12 ∨ b = 14 ∨ b = 17))) → A1 a b = A a b) (hA10 : A1 68 10 = Int32.ofNat (i + 1)) (hA11 : A1 68 11 = Int32.ofNat h0) (hB : ∀ a b, ((193 ≤ a ∧ a ≤ 199) ∨ (a = 82 ∧ (b = 34 ∨ b = 37 ∨ b = 55 ∨ b = 63))) → B1 a b = B a b) (hB64 : B1 82 64 = Int32.ofNat (F m + i + 1)) (hB65 : B1 82 65 = Int32.ofNat h0) (hh : h0 ≤ t.1) (hr : ∀ j, j < h0 → kbt r0 j = kbt t.2 j) (hi3 : i + 1 < F (m + 1) - F m) (hinc : Inc (VV m) (i + 1) (h0, r0) l) (hful : Lful l) (eA : x129 P (up2 A 68 10 (Int32.ofNat (i + 1))) (A (P + 10) (3 * (F m + i))) (A (P + 10) (3 * (F m + i) + 1)) (A (P + 10) (3 * (F m + i) + 2)) = some A1) (eB : x238 Z B = some B1) : StepOK P Z n k s E F p A0 B0 VV c A B := by
  have hkn := kno hP hZ2 hL hT h
  have h' := h
  obtain ⟨c1, c2, c3, c4, c5, c6, c7⟩ := h'
  have t16 := c6.2.2.2.2.2
  obtain ⟨A2, B2, l2, e1, e2, e3⟩ := cl_run (A1 := A1) (B1 := B1) (oa' := oa') (os' := os') (hk' := hk') (NO' := NO') (U' := U') (EV' := EV') (i' := i + 1) (t' := (h0, r0)) (l' := l) hP2 hZ2 h hT hc hN hp hg (fun a b y => hA a b (by omega)) (fun a b y => hB a b (by omega)) ⟨by rw [hA _ _ (by omega)]; exact c6.1, by rw [hB _ _ (by omega)]; exact c6.2.1, c6.2.2.1, hA11, hB65, by show h0 ≤ 16; omega⟩ ((c7.of hN (fun b _ _ => hA _ _ (by omega)) (fun a b _ _ _ => hB _ _ (by omega)) t16).pop hh hr) hA10 hB64 hi3 hinc hful
  refine ⟨A2, B2, ?_, ?_, Or.inl ⟨oa', os', hk', NO', U', EV', dp, m, i + 1, fr, _, l2, e3⟩⟩
  · rw [tnC_e hP hP2 hkn.1 c4, eA, Option.bind_some]; exact e1
  · unfold tnR; rw [eB, Option.bind_some]; exact e2
end
