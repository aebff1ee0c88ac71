/-! THE NEXT STATE: pushed, popped -/
/-- ended: how, and with what -/
def EndC (P Z n s : Nat) (E p : Nat → Nat) (A0 B0 A B : St) : Prop := ∃ oa os hk NO U EV e c', PRG P Z A0 B0 A B ∧ GCo B0 Z n s p E oa os hk NO U EV A B ∧ e < 8 ∧ A 68 14 = Int32.ofNat e ∧ B 82 34 = Int32.ofNat e ∧ c' ≤ 20000 ∧ A 68 17 = Int32.ofNat c' ∧ B 82 37 = Int32.ofNat c' ∧ (e = 1 → A 68 15 = B 82 35 ∧ A 68 16 = B 82 36) ∧ ((e = 2 ∨ e = 3) → A 68 15 = B 82 35 - 1 ∧ A 68 16 = B 82 36)
def Nxt (P Z n k s : Nat) (E F p : Nat → Nat) (A0 B0 : St) (VV : Nat → Nat → Option VEn) (c : Nat) (A2 B2 : St) : Prop := (∃ oa os hk NO U EV dp m i fr t l, MC P Z n k s E F p A0 B0 VV oa os hk NO U EV dp m i (c + 1) fr t l A2 B2) ∨ EndC P Z n s E p A0 B0 A2 B2
def StepOK (P Z n k s : Nat) (E F p : Nat → Nat) (A0 B0 : St) (VV : Nat → Nat → Option VEn) (c : Nat) (A B : St) : Prop := ∃ A2 B2, tnC P A = some A2 ∧ tnR Z B = some B2 ∧ Nxt P Z n k s E F p A0 B0 VV c A2 B2
section
variable {P Z n k s : Nat} {E F G p oa os hk : Nat → Nat} {A0 B0 A B A' B' : St} {VV : Nat → Nat → Option VEn} {NO U EV dp m i c : Nat} {fr : Nat → FrT} {t : Nat × Nat} {l : Nat × Nat × Nat}
/-- what is known of the instruction -/
def Kno (P Z n k s : Nat) (E F G p : Nat → Nat) (A0 B0 : St) (VV : Nat → Nat → Option VEn) (m i : Nat) (t : Nat × Nat) (l : Nat × Nat × Nat) (A B : St) : Prop := F m + i < 1333 ∧ opn B0 Z (F m + i) < 59 ∧ Sok t ∧ t.1 ≤ 16 ∧ Lok l ∧ Lful l ∧ LP1 P Z n s k E F p m (F m + i) A B ∧ Vis B0 Z m (F (m + 1) - F m) (F m) G i t l (VV m) ∧ A (P + 10) (3 * (F m + i)) = Int32.ofNat (opn B0 Z (F m + i)) ∧ B (Z + 26) (F m + i) = Int32.ofNat (opn B0 Z (F m + i)) ∧ F m ≤ F (m + 1) ∧ F (m + 1) ≤ 1280 ∧ k ≤ 24 ∧ B (Z + 27) (F m + i) = B0 (Z + 27) (F m + i)
theorem kno (hP : Hid (P = 3 ∨ P = 18)) (hZ2 : 85 ≤ Z ∧ Z ≤ 126) (hL : Lkd P Z n k s E F G p A0 B0) (hT : ∀ m, m < k → TyM B0 Z m (F (m + 1) - F m) (F m) G (VV m)) (h : MC P Z n k s E F p A0 B0 VV oa os hk NO U EV dp m i c fr t l A B) : Lkd P Z n k s E F G p A B ∧ Kno P Z n k s E F G p A0 B0 VV m i t l A B := by
  obtain ⟨c1, c2, c3, ⟨r1, r2, r3, r4, r5, r6, r7, r8, r9, r10, r11, r12⟩, c5, c6, c7⟩ := h
  have hLk : Lkd P Z n k s E F G p A B := hL.of (fun a b y1 y2 _ => c1.1 a b y1 y2) (fun a b y => c1.2 a b (by omega))
  have hk24 : k ≤ 24 := hL.1.2.2.2.2.1
  obtain ⟨p1, -⟩ := hL.2.1.2.2.2.2.2.2.1 m r10
  have hF1280 : F (m + 1) ≤ 1280 := by
    have := mono_le (F := F) (k := k) (fun a ha => (hL.2.1.2.2.2.2.2.2.1 a ha).1) (m + 1) k (by omega) (Nat.le_refl _)
    have := hL.2.1.2.2.2.2.1
    omega
  have hlp := hLk.2.2.1 m (F m + i) r10 (by omega) (by omega)
  obtain ⟨z0, -, ty⟩ := hT m r10
  obtain ⟨y1, y2, y3, y4, y5⟩ := ty i t l r11 c5
  have hx : F m + i < 1333 := by omega
  have hlp0 := hlp
  obtain ⟨o, o1, o2, o3, -⟩ := hlp
  have e27 : B (Z + 26) (F m + i) = B0 (Z + 26) (F m + i) := c1.2 _ _ (by omega)
  have eo : opn B0 Z (F m + i) = o := by unfold opn; rw [← e27, o3, i32_cl (Nat.lt_trans o1 (by decide))]
  refine ⟨hLk, hx, by rw [eo]; exact o1, y2, y3, y4, y5, hlp0, y1, by rw [eo]; exact o2, by rw [eo]; exact o3, p1, hF1280, hk24, c1.2 _ _ (by omega)⟩
/-- after pops to height h0, a value is pushed -/
theorem nx_push {A1 B1 : St} {h0 r0 kd : Nat} {v v' w : Int32} (hP : Hid (P = 3 ∨ P = 18)) (hP2 : 3 ≤ P ∧ P ≤ 18) (hZ2 : 85 ≤ Z ∧ Z ≤ 126) (hL : Lkd P Z n k s E F G p A0 B0) (hT : ∀ m, m < k → TyM B0 Z m (F (m + 1) - F m) (F m) G (VV m)) (h : MC P Z n k s E F p A0 B0 VV oa os hk NO U EV dp m i c fr t l A B) (hc : c < 20000) (hA1 : ∀ a b, (a ≠ 68 ∨ (b ≠ 10 ∧ b ≠ 11)) → A1 a b = A a b) (hA10 : A1 68 10 = Int32.ofNat (i + 1)) (hB1 : ∀ a b, (a ≠ 82 ∨ (b ≠ 65 ∧ b ≠ 66)) → B1 a b = B a b) (hpt : PT dp h0 A1 B1) (h16 : h0 < 16) (hh : h0 ≤ t.1) (hr : ∀ j, j < h0 → kbt r0 j = kbt t.2 j) (hr2 : r0 < 2 ^ h0) (hv : VR NO kd v v') (hkd : kd = 1 ∨ kd = 2) (hi3 : i + 1 < F (m + 1) - F m) (hinc : Inc (VV m) (i + 1) (sps kd (h0, r0)) l) (hful : Lful l) (eA : x129 P (up2 A 68 10 (Int32.ofNat (i + 1))) (A (P + 10) (3 * (F m + i))) (A (P + 10) (3 * (F m + i) + 1)) (A (P + 10) (3 * (F m + i) + 2)) = x131 A1 v w) (eB : x238 Z B = (x239 B1 v' w).bind fun q => some (up2 q 82 64 (Int32.ofNat (F m + i + 1)))) : StepOK P Z n k s E F p A0 B0 VV c A B := by
  have hkn := kno hP hZ2 hL hT h
  have h' := h
  obtain ⟨c1, c2, c3, c4, c5, c6, c7⟩ := h'
  rw [psh_n hpt h16] at eA
  rw [rps_n hpt h16, Option.bind_some] at eB
  generalize hA3 : up2 (up2 (up2 A1 68 11 (Int32.ofNat (h0 + 1))) 81 (2 * (32 * dp + 16 + h0)) v) 81 (2 * (32 * dp + 16 + h0) + 1) w = A3 at eA
  generalize hB3 : up2 (up2 (up2 (up2 B1 198 (16 * dp + h0) v') 199 (16 * dp + h0) w) 82 65 (Int32.ofNat (h0 + 1))) 82 64 (Int32.ofNat (F m + i + 1)) = B3 at eB
  have fA : ∀ a b, (a ≠ 68 ∨ (b ≠ 10 ∧ b ≠ 11)) → (a ≠ 81 ∨ (b ≠ 2 * (32 * dp + 16 + h0) ∧ b ≠ 2 * (32 * dp + 16 + h0) + 1)) → A3 a b = A a b := fun a b y1 y2 => by rw [← hA3, up2_o (by omega), up2_o (by omega), up2_o (by omega), hA1 a b y1]
  have fB : ∀ a b, (a ≠ 82 ∨ (b ≠ 64 ∧ b ≠ 65 ∧ b ≠ 66)) → (a < 198 ∨ 199 < a ∨ b ≠ 16 * dp + h0) → B3 a b = B a b := fun a b y1 y2 => by rw [← hB3, up2_o (by omega), up2_o (by omega), up2_o (by omega), up2_o (by omega), hB1 a b (by omega)]
  have dp24 := hpt.2.2.1
  have hfv : FV NO dp (sps kd (h0, r0)).1 (sps kd (h0, r0)).2 l A3 B3 := by
    refine FV.push (c7.pop hh hr) (k := kd) (v := v) (v' := v') (w := w) hv (fun j hj => ?_) ?_ ⟨?_, ?_⟩ ⟨?_, ?_⟩ (fun b y1 y2 y3 y4 => fA _ _ (by omega) (by omega)) (fun a b y1 y2 y3 y4 => fB _ _ (by omega) (by omega)) h16
    · show kbt (if kd = 2 then r0 ||| 2 ^ h0 else r0) j = kbt r0 j
      split
      · exact kbt_or (by omega)
      · rfl
    · show kbt (if kd = 2 then r0 ||| 2 ^ h0 else r0) h0 = kd
      rcases hkd with y | y
      · rw [y, if_neg (by decide)]; exact kbt_lt hr2
      · rw [y, if_pos rfl]; exact kbt_os
    · rw [← hA3, up2_o (by omega), up2_s]
    · rw [← hA3, up2_s]
    · rw [← hB3]; simp (disch := omega) only [up2_o, up2_s]
    · rw [← hB3]; simp (disch := omega) only [up2_o, up2_s]
  obtain ⟨A2, B2, l2, e1, e2, e3⟩ := cl_run (A1 := A3) (B1 := B3) (oa' := oa) (os' := os) (hk' := hk) (NO' := NO) (U' := U) (EV' := EV) (i' := i + 1) (t' := sps kd (h0, r0)) (l' := l) hP2 hZ2 h hT hc (Nat.le_refl _) (c1.of (fun a b y1 y2 => fA a b (by omega) (by omega)) (fun a b y => fB a b (by omega) (by omega))) (c2.of (fun a b y => fA a b (by omega) (by omega)) (fun a b y => fB a b (by omega) (by omega))) (fun a b y => fA a b (by omega) (by omega)) (fun a b y => fB a b (by omega) (by omega)) ⟨by rw [fA _ _ (by omega) (by omega)]; exact c6.1, by rw [fB _ _ (by omega) (by omega)]; exact c6.2.1, dp24, by rw [← hA3, up2_o (by omega), up2_o (by omega), up2_s]; rfl, by rw [← hB3, up2_o (by omega), up2_s]; rfl, by show h0 + 1 ≤ 16; omega⟩ hfv (by rw [← hA3, up2_o (by omega), up2_o (by omega), up2_o (by omega)]; exact hA10) (by rw [← hB3, up2_s]; rfl) hi3 hinc hful
  refine ⟨A2, B2, ?_, ?_, Or.inl ⟨oa, os, hk, NO, U, EV, dp, m, i + 1, fr, _, l2, e3⟩⟩
  · rw [tnC_e hP hP2 hkn.1 c4, eA, Option.bind_some]; exact e1
  · unfold tnR; rw [eB, Option.bind_some]; exact e2
/-- popped to height h0; the next instruction is i' -/
theorem nx_pop {A1 B1 : St} {h0 r0 i' : Nat} (hP : Hid (P = 3 ∨ P = 18)) (hP2 : 3 ≤ P ∧ P ≤ 18) (hZ2 : 85 ≤ Z ∧ Z ≤ 126) (hL : Lkd P Z n k s E F G p A0 B0) (hT : ∀ m, m < k → TyM B0 Z m (F (m + 1) - F m) (F m) G (VV m)) (h : MC P Z n k s E F p A0 B0 VV oa os hk NO U EV dp m i c fr t l A B) (hc : c < 20000) (hA1 : ∀ a b, (a ≠ 68 ∨ (b ≠ 10 ∧ b ≠ 11)) → A1 a b = A a b) (hA10 : A1 68 10 = Int32.ofNat i') (hB1 : ∀ a b, (a ≠ 82 ∨ (b ≠ 64 ∧ b ≠ 65 ∧ b ≠ 66)) → B1 a b = B a b) (hB64 : B1 82 64 = Int32.ofNat (F m + i')) (hpt : PT dp h0 A1 B1) (hh : h0 ≤ t.1) (hr : ∀ j, j < h0 → kbt r0 j = kbt t.2 j) (hi3 : i' < F (m + 1) - F m) (hinc : Inc (VV m) i' (h0, r0) l) (hful : Lful l) (eA : x129 P (up2 A 68 10 (Int32.ofNat (i + 1))) (A (P + 10) (3 * (F m + i))) (A (P + 10) (3 * (F m + i) + 1)) (A (P + 10) (3 * (F m + i) + 2)) = some A1) (eB : x238 Z B = some B1) : StepOK P Z n k s E F p A0 B0 VV c A B := by
  have hkn := kno hP hZ2 hL hT h
  have h' := h
  obtain ⟨c1, c2, c3, c4, c5, c6, c7⟩ := h'
  obtain ⟨A2, B2, l2, e1, e2, e3⟩ := cl_run (A1 := A1) (B1 := B1) (oa' := oa) (os' := os) (hk' := hk) (NO' := NO) (U' := U) (EV' := EV) (i' := i') (t' := (h0, r0)) (l' := l) hP2 hZ2 h hT hc (Nat.le_refl _) (c1.of (fun a b y1 y2 => hA1 a b (by omega)) (fun a b y => hB1 a b (by omega))) (c2.of (fun a b y => hA1 a b (by omega)) (fun a b y => hB1 a b (by omega))) (fun a b y => hA1 a b (by omega)) (fun a b y => hB1 a b (by omega)) hpt ((c7.pop hh hr).of (Nat.le_refl _) (fun b _ _ => hA1 _ _ (by omega)) (fun a b _ _ _ => hB1 _ _ (by omega)) hpt.2.2.2.2.2) hA10 hB64 hi3 hinc hful
  refine ⟨A2, B2, ?_, ?_, Or.inl ⟨oa, os, hk, NO, U, EV, dp, m, i', fr, _, l2, e3⟩⟩
  · rw [tnC_e hP hP2 hkn.1 c4, eA, Option.bind_some]; exact e1
  · unfold tnR; rw [eB, Option.bind_some]; exact e2
end
