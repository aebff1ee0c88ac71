/-! FAULTS, LIMITS -/
/-- kinds of slots, with new ones from U on -/
def nhk (hk kf : Nat → Nat) (U : Nat) : Nat → Nat := fun j => if j < U then hk j else kf (j - U)
section
variable {P Z n k s : Nat} {E F G p oa os hk : Nat → Nat} {A0 B0 A B A' B' : St} {VV : Nat → Nat → Option VEn} {NO U EV dp m i c x o : Nat} {fr : Nat → FrT} {t : Nat × Nat} {l : Nat × Nat × Nat}
/-- a new thing, all coupled -/
theorem GCo.mk {kf : Nat → Nat} {sz : Nat} {v : Int32} (h : GCo B0 Z n s p E oa os hk NO U EV A B) (hs : NO + U + 1 + sz ≤ 3000) (hA : ∀ a b, ((a ≠ 70 ∧ a ≠ 72) ∨ b ≠ 3) → (a ≠ 71 ∨ b < 4 * NO ∨ 4 * NO + 4 ≤ b) → (a ≠ 73 ∨ b < 2 * U ∨ 2 * (U + sz) ≤ b) → (a = 71 ∨ a = 73 ∨ a = 75 ∨ (a = 76 ∧ b = 3) ∨ a = 77 ∨ (a = 68 ∧ b = 18) ∨ (a = 61 ∧ b = 0) ∨ a = 63 ∨ a = 65) → A' a b = A a b) (hB : ∀ a b, (a ≠ 82 ∨ (b ≠ 40 ∧ b ≠ 41 ∧ b ≠ 48)) → (a < 181 ∨ 184 < a ∨ b ≠ NO) → ((a ≠ 185 ∧ a ≠ 186) ∨ b < U ∨ U + sz ≤ b) → ((181 ≤ a ∧ a ≤ 192) ∨ a = 167 ∨ a = 168 ∨ (a = 82 ∧ (b = 6 ∨ b = 38 ∨ b = 39))) → B' a b = B a b) (a1 : A' 70 3 = Int32.ofNat (NO + 1)) (a2 : A' 72 3 = Int32.ofNat (U + sz)) (a3 : A' 71 (4 * NO) = v) (a4 : A' 71 (4 * NO + 1) = Int32.ofNat U) (a5 : A' 71 (4 * NO + 2) = Int32.ofNat sz) (a6 : A' 71 (4 * NO + 3) = B' 184 NO) (b1 : B' 82 40 = Int32.ofNat (NO + 1)) (b2 : B' 82 48 = Int32.ofNat (U + sz)) (b3 : B' 82 41 = Int32.ofNat (NO + 1 + (U + sz))) (b4 : B' 181 NO = v) (b5 : B' 182 NO = Int32.ofNat U) (b6 : B' 183 NO = Int32.ofNat sz) (hnew : ∀ q, q < sz → VR (NO + 1) (kf q) (A' 73 (2 * (U + q))) (B' 185 (U + q)) ∧ A' 73 (2 * (U + q) + 1) = B' 186 (U + q)) (hkd : (∃ c, c < n ∧ v = Int32.ofNat c ∧ sz = alf p E 19 c ∧ ∀ q, q < sz → kf q = fkd B0 Z p E 19 c q) ∨ (v = -2 ∧ ∀ q, q < sz → kf q = 1) ∨ (v = -3 ∧ ∀ q, q < sz → kf q = 2)) : GCo B0 Z n s p E (updN oa NO U) (updN os NO sz) (nhk hk kf U) (NO + 1) (U + sz) EV A' B' := by
  obtain ⟨⟨h1, h2, h3, h4, h5, h6, h7, h8⟩, g, ⟨e1, e2, e3, e4, e5⟩, f1, f2⟩ := h
  refine ⟨⟨a1, b1, a2, b2, b3, by omega, fun i hi => ?_, fun j hj => ?_⟩, fun j hj => ?_, ⟨?_, ?_, e3, ?_, fun e he => ?_⟩, ?_, fun j hj => ?_⟩
  · by_cases y : i = NO
    · subst y
      have u1 : updN oa i U i = U := if_pos rfl
      have u2 : updN os i sz i = sz := if_pos rfl
      unfold Ob1
      rw [u1, u2]
      refine ⟨by rw [a3, b4], a4, b5, a5, b6, a6, Nat.le_refl _, ?_⟩
      rw [b4]
      have kk : ∀ q, q < sz → (if U + q < U then hk (U + q) else kf (U + q - U)) = kf q := fun q _ => by rw [if_neg (by omega), Nat.add_sub_cancel_left]
      rcases hkd with ⟨c, k1, k2, k3, k4⟩ | ⟨k1, k2⟩ | ⟨k1, k2⟩
      · exact Or.inl ⟨c, k1, k2, k3, fun q hq => (kk q hq).trans (k4 q hq)⟩
      · exact Or.inr (Or.inl ⟨k1, fun q hq => (kk q hq).trans (k2 q hq)⟩)
      · exact Or.inr (Or.inr ⟨k1, fun q hq => (kk q hq).trans (k2 q hq)⟩)
    · obtain ⟨o1, o2, o3, o4, o5, o6, o7, o8⟩ := h7 i (by omega)
      have u1 : updN oa NO U i = oa i := if_neg y
      have u2 : updN os NO sz i = os i := if_neg y
      unfold Ob1
      rw [u1, u2, hA 71 (4 * i) (by omega) (by omega) (by omega) (by omega), hA 71 (4 * i + 1) (by omega) (by omega) (by omega) (by omega), hA 71 (4 * i + 2) (by omega) (by omega) (by omega) (by omega), hA 71 (4 * i + 3) (by omega) (by omega) (by omega) (by omega), hB 181 i (by omega) (by omega) (by omega) (by omega), hB 182 i (by omega) (by omega) (by omega) (by omega), hB 183 i (by omega) (by omega) (by omega) (by omega), hB 184 i (by omega) (by omega) (by omega) (by omega)]
      have kk : ∀ q, q < os i → (if oa i + q < U then hk (oa i + q) else kf (oa i + q - U)) = hk (oa i + q) := fun q _ => if_pos (by omega)
      refine ⟨o1, o2, o3, o4, o5, o6, by omega, ?_⟩
      rcases o8 with ⟨c, k1, k2, k3, k4⟩ | ⟨k1, k2⟩ | ⟨k1, k2⟩
      · exact Or.inl ⟨c, k1, k2, k3, fun q hq => (kk q hq).trans (k4 q hq)⟩
      · exact Or.inr (Or.inl ⟨k1, fun q hq => (kk q hq).trans (k2 q hq)⟩)
      · exact Or.inr (Or.inr ⟨k1, fun q hq => (kk q hq).trans (k2 q hq)⟩)
  · unfold nhk
    by_cases y : j < U
    · rw [if_pos y, hA 73 (2 * j) (by omega) (by omega) (by omega) (by omega), hA 73 (2 * j + 1) (by omega) (by omega) (by omega) (by omega), hB 185 j (by omega) (by omega) (by omega) (by omega), hB 186 j (by omega) (by omega) (by omega) (by omega)]
      exact ⟨(h8 j y).1.mo (by omega), (h8 j y).2⟩
    · have := hnew (j - U) (by omega)
      rw [show U + (j - U) = j by omega] at this
      rw [if_neg y]
      exact this
  · rw [hA 75 _ (by omega) (by omega) (by omega) (by omega), hA 75 _ (by omega) (by omega) (by omega) (by omega), hB 187 j (by omega) (by omega) (by omega) (by omega), hB 188 j (by omega) (by omega) (by omega) (by omega)]
    exact ⟨(g j hj).1.mo (by omega), (g j hj).2⟩
  · rw [hA _ _ (by omega) (by omega) (by omega) (by omega)]; exact e1
  · rw [hB _ _ (by omega) (by omega) (by omega) (by omega)]; exact e2
  · rw [hA _ _ (by omega) (by omega) (by omega) (by omega), hB _ _ (by omega) (by omega) (by omega) (by omega)]; exact e4
  · rw [hA _ _ (by omega) (by omega) (by omega) (by omega), hA _ _ (by omega) (by omega) (by omega) (by omega), hA _ _ (by omega) (by omega) (by omega) (by omega), hA _ _ (by omega) (by omega) (by omega) (by omega), hB 189 e (by omega) (by omega) (by omega) (by omega), hB 190 e (by omega) (by omega) (by omega) (by omega), hB 191 e (by omega) (by omega) (by omega) (by omega), hB 192 e (by omega) (by omega) (by omega) (by omega)]; exact e5 e he
  · rw [hA _ _ (by omega) (by omega) (by omega) (by omega), hB _ _ (by omega) (by omega) (by omega) (by omega)]; exact f1
  · rw [hA _ _ (by omega) (by omega) (by omega) (by omega), hA _ _ (by omega) (by omega) (by omega) (by omega), hB _ _ (by omega) (by omega) (by omega) (by omega), hB _ _ (by omega) (by omega) (by omega) (by omega)]; exact f2 j hj
theorem alf_7 (hL : LPc P Z n s k E p A B) {cc : Nat} (hc : cc < 7) : alf p E 19 cc = 0 := by
  obtain ⟨-, -, n7, n19, -, -, e7, pa, -, hE, -⟩ := hL
  have hE0 : ∀ c, c ≤ 7 → E c = 0 := by
    have hm : ∀ c, c ≤ 7 → E c ≤ E 7 := fun c hc => mono_le (F := E) (k := 7) (fun a ha => (hE a (by omega)).1) c 7 hc (Nat.le_refl _)
    intro c hc
    have := hm c hc
    omega
  induction cc using Nat.strongRecOn with
  | ind cc ih =>
    have e1 := hE0 cc (by omega)
    have e2 := hE0 (cc + 1) (by omega)
    by_cases y : cc = 0
    · subst y; rw [show (19 : Nat) = 18 + 1 from rfl, alf, if_pos rfl]; omega
    · have hp : ∀ c, 0 < c → c < n → p c < c := fun c z1 z2 => (pa.2 c z1 z2).2
      rw [alf_s hp n19 (by omega) (by omega), ih (p cc) (hp cc (by omega) (by omega)) (by have := hp cc (by omega) (by omega); omega)]; omega
theorem i32_m3 {a : Nat} (h : a < 2147483648) : Int32.ofNat a ≠ -3 := by
  intro z
  have := congrArg Int32.toInt z
  rw [Int32.toInt_ofNat_of_lt h] at this
  have e : (-3 : Int32).toInt = -3 := by decide
  omega
/-- a LIMIT -/
theorem lim_l {A1 B1 : St} {e : Nat} (hP : Hid (P = 3 ∨ P = 18)) (hP2 : 3 ≤ P ∧ P ≤ 18) (hZ2 : 85 ≤ Z ∧ Z ≤ 126) (hL : Lkd P Z n k s E F G p A0 B0) (hT : ∀ m, m < k → TyM B0 Z m (F (m + 1) - F m) (F m) G (VV m)) (h : MC P Z n k s E F p A0 B0 VV oa os hk NO U EV dp m i c fr t l A B) (hc : c < 20000) (he : 4 ≤ e ∧ e < 8) (hp : PRG P Z A0 B0 A1 B1) (hg : GCo B0 Z n s p E oa os hk NO U EV A1 B1) (a14 : A1 68 14 = Int32.ofNat e) (a12 : A1 68 12 = A 68 12) (a17 : A1 68 17 = A 68 17) (b34 : B1 82 34 = Int32.ofNat e) (b37 : B1 82 37 = B 82 37) (eA : x129 P (up2 A 68 10 (Int32.ofNat (i + 1))) (A (P + 10) (3 * (F m + i))) (A (P + 10) (3 * (F m + i) + 1)) (A (P + 10) (3 * (F m + i) + 2)) = some A1) (eB : x238 Z B = some B1) : StepOK P Z n k s E F p A0 B0 VV c A B := by
  have hkn := kno hP hZ2 hL hT h
  obtain ⟨c1, c2, c3, ⟨r1, r2, r3, r4, r5, r6, r7, r8, r9, r10, r11, r12⟩, c5, c6, c7⟩ := h
  have h4 : (4 : Int32) ≤ Int32.ofNat e := (i32_l2 (x := 4) (b := 4) rfl (by omega) (by decide)).mpr he.1
  refine ⟨up2 A1 68 9 (A1 68 10), B1, ?_, ?_, Or.inr ⟨oa, os, hk, NO, U, EV, e, c, hp.of (fun a b _ _ => up2_o (by omega)) (fun _ _ _ => rfl), hg.of (fun a b y => up2_o (by omega)) (fun _ _ _ => rfl), he.2, ?_, b34, by omega, ?_, ?_, fun y => by omega, fun y => by omega⟩⟩
  · rw [tnC_e hP hP2 hkn.1 ⟨r1, r2, r3, r4, r5, r6, r7, r8, r9, r10, r11, r12⟩, eA, Option.bind_some, a14, if_pos h4, Option.bind_some, a12, r7, if_pos rfl]
  · unfold tnR; rw [eB, Option.bind_some, b34, if_pos h4]
  · rw [up2_o (by omega)]; exact a14
  · rw [up2_o (by omega), a17]; exact r8
  · rw [b37]; exact r9
/-- a FAULT is thrown, or LIMIT 6 -/
theorem flt_l {A1 B1 : St} {cls : Nat} {w : Int32} (hP : Hid (P = 3 ∨ P = 18)) (hP2 : 3 ≤ P ∧ P ≤ 18) (hZ2 : 85 ≤ Z ∧ Z ≤ 126) (hL : Lkd P Z n k s E F G p A0 B0) (hT : ∀ m, m < k → TyM B0 Z m (F (m + 1) - F m) (F m) G (VV m)) (h : MC P Z n k s E F p A0 B0 VV oa os hk NO U EV dp m i c fr t l A B) (hc : c < 20000) (hcl : cls < 7) (hA : ∀ a b, (a ≠ 68 ∨ (b ≠ 10 ∧ b ≠ 11)) → A1 a b = A a b) (hB : ∀ a b, (a ≠ 82 ∨ (b ≠ 65 ∧ b ≠ 66)) → B1 a b = B a b) (eA : x129 P (up2 A 68 10 (Int32.ofNat (i + 1))) (A (P + 10) (3 * (F m + i))) (A (P + 10) (3 * (F m + i) + 1)) (A (P + 10) (3 * (F m + i) + 2)) = x138 A1 (Int32.ofNat cls) w) (eB : x238 Z B = x243 Z B1 (Int32.ofNat cls) w) : StepOK P Z n k s E F p A0 B0 VV c A B := by
  have h' := h
  obtain ⟨c1, c2, c3, ⟨r1, r2, r3, r4, r5, r6, r7, r8, r9, r10, r11, r12⟩, c5, c6, c7⟩ := h'
  have hp1 : PRG P Z A0 B0 A1 B1 := c1.of (fun a b y1 y2 => hA a b (by omega)) (fun a b y => hB a b (by omega))
  have hg1 : GCo B0 Z n s p E oa os hk NO U EV A1 B1 := c2.of (fun a b y => hA a b (by omega)) (fun a b y => hB a b (by omega))
  obtain ⟨⟨g1, g2, g3, g4, g5, g6, -⟩, -⟩ := hg1
  have e34 : B1 82 34 = -1 := by rw [hB _ _ (by omega)]; exact r6
  by_cases y : NO + U + 1 + 0 ≤ 3000
  · obtain ⟨A2, a1, a2, a3, a4, a5, a6, a7, a8, fA⟩ := mkA_y (v := Int32.ofNat cls) (w := 0) (fi := 0) (sz := 0) g1 g3 y (if_neg (i32_m3 (by omega))).symm
    obtain ⟨B2, b1, b2, b3, b4, b5, b6, b7, b8, b9, fB⟩ := mkB_y (v := Int32.ofNat cls) (sz := 0) g2 g4 g5 y
    have hg2 : GCo B0 Z n s p E (updN oa NO U) (updN os NO 0) (nhk hk (fun _ => 1) U) (NO + 1) (U + 0) EV A2 B2 := by
      refine GCo.mk (kf := fun _ => 1) (A := A1) (B := B1) (v := Int32.ofNat cls) (sz := 0) (c2.of (fun a b y => hA a b (by omega)) (fun a b y => hB a b (by omega))) y (fun a b z1 z2 z3 z4 => fA a b z1 z2 z3) (fun a b z1 z2 z3 z4 => fB a b z1 z2 z3) a2 a3 a4 a5 a6 (by rw [a7, b8]) b2 b3 b4 b5 b6 b7 (fun q hq => by omega) (Or.inl ⟨cls, by have := hL.1.2.2.1; omega, rfl, (alf_7 hL.1 hcl).symm, fun q hq => by omega⟩)
    have hg3 : GCo B0 Z n s p E (updN oa NO U) (updN os NO 0) (nhk hk (fun _ => 1) U) (NO + 1) (U + 0) EV (up2 (up2 (up2 A2 68 12 1) 68 15 (Int32.ofNat NO)) 68 16 w) B2 := hg2.of (fun a b y => by rw [up2_o (by omega), up2_o (by omega), up2_o (by omega)]) (fun _ _ _ => rfl)
    refine thr_l (r := NO) (w := w) hP hP2 hZ2 hL hT h hc (by omega) (hp1.of (fun a b z1 z2 => by rw [up2_o (by omega), up2_o (by omega), up2_o (by omega), fA a b (by omega) (by omega) (by omega)]) (fun a b z => fB a b (by omega) (by omega) (by omega))) hg3 (fun a b z => by rw [up2_o (by omega), up2_o (by omega), up2_o (by omega), fA a b (by omega) (by omega) (by omega), hA a b (by omega)]) (fun a b z => by rw [fB a b (by omega) (by omega) (by omega), hB a b (by omega)]) (by rw [up2_o (by omega), up2_o (by omega), up2_s]) (by rw [up2_o (by omega), up2_s]) (up2_s _ _ _ _) (by omega) ?_ ?_
    · rw [eA]; unfold x138
      rw [show (0 : Int32) = Int32.ofNat 0 from rfl, show x139 A1 (Int32.ofNat cls) (Int32.ofNat 0) (Int32.ofNat 0) = _ from a1, Option.bind_some, if_neg (show ¬ Int32.ofNat NO = -1 from i32_m1 (by omega))]
      rfl
    · rw [eB]; unfold x243
      rw [show (0 : Int32) = Int32.ofNat 0 from rfl, b1, Option.bind_some]
      dsimp only
      rw [if_neg (by rw [fB 82 34 (by omega) (by omega) (by omega), e34]; decide), Option.bind_fun_some]
  · have a1 := mkA_n (v := Int32.ofNat cls) (w := 0) (sz := 0) g1 g3 g6 (by decide) (by omega)
    have b1 := mkB_n (v := Int32.ofNat cls) (sz := 0) g5 g6 (by omega) (by omega)
    refine lim_l (A1 := up2 A1 68 14 6) (B1 := up2 B1 82 34 6) (e := 6) hP hP2 hZ2 hL hT h hc (by omega) (hp1.of (fun a b z1 z2 => up2_o (by omega)) (fun a b z => up2_o (by omega))) ((c2.of (fun a b y => hA a b (by omega)) (fun a b y => hB a b (by omega))).of (fun a b z => up2_o (by omega)) (fun a b z => up2_o (by omega))) (up2_s _ _ _ _) (by rw [up2_o (by omega), hA _ _ (by omega)]) (by rw [up2_o (by omega), hA _ _ (by omega)]) (up2_s _ _ _ _) (by rw [up2_o (by omega), hB _ _ (by omega)]) ?_ ?_
    · rw [eA]; unfold x138
      rw [show (0 : Int32) = Int32.ofNat 0 from rfl, show x139 A1 (Int32.ofNat cls) (Int32.ofNat 0) (Int32.ofNat 0) = _ from a1, Option.bind_some, if_pos rfl]
    · rw [eB]; unfold x243
      rw [show (0 : Int32) = Int32.ofNat 0 from rfl, b1, Option.bind_some, if_pos (up2_s _ _ _ _)]
end
