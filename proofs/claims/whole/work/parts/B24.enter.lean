/-! CALLS: a method is entered -/
def entR (Z : Nat) (I : St) (a1 r many base : Int32) : Option St := if (I 82 55) = 23 then some (up2 I 82 34 5) else Lt (up2 I 82 65 ((I 82 65) - many)) fun J12 => if inb (J12 82 55) 24 then if inb (J12 82 55) 24 then if inb (J12 82 55) 24 then Lt (up2 (up2 (up2 J12 193 (J12 82 55).toNatClampNeg (J12 82 63)) 194 (J12 82 55).toNatClampNeg a1) 195 (J12 82 55).toNatClampNeg (J12 82 65)) fun J13 => (l259_242 Z r many base 100000 0 (up2 J13 82 55 ((J13 82 55) + 1))).bind fun q17 => if inb r 24 then Lt (up2 (up2 (up2 q17 82 63 r) 82 64 ((up2 q17 82 63 r) (Z + 21) r.toNatClampNeg)) 82 65 0) fun J25 => some J25 else none else none else none else none
theorem i32_ss (a b : Int32) : a - 1 - (b - 1) = a - b := by
  simp only [Int32.sub_eq_add_neg, Int32.neg_add, Int32.neg_neg]
  have e : a + -1 + (-b + 1) = (a + -b) + (1 + -1) := by ac_rfl
  rw [e, Int32.add_right_neg, Int32.add_zero]
section
variable {P Z n k s : Nat} {E F G p oa os hk : Nat → Nat} {A0 B0 A B A' B' : St} {VV : Nat → Nat → Option VEn} {NO U EV dp m i c x o : Nat} {fr : Nat → FrT} {t : Nat × Nat} {l : Nat × Nat × Nat}
theorem l164_n {g base tk : Nat} (hg : g < 24) (ht : tk ≤ 16) (hb : base + tk ≤ 32 * g) : ∀ d j f (I : St), j + d = tk → d < f → I 68 7 = Int32.ofNat g → ∃ J, l164_103 (Int32.ofNat tk) (Int32.ofNat base) f (Int32.ofNat j) I = some J ∧ (∀ a b, (a ≠ 81 ∨ b < 64 * g + 2 * j ∨ 64 * g + 2 * tk ≤ b) → J a b = I a b) ∧ ∀ q, j ≤ q → q < tk → J 81 (2 * (32 * g + q)) = I 81 (2 * (base + q)) ∧ J 81 (2 * (32 * g + q) + 1) = I 81 (2 * (base + q) + 1) := by
  intro d
  induction d with
  | zero =>
    intro j f I h1 h2 h3
    obtain ⟨f, rfl⟩ : ∃ g, f = g + 1 := ⟨f - 1, by omega⟩
    exact ⟨I, by rw [l164_103, if_pos ((i32_le (by omega) (by omega)).mpr (by omega))], fun _ _ _ => rfl, fun q y1 y2 => by omega⟩
  | succ d ih =>
    intro j f I h1 h2 h3
    obtain ⟨f, rfl⟩ : ∃ g, f = g + 1 := ⟨f - 1, by omega⟩
    obtain ⟨J, j1, j2, j3⟩ := ih (j + 1) f (up2 (up2 I 81 (2 * (32 * g + j)) (I 81 (2 * (base + j)))) 81 (2 * (32 * g + j) + 1) (I 81 (2 * (base + j) + 1))) (by omega) (by omega) (by rw [up2_o (by omega), up2_o (by omega)]; exact h3)
    refine ⟨J, ?_, fun a b y => by rw [j2 a b (by omega), up2_o (by omega), up2_o (by omega)], fun q y1 y2 => ?_⟩
    · rw [l164_103, if_neg (by rw [i32_le (by omega) (by omega)]; omega)]
      unfold x128 tset2
      rw [h3, i32_m32, i32_a, i32_s]
      simp (disch := omega) only [m80]
      exact j1
    · by_cases z : q = j
      · subst z
        rw [j2 _ _ (by omega), j2 _ _ (by omega), up2_o (by omega), up2_s, up2_s]
        exact ⟨rfl, rfl⟩
      · have := j3 q (by omega) y2
        rw [up2_o (by omega), up2_o (by omega), up2_o (by omega), up2_o (by omega)] at this
        exact this
theorem l259_n {b3 : Int32} {g base tk : Nat} (hg : g < 24) (ht : tk ≤ 16) (hb : base + tk ≤ 16 * g) : ∀ d j f (I : St), j + d = 16 → d < f → I 82 55 = Int32.ofNat g → ∃ J, l259_242 Z b3 (Int32.ofNat tk) (Int32.ofNat base) f (Int32.ofNat j) I = some J ∧ (∀ a b, ((a ≠ 196 ∧ a ≠ 197) ∨ b < 16 * g + j ∨ 16 * g + 16 ≤ b) → J a b = I a b) ∧ ∀ q, j ≤ q → q < tk → J 196 (16 * g + q) = I 198 (base + q) ∧ J 197 (16 * g + q) = I 199 (base + q) := by
  intro d
  induction d with
  | zero =>
    intro j f I h1 h2 h3
    obtain ⟨f, rfl⟩ : ∃ g, f = g + 1 := ⟨f - 1, by omega⟩
    exact ⟨I, by rw [l259_242, if_pos ((i32_l2 (x := 16) (b := 16) rfl (by omega) (by decide)).mpr (by omega))], fun _ _ _ => rfl, fun q y1 y2 => by omega⟩
  | succ d ih =>
    intro j f I h1 h2 h3
    obtain ⟨f, rfl⟩ : ∃ g, f = g + 1 := ⟨f - 1, by omega⟩
    have hi : inb (Int32.ofNat (16 * g + j)) 384 := (i32_inb (by omega)).mpr (by omega)
    have hcl : (Int32.ofNat (16 * g + j)).toNatClampNeg = 16 * g + j := i32_cl (by omega)
    have h16 : ¬ (16 : Int32) ≤ Int32.ofNat j := by rw [i32_l2 (x := 16) (b := 16) rfl (by omega) (by decide)]; omega
    by_cases y : tk ≤ j
    · obtain ⟨J, j1, j2, j3⟩ := ih (j + 1) f (up2 (up2 I 196 (16 * g + j) 0) 197 (16 * g + j) 0) (by omega) (by omega) (by rw [up2_o (by omega), up2_o (by omega)]; exact h3)
      refine ⟨J, ?_, fun a b y => by rw [j2 a b (by omega), up2_o (by omega), up2_o (by omega)], fun q y1 y2 => by omega⟩
      rw [l259_242, if_neg h16, if_pos ((i32_le (by omega) (by omega)).mpr y), Option.bind_some, h3, i32_m16, i32_s]
      simp only [if_pos hi, hcl, Lt, if_pos ((i32_le (a := tk) (b := j) (by omega) (by omega)).mpr y)]
      exact j1
    · have hi2 : inb (Int32.ofNat (base + j)) 384 := (i32_inb (by omega)).mpr (by omega)
      have hcl2 : (Int32.ofNat (base + j)).toNatClampNeg = base + j := i32_cl (by omega)
      have ny : ¬ Int32.ofNat tk ≤ Int32.ofNat j := by rw [i32_le (by omega) (by omega)]; exact y
      obtain ⟨J, j1, j2, j3⟩ := ih (j + 1) f (up2 (up2 I 196 (16 * g + j) (I 198 (base + j))) 197 (16 * g + j) (I 199 (base + j))) (by omega) (by omega) (by rw [up2_o (by omega), up2_o (by omega)]; exact h3)
      refine ⟨J, ?_, fun a b y => by rw [j2 a b (by omega), up2_o (by omega), up2_o (by omega)], fun q y1 y2 => ?_⟩
      · rw [l259_242, if_neg h16, if_neg ny, i32_a, h3, i32_m16, i32_s]
        simp (disch := omega) only [if_pos hi2, hcl2, Option.bind_some, if_pos hi, hcl, Lt, if_neg ny, up2_o]
        exact j1
      · by_cases z : q = j
        · subst z
          rw [j2 _ _ (by omega), j2 _ _ (by omega), up2_o (by omega), up2_s, up2_s]
          exact ⟨rfl, rfl⟩
        · have := j3 q (by omega) y2
          rw [up2_o (by omega), up2_o (by omega), up2_o (by omega), up2_o (by omega)] at this
          exact this
theorem ckl_len {rf : Nat} : ∀ c, (ckl rf c).length = c := by
  intro c
  induction c with
  | zero => rfl
  | succ c ih => rw [ckl, List.length_cons, ih]
theorem ckl_get {rf : Nat} : ∀ c j, j < c → (ckl rf c).getD j 0 = knd rf (c - 1 - j) := by
  intro c
  induction c with
  | zero => intro j h; omega
  | succ c ih =>
    intro j h
    rw [ckl]
    cases j with
    | zero => rfl
    | succ j =>
      rw [List.getD_cons_succ, ih j (by omega), show c + 1 - 1 - (j + 1) = c - 1 - j by omega]
set_option maxHeartbeats 4000000 in
theorem ent_l {r tk ur : Nat} (hP : Hid (P = 3 ∨ P = 18)) (hP2 : 3 ≤ P ∧ P ≤ 18) (hZ2 : 85 ≤ Z ∧ Z ≤ 126) (hL : Lkd P Z n k s E F G p A0 B0) (hT : ∀ m, m < k → TyM B0 Z m (F (m + 1) - F m) (F m) G (VV m)) (h : MC P Z n k s E F p A0 B0 VV oa os hk NO U EV dp m i c fr t l A B) (hc : c < 20000) (hr : r < k) (htk : tk = mow B0 Z r + mkc B0 Z r) (htt : tk ≤ t.1) (hkd : ∀ q, q < tk → kbt t.2 (t.1 - tk + q) = if q < mow B0 Z r then 2 else knd (mrf B0 Z r) (q - mow B0 Z r)) (hu : Sok (t.1 - tk, ur)) (hur : ∀ j, j < t.1 - tk → kbt ur j = kbt t.2 j) (ho : opn B0 Z (F m + i) = 49 ∨ opn B0 Z (F m + i) = 50) (hrt : irs B0 Z (F m + i) = mrt B0 Z r) (hps : ∃ t'', pso (irs B0 Z (F m + i)) (t.1 - tk, ur) = some t'' ∧ i + 1 < F (m + 1) - F m ∧ Inc (VV m) (i + 1) t'' l) (eA : x129 P (up2 A 68 10 (Int32.ofNat (i + 1))) (A (P + 10) (3 * (F m + i))) (A (P + 10) (3 * (F m + i) + 1)) (A (P + 10) (3 * (F m + i) + 2)) = x164 (up2 A 68 10 (Int32.ofNat (i + 1))) (Int32.ofNat r) (Int32.ofNat tk)) (eB : x238 Z B = entR Z B (Int32.ofNat (F m + i)) (Int32.ofNat r) (Int32.ofNat tk) (Int32.ofNat (16 * dp + (t.1 - tk)))) : StepOK P Z n k s E F p A0 B0 VV c A B := by
  have hkn := kno hP hZ2 hL hT h
  obtain ⟨hLk, kx, ko, kt, k16, klo, kfu, klp, kvis, ka, kb1, kF, kF2, kk, k27⟩ := hkn
  have h' := h
  obtain ⟨c1, c2, c3, ⟨r1, r2, r3, r4, r5, r6, r7, r8, r9, r10, r11, r12⟩, c5, c6, c7⟩ := h'
  have dp24 := c6.2.2.1
  obtain ⟨w1, w2, w3, w4, w5, w6, w7, w8, w9, w10⟩ := lk_mh hL hr
  have hA7 : up2 A 68 10 (Int32.ofNat (i + 1)) 68 7 = Int32.ofNat dp := by rw [up2_o (by omega)]; exact c6.1
  unfold x164 at eA
  rw [hA7] at eA
  unfold entR at eB
  rw [c6.2.1] at eB
  by_cases hd : dp + 1 < 24
  · rw [i32_s, if_pos ((i32_l1 (x := 24) (b := 24) rfl (by omega) (by decide)).mpr hd)] at eA
    have ne23 : ¬ Int32.ofNat dp = 23 := by rw [i32_e (x := 23) (b := 23) rfl (by omega) (by decide)]; omega
    rw [if_neg ne23] at eB
    have eos : x132 (up2 A 68 10 (Int32.ofNat (i + 1))) (Int32.ofNat tk - 1) = Int32.ofNat (32 * dp + 16 + (t.1 - tk)) := by
      unfold x132
      rw [hA7, up2_o (by omega), c6.2.2.2.1, i32_ss, show (16 : Int32) = Int32.ofNat 16 from rfl, i32_m32, i32_a, i32_sb (by omega)]
      congr 1
      omega
    have e8 : up2 A 68 10 (Int32.ofNat (i + 1)) 68 8 = Int32.ofNat m := by rw [up2_o (by omega)]; exact r1
    have e9 : up2 A 68 10 (Int32.ofNat (i + 1)) 68 9 = Int32.ofNat i := by rw [up2_o (by omega)]; exact r3
    have e11 : up2 A 68 10 (Int32.ofNat (i + 1)) 68 11 = Int32.ofNat t.1 := by rw [up2_o (by omega)]; exact c6.2.2.2.1
    unfold Lt at eA
    simp (disch := omega) only [e8, e9, e11, hA7, m78, up2_o, i32_sb htt, eos, i32_s] at eA
    generalize hI : up2 (up2 (up2 (up2 (up2 (up2 (up2 (up2 A 68 10 (Int32.ofNat (i + 1))) 79 (3 * dp) (Int32.ofNat m)) 79 (3 * dp + 1) (Int32.ofNat i)) 79 (3 * dp + 2) (Int32.ofNat (t.1 - tk))) 68 7 (Int32.ofNat (dp + 1))) 68 8 (Int32.ofNat r)) 68 11 0) 68 10 0 = I at eA
    have fI : ∀ a b, (a ≠ 68 ∨ (b ≠ 7 ∧ b ≠ 8 ∧ b ≠ 10 ∧ b ≠ 11)) → (a ≠ 79 ∨ b < 3 * dp ∨ 3 * dp + 3 ≤ b) → I a b = A a b := fun a b y1 y2 => by rw [← hI, up2_o (by omega), up2_o (by omega), up2_o (by omega), up2_o (by omega), up2_o (by omega), up2_o (by omega), up2_o (by omega), up2_o (by omega)]
    obtain ⟨J, j1, j2, j3⟩ := l164_n (g := dp + 1) (base := 32 * dp + 16 + (t.1 - tk)) (tk := tk) hd (by omega) (by omega) tk 0 100000 I (by omega) (by omega) (by rw [← hI]; simp (disch := omega) only [up2_o, up2_s])
    rw [show (Int32.ofNat 0) = (0 : Int32) from rfl] at j1
    rw [j1, Option.bind_some] at eA
    -- the reference
    have hi24 : inb (Int32.ofNat dp) 24 := (i32_inb (by omega)).mpr (by omega)
    have hc24 : (Int32.ofNat dp).toNatClampNeg = dp := i32_cl (by omega)
    have hir : inb (Int32.ofNat r) 24 := (i32_inb (by omega)).mpr (by omega)
    have hcr : (Int32.ofNat r).toNatClampNeg = r := i32_cl (by omega)
    unfold Lt at eB
    simp (disch := omega) only [c6.2.2.2.2.1, r2, c6.2.1, if_pos hi24, hc24, up2_o, up2_s, i32_sb htt, i32_s] at eB
    generalize hY : up2 (up2 (up2 (up2 (up2 B 82 65 (Int32.ofNat (t.1 - tk))) 193 dp (Int32.ofNat m)) 194 dp (Int32.ofNat (F m + i))) 195 dp (Int32.ofNat (t.1 - tk))) 82 55 (Int32.ofNat (dp + 1)) = Y at eB
    have fY : ∀ a b, (a ≠ 82 ∨ (b ≠ 55 ∧ b ≠ 65)) → (a < 193 ∨ 195 < a ∨ b ≠ dp) → Y a b = B a b := fun a b y1 y2 => by rw [← hY, up2_o (by omega), up2_o (by omega), up2_o (by omega), up2_o (by omega), up2_o (by omega)]
    obtain ⟨W, k1, k2, k3⟩ := l259_n (Z := Z) (b3 := Int32.ofNat r) (g := dp + 1) (base := 16 * dp + (t.1 - tk)) (tk := tk) hd (by omega) (by omega) 16 0 100000 Y (by omega) (by omega) (by rw [← hY, up2_s])
    rw [show (Int32.ofNat 0) = (0 : Int32) from rfl] at k1
    have e21 : W (Z + 21) r = Int32.ofNat (F r) := by
      rw [k2 _ _ (by omega), fY _ _ (by omega) (by omega)]
      obtain ⟨-, -, -, -, hh⟩ := hLk.2.1.2.2.2.2.2.2.1 r hr
      exact hh.2.2.2.2.2.2.2.2.1
    rw [k1, Option.bind_some] at eB
    simp (disch := omega) only [if_pos hir, hcr, up2_o, e21] at eB
    generalize hB3 : up2 (up2 (up2 W 82 63 (Int32.ofNat r)) 82 64 (Int32.ofNat (F r))) 82 65 0 = B3 at eB
    have fB : ∀ a b, (a ≠ 82 ∨ (b ≠ 55 ∧ b ≠ 63 ∧ b ≠ 64 ∧ b ≠ 65)) → (a < 193 ∨ 195 < a ∨ b ≠ dp) → ((a ≠ 196 ∧ a ≠ 197) ∨ b < 16 * (dp + 1) ∨ 16 * (dp + 1) + 16 ≤ b) → B3 a b = B a b := fun a b y1 y2 y3 => by rw [← hB3, up2_o (by omega), up2_o (by omega), up2_o (by omega), k2 a b (by omega), fY a b (by omega) y2]
    have fA : ∀ a b, (a ≠ 68 ∨ (b ≠ 7 ∧ b ≠ 8 ∧ b ≠ 10 ∧ b ≠ 11)) → (a ≠ 79 ∨ b < 3 * dp ∨ 3 * dp + 3 ≤ b) → (a ≠ 81 ∨ b < 64 * (dp + 1) ∨ 64 * (dp + 1) + 2 * tk ≤ b) → J a b = A a b := fun a b y1 y2 y3 => by rw [j2 a b (by omega), fI a b y1 y2]
    obtain ⟨z0, ⟨l2, hv2, ho2⟩, tyr⟩ := hT r hr
    have hfv : FV NO (dp + 1) 0 0 (inl (mow B0 Z r) (mrf B0 Z r) (mkc B0 Z r)) J B3 := by
      refine ⟨fun j hj => by omega, fun q hq hw => ?_⟩
      rw [wvl_inl w1 _ w2 q hq] at hw ⊢
      have hqt : q < tk := by
        by_cases y : q < tk
        · exact y
        · rw [if_neg (by omega), if_neg (by omega)] at hw; omega
      have hk2 := hkd q hqt
      obtain ⟨x1, x2⟩ := j3 q (by omega) hqt
      obtain ⟨x3, x4⟩ := k3 q (by omega) hqt
      obtain ⟨v1, v2⟩ := c7.1 (t.1 - tk + q) (by omega)
      rw [hk2] at v1
      have ek : (if q < mow B0 Z r then 2 else if q < mow B0 Z r + mkc B0 Z r then knd (mrf B0 Z r) (q - mow B0 Z r) else 4) = if q < mow B0 Z r then 2 else knd (mrf B0 Z r) (q - mow B0 Z r) := by
        by_cases y : q < mow B0 Z r
        · rw [if_pos y, if_pos y]
        · rw [if_neg y, if_neg y, if_pos (by omega)]
      rw [ek]
      rw [← hB3, up2_o (by omega), up2_o (by omega), up2_o (by omega), up2_o (by omega), up2_o (by omega), up2_o (by omega), x1, x2, x3, x4, fI _ _ (by omega) (by omega), fI _ _ (by omega) (by omega), fY _ _ (by omega) (by omega), fY _ _ (by omega) (by omega), show 32 * dp + 16 + (t.1 - tk) + q = 32 * dp + 16 + (t.1 - tk + q) by omega, show 16 * dp + (t.1 - tk) + q = 16 * dp + (t.1 - tk + q) by omega]
      exact ⟨v1, v2⟩
    have e14 : J 68 14 = -1 := by rw [fA _ _ (by omega) (by omega) (by omega)]; exact r5
    have e12 : J 68 12 = 0 := by rw [fA _ _ (by omega) (by omega) (by omega)]; exact r7
    have e17 : J 68 17 = Int32.ofNat c := by rw [fA _ _ (by omega) (by omega) (by omega)]; exact r8
    have e34 : B3 82 34 = -1 := by rw [fB _ _ (by omega) (by omega) (by omega)]; exact r6
    have e37 : B3 82 37 = Int32.ofNat c := by rw [fB _ _ (by omega) (by omega) (by omega)]; exact r9
    have e10 : J 68 10 = 0 := by rw [j2 _ _ (by omega), ← hI, up2_s]
    have gA : ∀ a b, (a ≠ 68 ∨ (b ≠ 7 ∧ b ≠ 8 ∧ b ≠ 9 ∧ b ≠ 10 ∧ b ≠ 11 ∧ b ≠ 17)) → (a ≠ 79 ∨ b < 3 * dp ∨ 3 * dp + 3 ≤ b) → (a ≠ 81 ∨ b < 64 * (dp + 1) ∨ 64 * (dp + 1) + 2 * tk ≤ b) → up2 (up2 J 68 17 (Int32.ofNat (c + 1))) 68 9 0 a b = A a b := fun a b y1 y2 y3 => by rw [up2_o (by omega), up2_o (by omega), fA a b (by omega) y2 y3]
    have gB : ∀ a b, (a ≠ 82 ∨ (b ≠ 37 ∧ b ≠ 55 ∧ b ≠ 63 ∧ b ≠ 64 ∧ b ≠ 65)) → (a < 193 ∨ 195 < a ∨ b ≠ dp) → ((a ≠ 196 ∧ a ≠ 197) ∨ b < 16 * (dp + 1) ∨ 16 * (dp + 1) + 16 ≤ b) → up2 B3 82 37 (Int32.ofNat (c + 1)) a b = B a b := fun a b y1 y2 y3 => by rw [up2_o (by omega), fB a b (by omega) y2 y3]
    refine ⟨up2 (up2 J 68 17 (Int32.ofNat (c + 1))) 68 9 0, up2 B3 82 37 (Int32.ofNat (c + 1)), ?_, ?_, Or.inl ⟨oa, os, hk, NO, U, EV, dp + 1, r, 0, (fun g => if g = dp then (m, i, (t.1 - tk, ur), l) else fr g), (0, 0), l2, ?_, ?_, fun g hgd => ?_, ⟨?_, ?_, ?_, ?_, ?_, ?_, ?_, ?_, ?_, hr, z0, by omega⟩, hv2, ⟨?_, ?_, hd, ?_, ?_, by show 0 ≤ 16; omega⟩, ?_⟩⟩
    · rw [tnC_e hP hP2 hLk ⟨r1, r2, r3, r4, r5, r6, r7, r8, r9, r10, r11, r12⟩, eA, Option.bind_some, if_neg (by rw [e14]; decide), Option.bind_some, up2_o (by omega), e12, if_pos rfl, up2_o (by omega), e10, e17, i32_s]
    · unfold tnR; rw [eB, Option.bind_some, if_neg (by rw [e34]; decide), e37, i32_s]
    · exact c1.of (fun a b _ _ => gA a b (by omega) (by omega) (by omega)) (fun a b _ => gB a b (by omega) (by omega) (by omega))
    · exact c2.of (fun a b _ => gA a b (by omega) (by omega) (by omega)) (fun a b _ => gB a b (by omega) (by omega) (by omega))
    · by_cases y : g = dp
      · subst y
        have el : lvm (fun g' => if g' = g then (m, i, (t.1 - tk, ur), l) else fr g') (g + 1) r (g + 1) = r := if_pos rfl
        rw [el]
        dsimp only
        rw [if_pos rfl]
        refine ⟨⟨r10, r11, ⟨t, c5⟩, ho, hu, by show t.1 - tk ≤ 16; omega, ?_, ?_, ?_, ?_, ?_, ?_, ?_, hps⟩, hrt⟩
        · exact (c7.of (Nat.le_refl _) (fun b _ _ => gA _ _ (by omega) (by omega) (by omega)) (fun a b _ _ _ => gB _ _ (by omega) (by omega) (by omega)) k16).pop (by show t.1 - tk ≤ t.1; omega) hur
        · rw [up2_o (by omega), up2_o (by omega), j2 _ _ (by omega), ← hI]; simp (disch := omega) only [up2_o, up2_s]
        · rw [up2_o (by omega), up2_o (by omega), j2 _ _ (by omega), ← hI]; simp (disch := omega) only [up2_o, up2_s]
        · rw [up2_o (by omega), up2_o (by omega), j2 _ _ (by omega), ← hI]; simp (disch := omega) only [up2_o, up2_s]
        · rw [up2_o (by omega), ← hB3, up2_o (by omega), up2_o (by omega), up2_o (by omega), k2 _ _ (by omega), ← hY]; simp (disch := omega) only [up2_o, up2_s]
        · rw [up2_o (by omega), ← hB3, up2_o (by omega), up2_o (by omega), up2_o (by omega), k2 _ _ (by omega), ← hY]; simp (disch := omega) only [up2_o, up2_s]
        · rw [up2_o (by omega), ← hB3, up2_o (by omega), up2_o (by omega), up2_o (by omega), k2 _ _ (by omega), ← hY]; simp (disch := omega) only [up2_o, up2_s]
      · obtain ⟨y1, y2⟩ := c3 g (by omega)
        dsimp only
        rw [if_neg y]
        refine ⟨y1.of (Nat.le_refl _) (fun a b _ => gA a b (by omega) (by omega) (by omega)) (fun a b _ => gB a b (by omega) (by omega) (by omega)), ?_⟩
        rw [y2]
        congr 1
        unfold lvm
        dsimp only
        by_cases q : g + 1 = dp
        · rw [if_pos q, if_neg (by omega), if_pos q]
        · rw [if_neg q, if_neg (by omega), if_neg q]
    · rw [up2_o (by omega), up2_o (by omega), j2 _ _ (by omega), ← hI]; simp (disch := omega) only [up2_o, up2_s]
    · rw [up2_o (by omega), ← hB3]; simp (disch := omega) only [up2_o, up2_s]
    · rw [up2_s]; rfl
    · rw [up2_o (by omega), ← hB3]; simp (disch := omega) only [up2_o, up2_s]; rfl
    · rw [up2_o (by omega), up2_o (by omega)]; exact e14
    · rw [up2_o (by omega)]; exact e34
    · rw [up2_o (by omega), up2_o (by omega)]; exact e12
    · rw [up2_o (by omega), up2_s]
    · rw [up2_s]
    · rw [up2_o (by omega), up2_o (by omega), j2 _ _ (by omega), ← hI]; simp (disch := omega) only [up2_o, up2_s]
    · rw [up2_o (by omega), ← hB3, up2_o (by omega), up2_o (by omega), up2_o (by omega), k2 _ _ (by omega), ← hY, up2_s]
    · rw [up2_o (by omega), up2_o (by omega), j2 _ _ (by omega), ← hI]; simp (disch := omega) only [up2_o, up2_s]; rfl
    · rw [up2_o (by omega), ← hB3, up2_s]; rfl
    · exact (hfv.wk ho2 (inl_ful w1 w2)).of (Nat.le_refl _) (fun b _ _ => by rw [up2_o (by omega), up2_o (by omega)]) (fun a b _ _ _ => up2_o (by omega)) (by omega)
  · obtain rfl : dp = 23 := by omega
    rw [i32_s, if_neg (by decide)] at eA
    rw [if_pos (by decide)] at eB
    exact lim_l (A1 := up2 (up2 A 68 10 (Int32.ofNat (i + 1))) 68 14 5) (B1 := up2 B 82 34 5) (e := 5) hP hP2 hZ2 hL hT h hc (by omega) (c1.of (fun a b _ _ => by rw [up2_o (by omega), up2_o (by omega)]) (fun a b _ => up2_o (by omega))) (c2.of (fun a b _ => by rw [up2_o (by omega), up2_o (by omega)]) (fun a b _ => up2_o (by omega))) (up2_s _ _ _ _) (by rw [up2_o (by omega), up2_o (by omega)]) (by rw [up2_o (by omega), up2_o (by omega)]) (up2_s _ _ _ _) (by rw [up2_o (by omega)]) eA eB
end
