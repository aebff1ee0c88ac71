/-! ALL METHODS checked -/
def mow (B : St) (Z m : Nat) : Nat := (B (Z + 25) m).toNatClampNeg
def mkc (B : St) (Z m : Nat) : Nat := (B (Z + 18) m).toNatClampNeg
def mrf (B : St) (Z m : Nat) : Nat := (B (Z + 19) m).toNatClampNeg
/-- a method's code is right: what each instruction is come to with -/
def TyM (B : St) (Z m z f : Nat) (G : Nat → Nat) (V : Nat → Option VEn) : Prop := 0 < z ∧ Inc V 0 (0, 0) (inl (mow B Z m) (mrf B Z m) (mkc B Z m)) ∧ ∀ i t l, i < z → V i = some (t, l) → Vis B Z m z f G i t l V ∧ Sok t ∧ t.1 ≤ 16 ∧ Lok l ∧ Lful l
section
variable {P Z n k s m z : Nat} {E F G p : Nat → Nat} {A B : St}
def CwA (P m : Nat) (A A' : St) : Prop := ∀ a b, a ≠ 60 → (a ≠ P + 8 ∨ b ≠ 16 * m + 9) → (a ≠ 58 ∨ b < 3 ∨ 11 < b) → A' a b = A a b
def CwB (Z m : Nat) (B B' : St) : Prop := ∀ a b, (a < 175 ∨ 180 < a) → (a ≠ Z + 24 ∨ b ≠ m) → (a ≠ 82 ∨ (b ≠ 5 ∧ b ≠ 22 ∧ b ≠ 29 ∧ b ≠ 30 ∧ b ≠ 31 ∧ b ≠ 32)) → B' a b = B a b
theorem lk_mh (h : Lkd P Z n k s E F G p A B) (hm : m < k) : mow B Z m ≤ 1 ∧ mkc B Z m ≤ 6 ∧ mrf B Z m < 64 ∧ A (P + 8) (16 * m + 2) = Int32.ofNat (mow B Z m) ∧ B (Z + 25) m = Int32.ofNat (mow B Z m) ∧ A (P + 8) (16 * m + 4) = Int32.ofNat (mkc B Z m) ∧ B (Z + 18) m = Int32.ofNat (mkc B Z m) ∧ B (Z + 19) m = Int32.ofNat (mrf B Z m) ∧ (∀ i, i < mkc B Z m → A (P + 8) (16 * m + 10 + i) = if (mrf B Z m).testBit i then 2 else 1) ∧ mrf B Z m < 2 ^ mkc B Z m := by
  obtain ⟨-, -, -, -, a1, a2, a3, a4, a5, a6, ⟨c, rf, a8, a9, a10, a11, a12, a13⟩, -⟩ := h.2.1.2.2.2.2.2.2.1 m hm
  have b64 : rf < 64 := Nat.lt_of_lt_of_le a12 (Nat.pow_le_pow_right (n := 2) (by decide) a11)
  have e1 : mkc B Z m = c := by unfold mkc; rw [a9, i32_cl (by omega)]
  have e2 : mrf B Z m = rf := by unfold mrf; rw [a10, i32_cl (by omega)]
  have e3 : mow B Z m ≤ 1 ∧ B (Z + 25) m = Int32.ofNat (mow B Z m) := by
    unfold mow
    rcases a4 with y | y <;> rw [y] <;> decide
  rw [e1, e2]
  exact ⟨e3.1, a11, b64, by rw [a3]; exact e3.2, e3.2, a8, a9, a10, a13, a12⟩
set_option maxHeartbeats 4000000 in
theorem chk_l (hP : Hid (P = 3 ∨ P = 18)) (hZ : Hid (Z = 85 ∨ Z = 126)) (hP2 : 3 ≤ P ∧ P ≤ 18) (hZ2 : 85 ≤ Z ∧ Z ≤ 126) (hL : Lkd P Z n k s E F G p A B) (hm : m < k) (hz : z = F (m + 1) - F m) (hvd : VD Z m z (F m) A B) (hg : GS A B) (h9 : A (P + 8) (16 * m + 9) = 0) : ∃ A' B', x98 P A (Int32.ofNat m) = some A' ∧ x226 Z B (Int32.ofNat m) = some B' ∧ CwA P m A A' ∧ CwB Z m B B' ∧ (FS A' B' ∨ (GS A' B' ∧ ∃ d V, d ≤ 16 ∧ A' (P + 8) (16 * m + 9) = Int32.ofNat d ∧ B' (Z + 24) m = Int32.ofNat d ∧ TyM B Z m z (F m) G V)) := by
  obtain ⟨o1, o2, o3, o4, o5, o6, o7, o8, o9, -⟩ := lk_mh hL hm
  have hk24 : k ≤ 24 := hL.1.2.2.2.2.1
  obtain ⟨p1, p2, -, -, p5⟩ := hL.2.1.2.2.2.2.2.2.1 m hm
  obtain ⟨-, -, -, -, -, -, -, r1, r2, r3, r4, -⟩ := p5
  have hF1280 : F (m + 1) ≤ 1280 := by
    have := mono_le (F := F) (k := k) (fun a ha => (hL.2.1.2.2.2.2.2.2.1 a ha).1) (m + 1) k (by omega) (Nat.le_refl _)
    have := hL.2.1.2.2.2.2.1
    omega
  rw [← hz] at r3 r4
  have z100 : z ≤ 100 := by omega
  have s60 : sf 59 2 = 60 := by decide
  have sh60 : shl 60 = 700 := by decide
  -- the class's start
  generalize hA1 : fillF (up2 (up2 (up2 A 58 3 (Int32.ofNat m)) 58 4 (Int32.ofNat (F m))) 58 5 (Int32.ofNat z)) 60 0 0 = A1
  have fA1 : ∀ a b, a ≠ 60 → (a ≠ 58 ∨ b < 3 ∨ 5 < b) → A1 a b = A a b := fun a b y1 y2 => by
    rw [← hA1]
    unfold fillF
    rw [if_neg (by omega)]
    simp (disch := omega) only [up2_o]
  have gA1 : A1 58 3 = Int32.ofNat m ∧ A1 58 4 = Int32.ofNat (F m) ∧ A1 58 5 = Int32.ofNat z := by
    rw [← hA1]
    unfold fillF
    rw [if_neg (by omega), if_neg (by omega), if_neg (by omega)]
    refine ⟨?_, ?_, ?_⟩
    · simp (disch := omega) only [up2_o, up2_s]
    · simp (disch := omega) only [up2_o, up2_s]
    · simp (disch := omega) only [up2_s]
  have zA1 : ∀ b, b < 700 → A1 60 b = 0 := fun b hb => by
    rw [← hA1]
    unfold fillF
    rw [if_pos ⟨rfl, by omega, by rw [sh60]; exact hb⟩]
  obtain ⟨A2, a1, a2, a3, a4⟩ := x99_l (A := A1) (own := mow B Z m) (c := mkc B Z m) (rf := mrf B Z m) hP hP2 (by omega) gA1.1 o1 o2 (by rw [fA1 _ _ (by omega) (by omega)]; exact o4) (by rw [fA1 _ _ (by omega) (by omega)]; exact o6) (fun i hi => by rw [fA1 _ _ (by omega) (by omega)]; exact o9 i hi)
  -- the reference's start
  generalize hB1 : up2 (up2 B 82 32 (Int32.ofNat m)) (Z + 24) m 0 = B1
  have fB1 : ∀ a b, (a ≠ 82 ∨ b ≠ 32) → (a ≠ Z + 24 ∨ b ≠ m) → B1 a b = B a b := fun a b y1 y2 => by rw [← hB1, up2_o y2, up2_o y1]
  obtain ⟨B2, b1, b2, b3⟩ := clr_l (Z := Z) (b1 := Int32.ofNat m) (b2 := Int32.ofNat z) z100 rfl z 0 100000 B1 (by omega) (by omega)
  have b1' : l226_27 Z (Int32.ofNat m) (Int32.ofNat z) 100000 0 B1 = some B2 := b1
  obtain ⟨B3, B4, B5, c1, c2, c3, c4, c5⟩ := now_l (Z := Z) (B := B2) (m := m) (own := mow B Z m) (c := mkc B Z m) (rf := mrf B Z m) (b2 := Int32.ofNat z) hZ2 (by omega) o1 o2 o3 (by rw [b3 _ _ (by omega), fB1 _ _ (by omega) (by omega)]; exact o7) (by rw [b3 _ _ (by omega), fB1 _ _ (by omega) (by omega)]; exact o8)
  have fB5 : ∀ a b, a ≠ 180 → a ≠ 175 → a ≠ 176 → (a ≠ 82 ∨ b ≠ 32) → (a ≠ Z + 24 ∨ b ≠ m) → B5 a b = B a b := fun a b y1 y2 y3 y4 y5 => by rw [c5 a b y1, b3 a b (by omega), fB1 a b y4 y5]
  have lok := inl_ok (rf := mrf B Z m) o1 (mkc B Z m) o2
  have lful := inl_ful (rf := mrf B Z m) o1 o2
  -- coming to instruction 0
  have hVC0 : VC P Z m z (F m) (fun _ => none) (fun _ => false) 0 A2 B5 := by
    refine ⟨fun i hi => ⟨?_, ?_, ?_, ?_, fun _ => ⟨rfl, ?_, ?_, ?_⟩, fun t l y => (nomatch y)⟩, by omega, ?_, ?_, ?_, ?_, ?_, ?_, ?_, ?_, z100, by omega, by omega⟩
    · rw [a4 _ _ (by omega), zA1 _ (by omega)]; rfl
    · rw [c5 _ _ (by omega), (b2 i (by omega) hi).1]; rfl
    · rw [a4 _ _ (by omega), zA1 _ (by omega)]; rfl
    · rw [c5 _ _ (by omega), (b2 i (by omega) hi).2]; rfl
    · rw [a4 _ _ (by omega), zA1 _ (by omega)]
    · rw [a4 _ _ (by omega), zA1 _ (by omega)]
    · rw [a4 _ _ (by omega), zA1 _ (by omega)]
    · rw [a4 _ _ (by omega), fA1 _ _ (by omega) (by omega), h9]; rfl
    · rw [c5 _ _ (by omega), b3 _ _ (by omega), ← hB1, up2_s]; rfl
    · rw [a4 _ _ (by omega)]; exact gA1.1
    · rw [c5 _ _ (by omega), b3 _ _ (by omega), ← hB1, up2_o (by omega), up2_s]
    · rw [a4 _ _ (by omega)]; exact gA1.2.1
    · rw [a4 _ _ (by omega)]; exact gA1.2.2
    · rw [fB5 _ _ (by omega) (by omega) (by omega) (by omega) (by omega)]; exact r4
    · rw [fB5 _ _ (by omega) (by omega) (by omega) (by omega) (by omega)]; exact r2
  have hg0 : GS A2 B5 := ⟨by rw [a4 _ _ (by omega), fA1 _ _ (by omega) (by omega)]; exact hg.1, by rw [fB5 _ _ (by omega) (by omega) (by omega) (by omega) (by omega)]; exact hg.2⟩
  have hvd0 : VD Z m z (F m) A2 B5 := hvd.of (fun a b y => by rw [a4 a b (by omega), fA1 a b (by omega) (by omega)]) (fun a b y => fB5 a b (by omega) (by omega) (by omega) (by omega) (by omega))
  obtain ⟨A3, B6, d1, d2, d3, d4, d5⟩ := come_l (j := 0) (t := (0, 0)) (l := inl (mow B Z m) (mrf B Z m) (mkc B Z m)) hP hP2 hZ2 hVC0 hg0 a2 a3 lok ⟨by decide, by decide⟩ (by decide) c4 (by omega) hvd0.1 hvd0.2
  have d1' : x101 P A2 0 = some A3 := d1
  have d2' : x227 Z B5 0 0 0 = some B6 := d2
  have im : inb (Int32.ofNat m) 24 := (i32_inb (by omega)).mpr (by omega)
  have cm : (Int32.ofNat m).toNatClampNeg = m := i32_cl (by omega)
  have eA : x98 P A (Int32.ofNat m) = l98_57 P 100000 0 A3 := by
    unfold x98 Lt
    simp (disch := omega) only [tP7 hP, up2_o, r1, r3, s60, hA1]
    rw [a1, Option.bind_some, d1', Option.bind_some, Option.bind_fun_some]
  have eB : x226 Z B (Int32.ofNat m) = (x229 B6 (Int32.ofNat z)).bind fun q15 => l226_175 Z (Int32.ofNat z) 100000 q15 B6 := by
    have e22 : B1 (Z + 22) m = Int32.ofNat z := by rw [fB1 _ _ (by omega) (by omega)]; exact r4
    have e25 : B2 (Z + 25) m = Int32.ofNat (mow B Z m) := by rw [b3 _ _ (by omega), fB1 _ _ (by omega) (by omega)]; exact o5
    have eo : (if Int32.ofNat (mow B Z m) = 0 then some (0 : Int32) else some 1) = some (Int32.ofNat (mow B Z m)) := by
      have : ∀ w, w ≤ 1 → (if Int32.ofNat w = 0 then some (0 : Int32) else some 1) = some (Int32.ofNat w) := by decide
      exact this _ o1
    unfold x226 Lt
    simp only [if_pos im, cm, hB1, e22]
    rw [b1', Option.bind_some]
    simp only [e25]
    rw [eo, Option.bind_some, c1, Option.bind_some, c2, Option.bind_some, c3, Option.bind_some, d2', Option.bind_some]
    simp only [Option.bind_fun_some]
  have wA : ∀ A', CvA P m A3 A' → CwA P m A A' := fun A' hc a b y1 y2 y3 => by rw [hc a b y1 y2 (by omega), d3 a b y1 y2 (by omega), a4 a b (by omega), fA1 a b y1 (by omega)]
  have wB : ∀ B', CvB Z m B6 B' → CwB Z m B B' := fun B' hc a b y1 y2 y3 => by rw [hc a b y1 y2 (by omega), d4 a b (by omega) y2 (by omega), fB5 a b (by omega) (by omega) (by omega) (by omega) y2]
  rw [eA, eB]
  rcases d5 with hfs | ⟨hg1, hz0, V1, N1, dd, hcm, hVC1⟩
  · obtain ⟨q17, hq⟩ := x229_t z100 B6
    obtain ⟨qq, f1, f2, f3, f4⟩ := hfs
    refine ⟨A3, B6, ?_, ?_, wA A3 (fun _ _ _ _ _ => rfl), wB B6 (fun _ _ _ _ _ => rfl), Or.inl ⟨qq, f1, f2, f3, f4⟩⟩
    · rw [show (100000 : Nat) = 99999 + 1 from rfl, l98_57]
      split
      · rfl
      · rw [if_neg (by rw [f2]; exact i32_m1 (by omega))]
    · rw [hq, Option.bind_some, show (100000 : Nat) = 99999 + 1 from rfl, l226_175]
      split
      · rfl
      · rw [if_neg (by rw [f3]; decide)]
  · obtain ⟨hx1, hin1⟩ := hcm.ext lful
    have hwf1 : WFV V1 := fun j e he => ((hx1 j).1 rfl e he).2
    have hinv1 : INV B Z m z (F m) G V1 N1 := fun j t l hj hv hn => by
      have := ((hx1 j).1 rfl _ hv).1
      rw [hn] at this
      cases this
    have hmu : mu V1 N1 z ≤ 3300 := by
      have := mu_33 (V := V1) (N := N1) z (fun j hj => by
        unfold wgt
        cases hv : V1 j with
        | none => exact Nat.le_refl _
        | some e =>
          have := cnt_ge (hwf1 j e hv) 16 (Nat.le_refl _)
          dsimp only
          split <;> omega)
      omega
    have hL1 : Lkd P Z n k s E F G p A3 B6 := hL.of (fun a b y1 y2 y3 => by rw [d3 a b (by omega) (by omega) (by omega), a4 a b (by omega), fA1 a b (by omega) (by omega)]) (fun a b y => by rw [d4 a b (by omega) (by omega) (by omega), fB5 a b (by omega) (by omega) (by omega) (by omega) (by omega)])
    obtain ⟨A4, B7, e1, e2, e3, e4, e5⟩ := loop_l (n := n) (s := s) (E := E) (p := p) hP hZ hP2 hZ2 hm hz B 3300 0 100000 100000 V1 N1 dd A3 B6 hmu (by omega) (by omega) (by omega) hL1 (hvd0.of (fun a b y => d3 a b (by omega) (by omega) (by omega)) (fun a b y => d4 a b (by omega) (by omega) (by omega))) hVC1 hg1 hwf1 hinv1 (fun a b y => by rw [d4 a b (by omega) (by omega) (by omega), fB5 a b (by omega) (by omega) (by omega) (by omega) (by omega)])
    refine ⟨A4, B7, e1, by rw [x229_l hVC1, Option.bind_some]; exact e2, wA A4 e3, wB B7 e4, ?_⟩
    rcases e5 with e5 | ⟨e5, V2, N2, d2, e6, e7, e8⟩
    · exact Or.inl e5
    · refine Or.inr ⟨e5, d2, V2, e6.2.1, e6.2.2.1, e6.2.2.2.1, hz0, e7 _ _ _ hin1, fun i t l hi hv => ?_⟩
      obtain ⟨q1, q2, q3, -⟩ := (e6.1 i hi).2.2.2.2.2 t l hv
      exact ⟨(e8 i t l hi hv).1, q1, q2, q3, (e8 i t l hi hv).2⟩
/-- all methods are right -/
def TyA (B : St) (Z k : Nat) (F G : Nat → Nat) : Prop := ∀ m, m < k → ∃ V, TyM B Z m (F (m + 1) - F m) (F m) G V
def DpA (P Z k : Nat) (A B : St) : Prop := ∀ m, m < k → A (P + 8) (16 * m + 9) = B (Z + 24) m
theorem TyM.of {B' : St} {f : Nat} {V : Nat → Option VEn} (h : TyM B Z m z f G V) (hB : ∀ a b, (Z + 11 ≤ a ∧ a ≤ Z + 40 ∧ a ≠ Z + 24) → B' a b = B a b) : TyM B' Z m z f G V := by
  obtain ⟨h0, h1, h2⟩ := h
  have e1 : mow B' Z m = mow B Z m := by unfold mow; rw [hB _ _ (by omega)]
  have e2 : mkc B' Z m = mkc B Z m := by unfold mkc; rw [hB _ _ (by omega)]
  have e3 : mrf B' Z m = mrf B Z m := by unfold mrf; rw [hB _ _ (by omega)]
  refine ⟨h0, by rw [e1, e2, e3]; exact h1, fun i t l hi hv => ?_⟩
  obtain ⟨q1, q2⟩ := h2 i t l hi hv
  exact ⟨q1.of hB, q2⟩
def XwA (P : Nat) (A A' : St) : Prop := ∀ a b, a ≠ 60 → (a ≠ P + 8 ∨ b % 16 ≠ 9) → (a ≠ 58 ∨ b < 3 ∨ 11 < b) → A' a b = A a b
def XwB (Z : Nat) (B B' : St) : Prop := ∀ a b, (a < 175 ∨ 180 < a) → a ≠ Z + 24 → (a ≠ 82 ∨ (b ≠ 5 ∧ b ≠ 22 ∧ b ≠ 29 ∧ b ≠ 30 ∧ b ≠ 31 ∧ b ≠ 32)) → B' a b = B a b
theorem vrf_l (hP : Hid (P = 3 ∨ P = 18)) (hZ : Hid (Z = 85 ∨ Z = 126)) (hP2 : 3 ≤ P ∧ P ≤ 18) (hZ2 : 85 ≤ Z ∧ Z ≤ 126) (hL : Lkd P Z n k s E F G p A B) (hvd : ∀ m, m < k → VD Z m (F (m + 1) - F m) (F m) A B) (hg : B 82 22 = 0) (h9 : ∀ m, m < k → A (P + 8) (16 * m + 9) = 0) : ∃ r A' B', x97 P A = some (r, A') ∧ x225 Z B = some B' ∧ XwA P A A' ∧ XwB Z B B' ∧ ((∃ q, q < 2000 ∧ r = Int32.ofNat q ∧ B' 82 22 = 5 ∧ B' 82 5 = Int32.ofNat q) ∨ (r = -1 ∧ B' 82 22 = 0 ∧ DpA P Z k A' B' ∧ TyA B Z k F G)) := by
  have go : ∀ dd m fa fb (A1 B1 : St), m + dd = k → dd < fa → dd < fb → XwA P A A1 → XwB Z B B1 → GS A1 B1 → (∀ m', m ≤ m' → m' < k → A1 (P + 8) (16 * m' + 9) = 0) → (∀ m', m' < m → A1 (P + 8) (16 * m' + 9) = B1 (Z + 24) m') → (∀ m', m' < m → ∃ V, TyM B Z m' (F (m' + 1) - F m') (F m') G V) → ∃ A' B', l97_12 P fa (Int32.ofNat m) A1 = some A' ∧ l225_2 Z fb (Int32.ofNat m) B1 = some B' ∧ XwA P A A' ∧ XwB Z B B' ∧ (FS A' B' ∨ (GS A' B' ∧ DpA P Z k A' B' ∧ TyA B Z k F G)) := by
    intro dd
    induction dd with
    | zero =>
      intro m fa fb A1 B1 h1 h2 h2' hA hB hg1 hz1 hd1 ht1
      obtain ⟨fa, rfl⟩ : ∃ g, fa = g + 1 := ⟨fa - 1, by omega⟩
      obtain ⟨fb, rfl⟩ : ∃ g, fb = g + 1 := ⟨fb - 1, by omega⟩
      obtain rfl : m = k := by omega
      refine ⟨A1, B1, ?_, ?_, hA, hB, Or.inr ⟨hg1, hd1, ht1⟩⟩
      · rw [l97_12, hA _ _ (by omega) (by omega) (by omega), hL.2.1.1, if_pos (Int32.le_refl _)]
      · rw [l225_2, hB _ _ (by omega) (by omega) (by omega), hL.2.1.2.1, if_pos (Int32.le_refl _)]
    | succ dd ih =>
      intro m fa fb A1 B1 h1 h2 h2' hA hB hg1 hz1 hd1 ht1
      obtain ⟨fa, rfl⟩ : ∃ g, fa = g + 1 := ⟨fa - 1, by omega⟩
      obtain ⟨fb, rfl⟩ : ∃ g, fb = g + 1 := ⟨fb - 1, by omega⟩
      have hk24 : k ≤ 24 := hL.1.2.2.2.2.1
      have hL1 : Lkd P Z n k s E F G p A1 B1 := hL.of (fun a b y1 y2 y3 => hA a b (by omega) (by omega) (by omega)) (fun a b y => hB a b (by omega) (by omega) (by omega))
      obtain ⟨A2, B2, a1, a2, a3, a4, a5⟩ := chk_l hP hZ hP2 hZ2 hL1 (show m < k by omega) rfl ((hvd m (by omega)).of (fun a b y => hA a b (by omega) (by omega) (by omega)) (fun a b y => hB a b (by omega) (by omega) (by omega))) hg1 (hz1 m (Nat.le_refl _) (by omega))
      have hA2 : XwA P A A2 := fun a b y1 y2 y3 => by rw [a3 a b y1 (by omega) y3, hA a b y1 y2 y3]
      have hB2 : XwB Z B B2 := fun a b y1 y2 y3 => by rw [a4 a b y1 (by omega) y3, hB a b y1 y2 y3]
      have eA : l97_12 P (fa + 1) (Int32.ofNat m) A1 = l97_12 P fa (Int32.ofNat (m + 1)) A2 := by
        rw [l97_12, hA _ _ (by omega) (by omega) (by omega), hL.2.1.1, if_neg (by rw [i32_le (by omega) (by omega)]; omega), if_pos hg1.1, a1, Option.bind_some, i32_s]
      have eB : l225_2 Z (fb + 1) (Int32.ofNat m) B1 = l225_2 Z fb (Int32.ofNat (m + 1)) B2 := by
        rw [l225_2, hB _ _ (by omega) (by omega) (by omega), hL.2.1.2.1, if_neg (by rw [i32_le (by omega) (by omega)]; omega), if_pos hg1.2, a2, Option.bind_some, i32_s]
      rw [eA, eB]
      rcases a5 with ⟨qq, f1, f2, f3, f4⟩ | ⟨b1, d, V, b2, b3, b4, b5⟩
      · refine ⟨A2, B2, ?_, ?_, hA2, hB2, Or.inl ⟨qq, f1, f2, f3, f4⟩⟩
        · obtain ⟨fa, rfl⟩ : ∃ g, fa = g + 1 := ⟨fa - 1, by omega⟩
          rw [l97_12]
          split
          · rfl
          · rw [if_neg (by rw [f2]; exact i32_m1 (by omega))]
        · obtain ⟨fb, rfl⟩ : ∃ g, fb = g + 1 := ⟨fb - 1, by omega⟩
          rw [l225_2]
          split
          · rfl
          · rw [if_neg (by rw [f3]; decide)]
      · refine ih (m + 1) fa fb A2 B2 (by omega) (by omega) (by omega) hA2 hB2 b1 (fun m' y1 y2 => ?_) (fun m' y => ?_) (fun m' y => ?_)
        · rw [a3 _ _ (by omega) (by omega) (by omega)]; exact hz1 m' (by omega) y2
        · by_cases w : m' = m
          · subst w; rw [b3, b4]
          · rw [a3 _ _ (by omega) (by omega) (by omega), a4 _ _ (by omega) (by omega) (by omega)]
            exact hd1 m' (by omega)
        · by_cases w : m' = m
          · subst w
            exact ⟨V, b5.of (fun a b y => (hB a b (by omega) (by omega) (by omega)).symm)⟩
          · exact ht1 m' (by omega)
  have hk24 : k ≤ 24 := hL.1.2.2.2.2.1
  obtain ⟨A', B', a1, a2, a3, a4, a5⟩ := go k 0 100000 100000 (up2 A 58 6 (-1)) B (by omega) (by omega) (by omega) (fun a b y1 y2 y3 => up2_o (by omega)) (fun _ _ _ _ _ => rfl) ⟨up2_s _ _ _ _, hg⟩ (fun m' _ y => by rw [up2_o (by omega)]; exact h9 m' y) (fun m' y => by omega) (fun m' y => by omega)
  have a1' : l97_12 P 100000 0 (up2 A 58 6 (-1)) = some A' := a1
  have a2' : l225_2 Z 100000 0 B = some B' := a2
  refine ⟨A' 58 6, A', B', by unfold x97; rw [a1', Option.bind_some], by unfold x225; rw [a2', Option.bind_some], a3, a4, ?_⟩
  rcases a5 with ⟨q, f1, f2, f3, f4⟩ | ⟨⟨g1, g2⟩, b2, b3⟩
  · exact Or.inl ⟨q, f1, f2, f3, f4⟩
  · exact Or.inr ⟨g1, g2, b2, b3⟩
end
