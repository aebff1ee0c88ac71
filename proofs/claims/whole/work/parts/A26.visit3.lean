/-! ONE VISIT in lockstep -/
section
variable {P Z n k s m z i d : Nat} {E F G p : Nat → Nat} {V : Nat → Option VEn} {N : Nat → Bool} {A B : St} {t : Nat × Nat} {l : Nat × Nat × Nat}
theorem OpC.of {o vv fk rt rs c rf : Nat} {a b : Int32} {A' : St} (h : OpC P m o vv fk rt rs c rf a b A) (hA : ∀ x y, ((P + 1 ≤ x ∧ x ≤ P + 14 ∧ (x ≠ P + 8 ∨ y % 16 ≠ 9)) ∨ (x = 58 ∧ y = 3)) → A' x y = A x y) : OpC P m o vv fk rt rs c rf a b A' := by
  obtain ⟨O1, O2, O3, O4, O5, O6, O7, O8, O9, O10, O11⟩ := h
  refine ⟨O1, fun y => ?_, fun y => ?_, fun y => ?_, O5, O6, O7, O8, ?_, O10, ?_⟩
  · obtain ⟨r, r1, r2, r3⟩ := O2 y
    clear O1 O2 O3 O4
    exact ⟨r, r1, r2, by rw [hA _ _ (by omega)]; exact r3⟩
  · obtain ⟨r, r1, r2, r3⟩ := O3 y
    clear O1 O2 O3 O4
    exact ⟨r, r1, r2, by rw [hA _ _ (by omega)]; exact r3⟩
  · obtain ⟨r, r1, r2, r3, r4, r5⟩ := O4 y
    clear O1 O2 O3 O4
    exact ⟨r, r1, r2, by rw [hA _ _ (by omega)]; exact r3, fun i hi => by rw [hA _ _ (by omega)]; exact r4 i hi, by rw [hA _ _ (by omega)]; exact r5⟩
  · clear O1 O2 O3 O4
    rw [hA _ _ (by omega)]; exact O9
  · clear O1 O2 O3 O4
    rw [hA _ _ (by omega)]; exact O11
theorem OpR.of {o fk rt rs c rf x : Nat} {B' : St} (h : OpR Z m o fk rt rs c rf x B) (hB : ∀ a b, ((Z + 11 ≤ a ∧ a ≤ Z + 27 ∧ a ≠ Z + 24) ∨ (a = 82 ∧ b = 32)) → B' a b = B a b) : OpR Z m o fk rt rs c rf x B' := by
  obtain ⟨O2, O3, O4, O5, O6, O7, O8, O9, O10, O11, O12, O13⟩ := h
  refine ⟨fun y => ?_, fun y => ?_, fun y => ?_, O5, O6, O7, O8, O9, ?_, O11, ?_, O13⟩
  · obtain ⟨r, r1, r2, r3⟩ := O2 y
    clear O2 O3 O4
    exact ⟨r, r1, by rw [hB _ _ (by omega)]; exact r2, by rw [hB _ _ (by omega)]; exact r3⟩
  · obtain ⟨r, r1, r2, r3⟩ := O3 y
    clear O2 O3 O4
    exact ⟨r, r1, by rw [hB _ _ (by omega)]; exact r2, by rw [hB _ _ (by omega)]; exact r3⟩
  · obtain ⟨r, r1, r2, r3, r4, r5⟩ := O4 y
    clear O2 O3 O4
    exact ⟨r, r1, by rw [hB _ _ (by omega)]; exact r2, by rw [hB _ _ (by omega)]; exact r3, by rw [hB _ _ (by omega)]; exact r4, by rw [hB _ _ (by omega)]; exact r5⟩
  · clear O2 O3 O4
    rw [hB _ _ (by omega)]; exact O10
  · clear O2 O3 O4
    rw [hB _ _ (by omega)]; exact O12
theorem frm108 {a1 a2 a3 : Int32} {v : Int32} {A' : St} (hP : Hid (P = 3 ∨ P = 18)) (h : x108 P A a1 a2 a3 = some (v, A')) : ∀ a b, (a ≠ 58 ∨ b < 7 ∨ 11 < b) → A' a b = A a b := fun a b z => by
  have hf := x108_fr hP A A Frm.refl _ h
  refine hf a b ?_
  cases y : mdb [(58, some 8), (58, some 7), (58, some 11), (58, some 10), (58, some 9)] a b with
  | false => rfl
  | true =>
    obtain ⟨e, he, f1, f2⟩ := mdb_of y
    simp only [List.mem_cons, List.not_mem_nil, or_false] at he
    rcases he with rfl | rfl | rfl | rfl | rfl
    all_goals
      simp only [reduceCtorEq, false_or, Option.some.injEq] at f1 f2
      omega
def CvA (P m : Nat) (A A' : St) : Prop := ∀ a b, a ≠ 60 → (a ≠ P + 8 ∨ b ≠ 16 * m + 9) → (a ≠ 58 ∨ b < 6 ∨ 11 < b) → A' a b = A a b
def CvB (Z m : Nat) (B B' : St) : Prop := ∀ a b, (a < 175 ∨ 180 < a) → (a ≠ Z + 24 ∨ b ≠ m) → (a ≠ 82 ∨ (b ≠ 5 ∧ b ≠ 22 ∧ b ≠ 29 ∧ b ≠ 30 ∧ b ≠ 31)) → B' a b = B a b
/-- what a right visit of i leaves known -/
def Vis (B : St) (Z m z f : Nat) (G : Nat → Nat) (i : Nat) (t : Nat × Nat) (l : Nat × Nat × Nat) (V' : Nat → Option VEn) : Prop := ∃ t', efB B Z m (f + i) t l = some t' ∧ (¬ (opn B Z (f + i) = 20 ∨ opn B Z (f + i) = 51 ∨ opn B Z (f + i) = 52) → i + 1 < z ∧ Inc V' (i + 1) t' (aft B Z (f + i) t l)) ∧ (shp (opn B Z (f + i)) = 4 → itg B Z (f + i) - f < z ∧ Inc V' (itg B Z (f + i) - f) t' (aft B Z (f + i) t l)) ∧ ∀ tr, G m ≤ tr → tr < G (m + 1) → Cov B Z f tr i → tat B Z f tr < z ∧ Inc V' (tat B Z f tr) (1, 1) l
set_option maxHeartbeats 8000000 in
theorem visit_l (hP : Hid (P = 3 ∨ P = 18)) (hZ : Hid (Z = 85 ∨ Z = 126)) (hP2 : 3 ≤ P ∧ P ≤ 18) (hZ2 : 85 ≤ Z ∧ Z ≤ 126) (hL : Lkd P Z n k s E F G p A B) (hm : m < k) (hz : z = F (m + 1) - F m) (hvd : VD Z m z (F m) A B) (h : VC P Z m z (F m) V N d A B) (hg : GS A B) (hi : i < z) (hV : V i = some (t, l)) (hful : Lful l) : ∃ A' B', x106 P A (Int32.ofNat i) = some A' ∧ x230 Z (up2 B 176 i 0) (Int32.ofNat i) = some B' ∧ CvA P m A A' ∧ CvB Z m B B' ∧ SSq P Z m z (F m) V (upN N i false) (Vis B Z m z (F m) G i t l) A' B' := by
  have hh := h
  obtain ⟨v1, v2, v3, v4, v5, v6, v7, v8, v9, v10, v11, v12, v13⟩ := hh
  obtain ⟨g1, g2⟩ := hg
  obtain ⟨w1, w2, w3, w4, w5, w6⟩ := v1 i hi
  obtain ⟨ht, h16, hlo, s4, s5, s6, s7, s8, s9, s10, s11, s12⟩ := w6 t l hV
  obtain ⟨o1, o2, o3, oC, oR, oL, ox, oV⟩ := lk_op hP hZ2.1 hL hm (x := F m + i) (by omega) (by omega) v5 v6
  replace oL : Hid _ := oL
  have hLt := hL.2.2.2 m
  have hLm := hL.2.1
  have hk24 : k ≤ 24 := hL.1.2.2.2.2.1
  obtain ⟨p1, p2, p3, p4⟩ := (hLm.2.2.2.2.2.2.1 m hm)
  obtain ⟨p5, p6⟩ := p4
  have hG78 : A (P + 8) (16 * m + 7) = Int32.ofNat (G m) ∧ A (P + 8) (16 * m + 8) = Int32.ofNat (G (m + 1) - G m) := p6.2.2.2.2.2.2.2.2.2.2.2
  have hgG : B Z 11 = Int32.ofNat (G k) := hLm.2.2.1
  have hGmono : ∀ a b, a ≤ b → b ≤ k → G a ≤ G b := mono_le (F := G) (k := k) (fun a ha => (hLm.2.2.2.2.2.2.1 a ha).2.2.1)
  have hG8 : ∀ a, a ≤ k → G a ≤ 8 * a := by
    intro a
    induction a with
    | zero => intro _; rw [hLm.2.2.2.2.2.1]; omega
    | succ a ih => intro y; have := ih (by omega); have := (hLm.2.2.2.2.2.2.1 a (by omega)).2.2.2.1; omega
  have hGk := hG8 k (Nat.le_refl _)
  have hgk1 := hGmono (m + 1) k (by omega) (Nat.le_refl _)
  have hFk := hLm.2.2.2.2.1
  have hF1280 : F (m + 1) ≤ 1280 := by
    have := mono_le (F := F) (k := k) (fun a ha => (hLm.2.2.2.2.2.2.1 a ha).1) (m + 1) k (by omega) (Nat.le_refl _)
    omega
  have i100 : i < 100 := by omega
  generalize hx : F m + i = x at *
  -- the class: restored
  generalize hA1 : up2 A 60 (7 * i + 1) 0 = A1
  have fA1 : ∀ a b, (a ≠ 60 ∨ b ≠ 7 * i + 1) → A1 a b = A a b := fun a b y => by rw [← hA1, up2_o y]
  obtain ⟨A2, a1, a2, a3, a4⟩ := x107_l (A := A1) (t := t) (l := l) i100 ⟨by rw [fA1 _ _ (by omega)]; exact s5, by rw [fA1 _ _ (by omega)]; exact s6, by rw [fA1 _ _ (by omega)]; exact s7, by rw [fA1 _ _ (by omega)]; exact s8, by rw [fA1 _ _ (by omega)]; exact s9⟩
  have fA2 : ∀ a b, (a ≠ 60 ∨ b ≠ 7 * i + 1) → (a ≠ 58 ∨ b < 7 ∨ 11 < b) → A2 a b = A a b := fun a b y1 y2 => by rw [a4 a b y2, fA1 a b y1]
  obtain ⟨vv, A3, b1, b2, b3, b4⟩ := x108_l (A := A2) (hP) a2 ht h16 a3 hlo o1 (oC.of (fun x y q => fA2 x y (by omega) (by omega)))
  have f108 := frm108 hP b1
  have fA3 : ∀ a b, (a ≠ 60 ∨ b ≠ 7 * i + 1) → (a ≠ 58 ∨ b < 7 ∨ 11 < b) → A3 a b = A a b := fun a b y1 y2 => by rw [f108 a b y2, fA2 a b y1 y2]
  -- the reference: restored
  generalize hB1 : up2 B 176 i 0 = B1
  have fB1 : ∀ a b, (a ≠ 176 ∨ b ≠ i) → B1 a b = B a b := fun a b y => by rw [← hB1, up2_o y]
  obtain ⟨B2, c1, c2, c3⟩ := l230_l (Z := Z) (l := l) (b2 := Int32.ofNat x) i100 16 0 100000 B1 (by omega) (by omega) (fun k hk => by rw [fB1 _ _ (by omega)]; exact s12 k hk)
  have fB2 : ∀ a b, a ≠ 180 → (a ≠ 176 ∨ b ≠ i) → B2 a b = B a b := fun a b y1 y2 => by rw [c3 a b (by omega), fB1 a b y2]
  generalize hB3 : up2 (up2 (up2 B2 82 29 (Int32.ofNat t.1)) 82 30 (Int32.ofNat t.2)) 82 31 1 = B3
  have fB3 : ∀ a b, a ≠ 180 → (a ≠ 176 ∨ b ≠ i) → (a ≠ 82 ∨ (b ≠ 29 ∧ b ≠ 30 ∧ b ≠ 31)) → B3 a b = B a b := fun a b y1 y2 y3 => by rw [← hB3, up2_o (by omega), up2_o (by omega), up2_o (by omega), fB2 a b y1 y2]
  have h180 : ∀ k, k < 16 → B3 180 k = Int32.ofNat (wvl l k) := fun k hk => by rw [← hB3, up2_o (by omega), up2_o (by omega), up2_o (by omega)]; exact c2 k (by omega) hk
  have hRg : Rg (some t) B3 := ⟨ht, h16, by rw [← hB3]; simp (disch := omega) only [up2_o, up2_s], by rw [← hB3]; simp (disch := omega) only [up2_o, up2_s], by rw [← hB3, up2_s]⟩
  obtain ⟨vl, vl1, vl2⟩ := and15 (B (Z + 27) x)
  have eop : opn B3 Z x = opn B Z x := by unfold opn; rw [fB3 _ _ (by omega) (by omega) (by omega)]
  have einn : inn B3 Z x = inn B Z x := by unfold inn; rw [fB3 _ _ (by omega) (by omega) (by omega)]
  have eifk : ifk B3 Z x = ifk B Z x := by unfold ifk; rw [eop, einn, fB3 _ _ (by omega) (by omega) (by omega), fB3 _ _ (by omega) (by omega) (by omega)]
  have eirs : irs B3 Z x = irs B Z x := by unfold irs; rw [eop, einn, fB3 _ _ (by omega) (by omega) (by omega)]
  have eirf : irf B3 Z x = irf B Z x := by unfold irf; rw [eop, einn, fB3 _ _ (by omega) (by omega) (by omega)]
  have eicn : icn B3 Z x = icn B Z x := by unfold icn; rw [eop, einn, fB3 _ _ (by omega) (by omega) (by omega)]
  have emrt : mrt B3 Z m = mrt B Z m := by unfold mrt; rw [fB3 _ _ (by omega) (by omega) (by omega)]
  have eefB : efB B3 Z m x t l = efB B Z m x t l := by unfold efB; rw [eop, einn, eifk, emrt, eirs, eirf, eicn]
  obtain ⟨sv, B4, d1, d2, d3, d4⟩ := ref_op (B := B3) (x := x) (m := m) (t := t) (l := l) hZ hZ2.1 hRg h180 (by rw [eop]; exact o1) (by rw [eop, einn, fB3 _ _ (by omega) (by omega) (by omega)]; exact oV) (by rw [eop, eifk, emrt, eirs, eicn, eirf]; exact oR.of (fun a b q => fB3 a b (by omega) (by omega) (by omega))) vl vl1 (by rw [fB3 _ _ (by omega) (by omega) (by omega)]; exact vl2)
  rw [eop] at d1 d4
  rw [eefB] at d2 d4
  have fB4 : ∀ a b, a ≠ 180 → (a ≠ 176 ∨ b ≠ i) → (a ≠ 82 ∨ (b ≠ 29 ∧ b ≠ 30 ∧ b ≠ 31)) → B4 a b = B a b := fun a b y1 y2 y3 => by rw [d3 a b y3, fB3 a b y1 y2 y3]
  -- both programs, as far as here
  have im : inb (Int32.ofNat m) 24 := (i32_inb (by omega)).mpr (by omega)
  have cm : (Int32.ofNat m).toNatClampNeg = m := i32_cl (by omega)
  have ii : inb (Int32.ofNat i) 100 := (i32_inb (by omega)).mpr (by omega)
  have ci : (Int32.ofNat i).toNatClampNeg = i := i32_cl (by omega)
  have ix : inb (Int32.ofNat x) 2400 := (i32_inb (by omega)).mpr (by omega)
  have cx : (Int32.ofNat x).toNatClampNeg = x := i32_cl (by omega)
  have iv : inb (Int32.ofNat vl) 16 := (i32_inb (by omega)).mpr (by omega)
  have cv : (Int32.ofNat vl).toNatClampNeg = vl := i32_cl (by omega)
  have eR : x230 Z B1 (Int32.ofNat i) = if B4 82 31 = 0 then x228 B4 (B4 (Z + 28) x) else (if sv = (-1) then some B4 else some (up2 B4 180 vl sv)).bind fun (q18 : St) => (if Int32.ofNat (opn B Z x) = 20 then some q18 else if Int32.ofNat (opn B Z x) = 51 then some q18 else if Int32.ofNat (opn B Z x) = 52 then some q18 else x227 Z q18 (Int32.ofNat (i + 1)) (B4 82 29) (B4 82 30)).bind fun (q20 : St) => (if Int32.ofNat (opn B Z x) < 20 then some q20 else if 36 < Int32.ofNat (opn B Z x) then some q20 else if inb (q20 82 32) 24 then x227 Z q20 ((q20 (Z + 33) x) - (q20 (Z + 21) (q20 82 32).toNatClampNeg)) (B4 82 29) (B4 82 30) else none).bind fun (q22 : St) => l230_323 Z (Int32.ofNat x) 100000 0 (up2 q22 180 vl (Int32.ofNat (wvl l vl))) := by
    have e1 : B1 82 32 = Int32.ofNat m := by rw [fB1 _ _ (by omega)]; exact v6
    have e2 : B1 (Z + 21) m = Int32.ofNat (F m) := by rw [fB1 _ _ (by omega)]; exact v10
    have c1' : l230_17 Z (Int32.ofNat i) (Int32.ofNat x) 100000 0 B1 = some B2 := c1
    have e3 : B2 177 i = Int32.ofNat t.1 := by rw [fB2 _ _ (by omega) (by omega)]; exact s10
    have e4 : up2 B2 82 29 (Int32.ofNat t.1) 178 i = Int32.ofNat t.2 := by rw [up2_o (by omega), fB2 _ _ (by omega) (by omega)]; exact s11
    have e5 : B3 (Z + 27) x &&& 15 = Int32.ofNat vl := by rw [fB3 _ _ (by omega) (by omega) (by omega)]; exact vl2
    have e6 : B3 (Z + 26) x = Int32.ofNat (opn B Z x) := by rw [fB3 _ _ (by omega) (by omega) (by omega)]; exact o3
    have e7 : B3 180 vl = Int32.ofNat (wvl l vl) := h180 vl vl1
    unfold x230
    simp only [e1, if_pos im, cm, e2, i32_a, hx, c1', Option.bind_some, if_pos ii, ci, e3, e4, Lt, hB3, if_pos ix, cx, e5, if_pos iv, cv, e6, i32_s, Option.bind_fun_some]
    rw [d1, Option.bind_some]
    simp only [e7]
  have eC : x106 P A (Int32.ofNat i) = if vv = 0 then x104 A3 (Int32.ofNat i) else if (A3 58 7) ≤ 16 then (if Int32.ofNat (opn B Z x) = 20 then some A3 else if Int32.ofNat (opn B Z x) = 51 then some A3 else if Int32.ofNat (opn B Z x) = 52 then some A3 else x101 P A3 (Int32.ofNat (i + 1))).bind fun (q5 : St) => (if Int32.ofNat (shp (opn B Z x)) = 4 then x101 P q5 (tget q5 (P + 9) ((q5 58 4) + Int32.ofNat i) 1) else some q5).bind fun (q8 : St) => (x107 q8 (Int32.ofNat i)).bind fun q9 => Lt ((tget (up2 (up2 q9 58 7 1) 58 8 1) (P + 7) (q9 58 3) 7) + (tget (up2 (up2 q9 58 7 1) 58 8 1) (P + 7) (q9 58 3) 8)) fun v10 => l106_199 P (Int32.ofNat i) v10 100000 (tget (up2 (up2 q9 58 7 1) 58 8 1) (P + 7) (q9 58 3) 7) (up2 (up2 q9 58 7 1) 58 8 1) else x104 A3 (Int32.ofNat i) := by
    have e1 : A2 58 4 = Int32.ofNat (F m) := by rw [fA2 _ _ (by omega) (by omega)]; exact v7
    have e3 : A2 (P + 10) (3 * x + 1) = A (P + 10) (3 * x + 1) := fA2 _ _ (by omega) (by omega)
    have e4 : A2 (P + 10) (3 * x + 2) = A (P + 10) (3 * x + 2) := fA2 _ _ (by omega) (by omega)
    have e5 : tset A 59 (Int32.ofNat i) 1 0 = A1 := by rw [← hA1]; exact (t59.2.2.2.2.2.2.2.2.1) A i 0 (by omega)
    unfold x106
    rw [e5, a1, Option.bind_some, e1, v7, i32_a, hx]
    simp (disch := omega) only [tP9 hP, o2, e3, e4]
    rw [b1, Option.bind_some]
    simp only [Option.bind_fun_some, i32_s, x76_n _ o1, Option.bind_some]
  rw [eR, eC]
  -- the start of the comings
  have hst : VC P Z m z (F m) V (upN N i false) d A3 B4 := by
    refine ⟨fun j hj => ?_, v2, ?_, ?_, ?_, ?_, ?_, ?_, ?_, ?_, v11, v12, v13⟩
    · by_cases y : j = i
      · subst y
        unfold V1
        rw [show upN N j false j = false from if_pos rfl, hV]
        refine ⟨?_, ?_, ?_, ?_, fun y => (nomatch y), fun t0 l0 y => ?_⟩
        · rw [fA3 _ _ (by omega) (by omega), w1, hV]
        · rw [fB4 _ _ (by omega) (by omega) (by omega), w2, hV]
        · rw [f108 _ _ (by omega), a4 _ _ (by omega), ← hA1, up2_s]; rfl
        · rw [d3 _ _ (by omega), ← hB3, up2_o (by omega), up2_o (by omega), up2_o (by omega), c3 _ _ (by omega), ← hB1, up2_s]; rfl
        · cases y
          refine ⟨ht, h16, hlo, s4, ?_, ?_, ?_, ?_, ?_, ?_, ?_, fun k hk => ?_⟩
          · rw [fA3 _ _ (by omega) (by omega)]; exact s5
          · rw [fA3 _ _ (by omega) (by omega)]; exact s6
          · rw [fA3 _ _ (by omega) (by omega)]; exact s7
          · rw [fA3 _ _ (by omega) (by omega)]; exact s8
          · rw [fA3 _ _ (by omega) (by omega)]; exact s9
          · rw [fB4 _ _ (by omega) (by omega) (by omega)]; exact s10
          · rw [fB4 _ _ (by omega) (by omega) (by omega)]; exact s11
          · rw [fB4 _ _ (by omega) (by omega) (by omega)]; exact s12 k hk
      · exact (v1 j hj).of rfl (if_neg y) (Nat.le_refl _) (fun q _ _ => fA3 _ _ (by omega) (by omega)) (fun p q _ _ _ => fB4 _ _ (by omega) (by omega) (by omega)) (fun q _ _ => fB4 _ _ (by omega) (by omega) (by omega))
    · rw [fA3 _ _ (by omega) (by omega)]; exact v3
    · rw [fB4 _ _ (by omega) (by omega) (by omega)]; exact v4
    · rw [fA3 _ _ (by omega) (by omega)]; exact v5
    · rw [fB4 _ _ (by omega) (by omega) (by omega)]; exact v6
    · rw [fA3 _ _ (by omega) (by omega)]; exact v7
    · rw [fA3 _ _ (by omega) (by omega)]; exact v8
    · rw [fB4 _ _ (by omega) (by omega) (by omega)]; exact v9
    · rw [fB4 _ _ (by omega) (by omega) (by omega)]; exact v10
  have g1' : A3 58 6 = -1 := by rw [fA3 _ _ (by omega) (by omega)]; exact g1
  have g2' : B4 82 22 = 0 := by rw [fB4 _ _ (by omega) (by omega) (by omega)]; exact g2
  cases hef : efB B Z m x t l with
  | none =>
    rw [hef] at d2
    have d2 : B4 82 31 = 0 := d2
    obtain ⟨q1, q, q2, q3⟩ := hvd.2 i hi
    rw [hx] at q1 q3
    have eA : x104 A3 (Int32.ofNat i) = some (up2 A3 58 6 (Int32.ofNat q)) := by
      unfold x104
      rw [fA3 58 4 (by omega) (by omega), v7, i32_a, hx]
      simp (disch := omega) only [t52]
      rw [fA3 _ _ (by omega) (by omega), q1, q3]
    have hno := b4 (by
      have : eff (opn B Z x) (wvl l (inn B Z x)) (ifk B Z x) (mrt B Z m) (irs B Z x) (ckl (irf B Z x) (icn B Z x)) t = none := hef
      exact this)
    have e106 : (if vv = 0 then x104 A3 (Int32.ofNat i) else if (A3 58 7) ≤ 16 then (if Int32.ofNat (opn B Z x) = 20 then some A3 else if Int32.ofNat (opn B Z x) = 51 then some A3 else if Int32.ofNat (opn B Z x) = 52 then some A3 else x101 P A3 (Int32.ofNat (i + 1))).bind fun (q5 : St) => (if Int32.ofNat (shp (opn B Z x)) = 4 then x101 P q5 (tget q5 (P + 9) ((q5 58 4) + Int32.ofNat i) 1) else some q5).bind fun (q8 : St) => (x107 q8 (Int32.ofNat i)).bind fun q9 => Lt ((tget (up2 (up2 q9 58 7 1) 58 8 1) (P + 7) (q9 58 3) 7) + (tget (up2 (up2 q9 58 7 1) 58 8 1) (P + 7) (q9 58 3) 8)) fun v10 => l106_199 P (Int32.ofNat i) v10 100000 (tget (up2 (up2 q9 58 7 1) 58 8 1) (P + 7) (q9 58 3) 7) (up2 (up2 q9 58 7 1) 58 8 1) else x104 A3 (Int32.ofNat i)) = some (up2 A3 58 6 (Int32.ofNat q)) := by
      rw [← eA]
      rcases hno with y | y
      · rw [if_pos y]
      · rw [if_neg y]; split <;> rfl
    rw [e106, if_pos d2]
    have e228 : x228 B4 (B4 (Z + 28) x) = some (up2 (up2 B4 82 22 5) 82 5 (Int32.ofNat q)) := by
      unfold x228
      rw [if_pos g2', fB4 _ _ (by omega) (by omega) (by omega), q3]
    rw [e228]
    exact ⟨_, _, rfl, rfl, fun a b z1 z2 z3 => by rw [up2_o (by omega), fA3 a b (by omega) (by omega)], fun a b z1 z2 z3 => by rw [up2_o (by omega), up2_o (by omega), fB4 a b (by omega) (by omega) (by omega)], Or.inl ⟨q, q2, up2_s _ _ _ _, by rw [up2_o (by omega), up2_s], up2_s _ _ _ _⟩⟩
  | some t' =>
    rw [hef] at d2
    obtain ⟨r1, r2, r3, r4, r5⟩ := d2
    obtain ⟨q1, q2, q3⟩ := b3 t' hef
    have hla : (if opn B Z x = 3 then stl (skd t) (inn B Z x) l else l) = aft B Z x t l := rfl
    rw [hla] at q3
    generalize hlx : aft B Z x t l = la at *
    have hla3 : opn B Z x ≠ 3 → la = l := fun y => by rw [← hlx]; unfold aft; rw [if_neg y]
    have loa : Lok la := by
      rw [← hlx]
      unfold aft
      split
      · rename_i y; exact stl_ok hlo (oV (Or.inr (Or.inl y))).1
      · exact hlo
    have fua : Lful la := by
      rw [← hlx]
      unfold aft
      split
      · intro j hj
        rw [wvl_stl skd_12 hj]
        split
        · rcases skd_12 (t := t) with y | y <;> rw [y] <;> decide
        · exact hful j hj
      · exact hful
    have d4' := d4 t' hef
    obtain ⟨B5, e1, e2, e3⟩ : ∃ B5, (if sv = (-1) then some B4 else some (up2 B4 180 vl sv)) = some B5 ∧ (∀ k, k < 16 → B5 180 k = Int32.ofNat (wvl la k)) ∧ ∀ a b, a ≠ 180 → B5 a b = B4 a b := by
      have b180 : ∀ k, k < 16 → B4 180 k = Int32.ofNat (wvl l k) := fun k hk => by rw [d3 _ _ (by omega)]; exact h180 k hk
      by_cases y : opn B Z x = 3
      · have hs := d4'.1 y
        have hv := (oV (Or.inr (Or.inl y)))
        have hvl : vl = inn B Z x := by
          have := vl2
          rw [hv.2, and15_n hv.1, i32_eq (by omega) (by omega)] at this
          exact this.symm
        have hsk := skd_12 (t := t)
        rw [if_neg (by rw [hs]; exact i32_m1 (by omega))]
        refine ⟨_, rfl, fun k hk => ?_, fun a b z => up2_o (by omega)⟩
        have hwv : wvl la k = if k = inn B Z x then skd t else wvl l k := by
          rw [← hlx]
          unfold aft
          rw [if_pos y, wvl_stl hsk hk]
        by_cases y2 : k = vl
        · subst y2
          rw [up2_s, hs, hwv, if_pos hvl]
        · rw [up2_o (by omega), hwv, if_neg (by omega)]
          exact b180 k hk
      · rw [if_pos (d4'.2 y), hla3 y]
        exact ⟨B4, rfl, b180, fun _ _ _ => rfl⟩
    have fB5 : ∀ a b, a ≠ 180 → (a ≠ 176 ∨ b ≠ i) → (a ≠ 82 ∨ (b ≠ 29 ∧ b ≠ 30 ∧ b ≠ 31)) → B5 a b = B a b := fun a b y1 y2 y3 => by rw [e3 a b y1, fB4 a b y1 y2 y3]
    rw [if_neg (by rw [q1]; decide), if_pos (by rw [q2.1, i32_l3 (x := 16) (b := 16) rfl (by omega) (by decide)]; exact r2), if_neg (show ¬ B4 82 31 = 0 by rw [r5]; decide), e1, Option.bind_some, r3, r4]
    have hS0 : SSq P Z m z (F m) V (upN N i false) (fun V' => V' i = some (t, l)) A3 B5 := Or.inr ⟨⟨g1', by rw [e3 _ _ (by omega)]; exact g2'⟩, V, _, d, Ext.rf, hV, hst.of (fun _ _ _ => rfl) (fun a b y => e3 a b (by omega))⟩
    have hcl0 : FS A3 B5 ∨ (Cs t' A3 ∧ Lc la A3 ∧ ∀ k, k < 16 → B5 180 k = Int32.ofNat (wvl la k)) := Or.inr ⟨q2, q3, e2⟩
    have vd0 : VD Z m z (F m) A3 B5 := hvd.of (fun a b y => fA3 a b (by omega) (by omega)) (fun a b y => fB5 a b (by omega) (by omega) (by omega))
    have en : ∀ j, j < 59 → (Int32.ofNat (opn B Z x) = Int32.ofNat j ↔ opn B Z x = j) := fun j hj => i32_eq (by omega) (by omega)
    -- the next one
    obtain ⟨A4, B6, n1, n2, n3, n4, n5, n6⟩ : ∃ A4 B6, (if Int32.ofNat (opn B Z x) = 20 then some A3 else if Int32.ofNat (opn B Z x) = 51 then some A3 else if Int32.ofNat (opn B Z x) = 52 then some A3 else x101 P A3 (Int32.ofNat (i + 1))) = some A4 ∧ (if Int32.ofNat (opn B Z x) = 20 then some B5 else if Int32.ofNat (opn B Z x) = 51 then some B5 else if Int32.ofNat (opn B Z x) = 52 then some B5 else x227 Z B5 (Int32.ofNat (i + 1)) (Int32.ofNat t'.1) (Int32.ofNat t'.2)) = some B6 ∧ CfA P m A3 A4 ∧ CfB Z m B5 B6 ∧ (FS A4 B6 ∨ (Cs t' A4 ∧ Lc la A4 ∧ ∀ k, k < 16 → B6 180 k = Int32.ofNat (wvl la k))) ∧ SSq P Z m z (F m) V (upN N i false) (fun V' => V' i = some (t, l) ∧ (¬ (opn B Z x = 20 ∨ opn B Z x = 51 ∨ opn B Z x = 52) → i + 1 < z ∧ Inc V' (i + 1) t' la)) A4 B6 := by
      by_cases y : opn B Z x = 20 ∨ opn B Z x = 51 ∨ opn B Z x = 52
      · have hif : ∀ (X Y : Option St), (if Int32.ofNat (opn B Z x) = 20 then X else if Int32.ofNat (opn B Z x) = 51 then X else if Int32.ofNat (opn B Z x) = 52 then X else Y) = X := fun X Y => by
          rcases y with y | y | y
          · rw [if_pos (by rw [y]; rfl)]
          · rw [if_neg (by rw [y]; decide), if_pos (by rw [y]; rfl)]
          · rw [if_neg (by rw [y]; decide), if_neg (by rw [y]; decide), if_pos (by rw [y]; rfl)]
        rw [hif, hif]
        exact ⟨A3, B5, rfl, rfl, fun _ _ _ _ _ => rfl, fun _ _ _ _ _ => rfl, hcl0, hS0.im (fun V' hv => ⟨hv, fun y2 => absurd y y2⟩)⟩
      · have hif : ∀ (X Y : Option St), (if Int32.ofNat (opn B Z x) = 20 then X else if Int32.ofNat (opn B Z x) = 51 then X else if Int32.ofNat (opn B Z x) = 52 then X else Y) = Y := fun X Y => by
          rw [if_neg (show ¬ Int32.ofNat (opn B Z x) = 20 from fun w => y (Or.inl ((en 20 (by omega)).mp w))), if_neg (show ¬ Int32.ofNat (opn B Z x) = 51 from fun w => y (Or.inr (Or.inl ((en 51 (by omega)).mp w)))), if_neg (show ¬ Int32.ofNat (opn B Z x) = 52 from fun w => y (Or.inr (Or.inr ((en 52 (by omega)).mp w))))]
        rw [hif, hif]
        obtain ⟨A', B', m1, m2, m3, m4, m5, m6⟩ := come_s (j := i + 1) (t := t') (l := la) (y1 := Int32.ofNat t'.1) (y2 := Int32.ofNat t'.2) hP hP2 hZ2 (fun V1 N1 d1 V2 N2 d2 hq hc => by
          have : ∀ e, upV V1 (i + 1) e i = V1 i := fun e => if_neg (by omega)
          rcases hc with ⟨-, rfl, -⟩ | ⟨l', -, rfl, -⟩
          · rw [this]; exact hq
          · rw [this]; exact hq) hS0 hcl0 loa fua r1 r2 (by omega) vd0 rfl rfl
        exact ⟨A', B', m1, m2, m3, m4, cl_next hP2 hZ2 hcl0 m5 m3 m4, m6.im (fun V' hv => ⟨hv.1, fun _ => hv.2⟩)⟩
    rw [n1, n2, Option.bind_some, Option.bind_some]
    have vd1 : VD Z m z (F m) A4 B6 := vd0.of (fun a b y => n3 a b (by omega) (by omega) (by omega)) (fun a b y => n4 a b (by omega) (by omega) (by omega))
    -- the label
    have hsh : ∀ o, o < 59 → (shp o = 4 ↔ (20 ≤ o ∧ o ≤ 36)) := by decide
    have hsh := hsh _ o1
    have hs8 : ∀ o, o < 59 → shp o < 8 := by decide
    have hs8 := hs8 _ o1
    obtain ⟨A5, B7, l1, l2, l3, l4, l6⟩ : ∃ A5 B7, (if Int32.ofNat (shp (opn B Z x)) = 4 then x101 P A4 (tget A4 (P + 9) ((A4 58 4) + Int32.ofNat i) 1) else some A4) = some A5 ∧ (if Int32.ofNat (opn B Z x) < 20 then some B6 else if 36 < Int32.ofNat (opn B Z x) then some B6 else if inb (B6 82 32) 24 then x227 Z B6 ((B6 (Z + 33) x) - (B6 (Z + 21) (B6 82 32).toNatClampNeg)) (Int32.ofNat t'.1) (Int32.ofNat t'.2) else none) = some B7 ∧ CfA P m A4 A5 ∧ CfB Z m B6 B7 ∧ SSq P Z m z (F m) V (upN N i false) (fun V' => (V' i = some (t, l) ∧ (¬ (opn B Z x = 20 ∨ opn B Z x = 51 ∨ opn B Z x = 52) → i + 1 < z ∧ Inc V' (i + 1) t' la)) ∧ (shp (opn B Z x) = 4 → itg B Z x - F m < z ∧ Inc V' (itg B Z x - F m) t' la)) A5 B7 := by
      by_cases y : shp (opn B Z x) = 4
      · obtain ⟨tg, y1, y2, y3, y4⟩ := (show _ → _ from oL) y
        have hr := hsh.mp y
        have e32 : B6 82 32 = Int32.ofNat m := by rw [n4 _ _ (by omega) (by omega) (by omega), fB5 _ _ (by omega) (by omega) (by omega)]; exact v6
        have e33 : B6 (Z + 33) x = Int32.ofNat (F m + tg) := by rw [n4 _ _ (by omega) (by omega) (by omega), fB5 _ _ (by omega) (by omega) (by omega)]; exact y4
        have e21 : B6 (Z + 21) m = Int32.ofNat (F m) := by rw [n4 _ _ (by omega) (by omega) (by omega), fB5 _ _ (by omega) (by omega) (by omega)]; exact v10
        have e58 : A4 58 4 = Int32.ofNat (F m) := by rw [n3 _ _ (by omega) (by omega) (by omega), fA3 _ _ (by omega) (by omega)]; exact v7
        rw [if_pos (by rw [y]; rfl), if_neg (by rw [i32_l1 (x := 20) (b := 20) rfl (by omega) (by decide)]; omega), if_neg (by rw [i32_l4 (x := 36) (b := 36) rfl (by omega) (by decide)]; omega)]
        simp only [e32, if_pos im, cm, e33, e21]
        rw [i32_sb (show F m ≤ F m + tg by omega), show F m + tg - F m = tg by omega, e58, i32_a, hx]
        simp (disch := omega) only [tP9 hP]
        rw [n3 _ _ (by omega) (by omega) (by omega), fA3 _ _ (by omega) (by omega), y2]
        have hlal : la = l := hla3 (fun w => by rw [w] at y; exact absurd y (by decide))
        obtain ⟨A', B', m1, m2, m3, m4, m5, m6⟩ := come_s (j := tg) (t := t') (l := la) (y1 := Int32.ofNat t'.1) (y2 := Int32.ofNat t'.2) hP hP2 hZ2 (fun V1 N1 d1 V2 N2 d2 hq hc => by
          refine ⟨?_, fun w => ⟨(hq.2 w).1, (hq.2 w).2.ext (hc.ext fua).1⟩⟩
          by_cases yj : i = tg
          · subst yj
            rcases hc with ⟨c5, -⟩ | ⟨l', c5, rfl, -⟩
            · rw [hq.1] at c5; cases c5
            · rw [hq.1] at c5
              cases c5
              rw [show upV V1 i (t, orl l la) i = some (t, orl l la) from if_pos rfl, hlal, orl_self]
          · have : ∀ e, upV V1 tg e i = V1 i := fun e => if_neg yj
            rcases hc with ⟨-, rfl, -⟩ | ⟨l', -, rfl, -⟩
            · rw [this]; exact hq.1
            · rw [this]; exact hq.1) n6 n5 loa fua r1 r2 (by omega) vd1 rfl rfl
        refine ⟨A', B', m1, m2, m3, m4, m6.im (fun V' hv => ⟨hv.1, fun _ => ?_⟩)⟩
        rw [y3, show F m + tg - F m = tg by omega]
        exact hv.2
      · have hr : ¬ (20 ≤ opn B Z x ∧ opn B Z x ≤ 36) := fun w => y (hsh.mpr w)
        rw [if_neg (fun w => y ((i32_e (x := 4) (b := 4) rfl (by omega) (by decide)).mp w))]
        have e20 : (if Int32.ofNat (opn B Z x) < 20 then some B6 else if 36 < Int32.ofNat (opn B Z x) then some B6 else if inb (B6 82 32) 24 then x227 Z B6 ((B6 (Z + 33) x) - (B6 (Z + 21) (B6 82 32).toNatClampNeg)) (Int32.ofNat t'.1) (Int32.ofNat t'.2) else none) = some B6 := by
          by_cases w : opn B Z x < 20
          · rw [if_pos ((i32_l1 (x := 20) (b := 20) rfl (by omega) (by decide)).mpr w)]
          · rw [if_neg (fun q => w ((i32_l1 (x := 20) (b := 20) rfl (by omega) (by decide)).mp q)), if_pos ((i32_l4 (x := 36) (b := 36) rfl (by omega) (by decide)).mpr (by omega))]
        rw [e20]
        exact ⟨A4, B6, rfl, rfl, fun _ _ _ _ _ => rfl, fun _ _ _ _ _ => rfl, n6.im (fun V' hv => ⟨hv, fun w => absurd w y⟩)⟩
    rw [l1, l2, Option.bind_some, Option.bind_some]
    have fA5 : ∀ a b, a ≠ 60 → (a ≠ P + 8 ∨ b ≠ 16 * m + 9) → (a ≠ 58 ∨ b < 6 ∨ 11 < b) → A5 a b = A a b := fun a b z1 z2 z3 => by rw [l3 a b z1 z2 (by omega), n3 a b z1 z2 (by omega), fA3 a b (by omega) (by omega)]
    have fB7 : ∀ a b, (a < 175 ∨ 180 < a) → (a ≠ Z + 24 ∨ b ≠ m) → (a ≠ 82 ∨ (b ≠ 5 ∧ b ≠ 22 ∧ b ≠ 29 ∧ b ≠ 30 ∧ b ≠ 31)) → B7 a b = B a b := fun a b z1 z2 z3 => by rw [l4 a b (by omega) z2 (by omega), n4 a b (by omega) z2 (by omega), fB5 a b (by omega) (by omega) (by omega)]
    -- the locals ahead of it once more
    obtain ⟨A6, k1, k2, k3⟩ : ∃ A6, x107 A5 (Int32.ofNat i) = some A6 ∧ (∀ a b, (a ≠ 58 ∨ b < 7 ∨ 11 < b) → A6 a b = A5 a b) ∧ (FS A5 B7 ∨ Lc l A6) := by
      rcases l6 with hfs | ⟨-, V', N', d', -, hv, hvc⟩
      · obtain ⟨A6, k1, k2⟩ := x107_t (A := A5) (x := Int32.ofNat i)
        exact ⟨A6, k1, k2, Or.inl hfs⟩
      · obtain ⟨-, -, -, -, -, w6'⟩ := hvc.1 i hi
        obtain ⟨-, -, -, -, u5, u6, u7, u8, u9, -⟩ := w6' t l hv.1.1
        obtain ⟨A6, k1, -, k2, k3⟩ := x107_l (A := A5) (t := t) (l := l) i100 ⟨u5, u6, u7, u8, u9⟩
        exact ⟨A6, k1, k3, Or.inr k2⟩
    rw [k1, Option.bind_some]
    generalize hA7 : up2 (up2 A6 58 7 1) 58 8 1 = A7
    have fA7 : ∀ a b, (a ≠ 58 ∨ b < 7 ∨ 11 < b) → A7 a b = A5 a b := fun a b y => by rw [← hA7, up2_o (by omega), up2_o (by omega), k2 a b y]
    generalize hB8 : up2 B7 180 vl (Int32.ofNat (wvl l vl)) = B8
    have fB8 : ∀ a b, a ≠ 180 → B8 a b = B7 a b := fun a b y => by rw [← hB8, up2_o (by omega)]
    have e583 : A6 58 3 = Int32.ofNat m := by rw [k2 _ _ (by omega), fA5 _ _ (by omega) (by omega) (by omega)]; exact v5
    have e7 : tget A7 (P + 7) (Int32.ofNat m) 7 = Int32.ofNat (G m) := by
      simp (disch := omega) only [tP7 hP]
      rw [fA7 _ _ (by omega), fA5 _ _ (by omega) (by omega) (by omega)]
      exact hG78.1
    have e8 : tget A7 (P + 7) (Int32.ofNat m) 8 = Int32.ofNat (G (m + 1) - G m) := by
      simp (disch := omega) only [tP7 hP]
      rw [fA7 _ _ (by omega), fA5 _ _ (by omega) (by omega) (by omega)]
      exact hG78.2
    rw [e583]
    dsimp only [Lt]
    rw [e7, e8, i32_a, show G m + (G (m + 1) - G m) = G (m + 1) by omega]
    have hS2 : SSq P Z m z (F m) V (upN N i false) (fun V' => (¬ (opn B Z x = 20 ∨ opn B Z x = 51 ∨ opn B Z x = 52) → i + 1 < z ∧ Inc V' (i + 1) t' la) ∧ (shp (opn B Z x) = 4 → itg B Z x - F m < z ∧ Inc V' (itg B Z x - F m) t' la)) A7 B8 := (l6.im (fun V' hv => ⟨hv.1.2, hv.2⟩)).of (fun a b y => fA7 a b (by omega)) (fun a b y => fB8 a b (by omega))
    have vd2 : VD Z m z (F m) A7 B8 := hvd.of (fun a b y => by rw [fA7 a b (by omega), fA5 a b (by omega) (by omega) (by omega)]) (fun a b y => by rw [fB8 a b (by omega), fB7 a b (by omega) (by omega) (by omega)])
    have hw8 : ∀ k, k < 16 → B8 180 k = Int32.ofNat (wvl l k) := fun k hk => by
      have e180 : B7 180 k = Int32.ofNat (wvl la k) := by rw [l4 _ _ (by omega) (by omega) (by omega), n4 _ _ (by omega) (by omega) (by omega)]; exact e2 k hk
      by_cases y : k = vl
      · subst y; rw [← hB8, up2_s]
      · rw [← hB8, up2_o (by omega), e180]
        by_cases y3 : opn B Z x = 3
        · have hv := (oV (Or.inr (Or.inl y3)))
          have hvl : vl = inn B Z x := by
            have := vl2
            rw [hv.2, and15_n hv.1, i32_eq (by omega) (by omega)] at this
            exact this.symm
          rw [← hlx]
          unfold aft
          rw [if_pos y3, wvl_stl skd_12 hk, if_neg (by omega)]
        · rw [hla3 y3]
    have hcl2 : FS A7 B8 ∨ (Cs (1, 1) A7 ∧ Lc l A7 ∧ ∀ k, k < 16 → B8 180 k = Int32.ofNat (wvl l k)) := by
      rcases k3 with ⟨q, f1, f2, f3, f4⟩ | k3
      · exact Or.inl ⟨q, f1, by rw [fA7 _ _ (by omega)]; exact f2, by rw [fB8 _ _ (by omega)]; exact f3, by rw [fB8 _ _ (by omega)]; exact f4⟩
      · refine Or.inr ⟨⟨by rw [← hA7, up2_o (by omega), up2_s]; rfl, by rw [← hA7, up2_s]; rfl⟩, ⟨?_, ?_, ?_⟩, hw8⟩
        · rw [← hA7, up2_o (by omega), up2_o (by omega)]; exact k3.1
        · rw [← hA7, up2_o (by omega), up2_o (by omega)]; exact k3.2.1
        · rw [← hA7, up2_o (by omega), up2_o (by omega)]; exact k3.2.2
    have gB8 : ∀ a b, (a < 175 ∨ 180 < a) → (a ≠ Z + 24 ∨ b ≠ m) → (a ≠ 82 ∨ (b ≠ 5 ∧ b ≠ 22 ∧ b ≠ 29 ∧ b ≠ 30 ∧ b ≠ 31)) → B8 a b = B a b := fun a b z1 z2 z3 => by rw [fB8 a b (by omega), fB7 a b z1 z2 z3]
    have gA7 : ∀ a b, a ≠ 60 → (a ≠ P + 8 ∨ b ≠ 16 * m + 9) → (a ≠ 58 ∨ b < 6 ∨ 11 < b) → A7 a b = A a b := fun a b z1 z2 z3 => by rw [fA7 a b (by omega), fA5 a b z1 z2 z3]
    have h11 : B8 Z 11 = Int32.ofNat (G k) := by rw [gB8 _ _ (by omega) (by omega) (by omega)]; exact hgG
    have h32 : B8 82 32 = Int32.ofNat m := by rw [gB8 _ _ (by omega) (by omega) (by omega)]; exact v6
    obtain ⟨A8, B9, t1, t2, t3, t4, t5⟩ := tries_l (n := n) (V0 := V) (N0 := upN N i false) (l := l) (i := i) hP hP2 hZ2 hm hk24 (by omega) hF1280 hz p1 hi hlo hful (G (m + 1) - G m) (G m) 100000 (100000 - G (m + 1)) _ A7 B8 (fun V1 N1 V2 N2 hq he => ⟨fun w => ⟨(hq.1 w).1, (hq.1 w).2.ext he⟩, fun w => ⟨(hq.2 w).1, (hq.2 w).2.ext he⟩⟩) (Nat.le_refl _) (by omega) hgk1 (by omega) hS2 hcl2 vd2 h11 h32 (by rw [gB8 _ _ (by omega) (by omega) (by omega)]; exact v10) (fun tr z1 z2 => by
      have := hLt tr hm z1 z2
      unfold LPt at this ⊢
      rw [gB8 _ _ (by omega) (by omega) (by omega), gB8 _ _ (by omega) (by omega) (by omega), gB8 _ _ (by omega) (by omega) (by omega), gB8 _ _ (by omega) (by omega) (by omega), gB8 _ _ (by omega) (by omega) (by omega), gA7 _ _ (by omega) (by omega) (by omega), gA7 _ _ (by omega) (by omega) (by omega), gA7 _ _ (by omega) (by omega) (by omega), gA7 _ _ (by omega) (by omega) (by omega)]
      exact this)
    have hoth : ∀ m', m' < k → m' ≠ m → ∀ tr, G m' ≤ tr → tr < G (m' + 1) → B (Z + 37) tr = Int32.ofNat m' := fun m' y1 y2 tr y3 y4 => (hL.2.2.2 m' tr y1 y3 y4).1
    have hme : ∀ tr, tr < G k → ∃ m', m' < k ∧ G m' ≤ tr ∧ tr < G (m' + 1) := by
      intro tr htr
      have : ∀ j, j ≤ k → tr < G j → ∃ m', m' < j ∧ G m' ≤ tr ∧ tr < G (m' + 1) := by
        intro j
        induction j with
        | zero => intro _ w; rw [hLm.2.2.2.2.2.1] at w; omega
        | succ j ih =>
          intro w1 w2
          rcases Nat.lt_or_ge tr (G j) with y | y
          · obtain ⟨m', a, b, c⟩ := ih (by omega) y
            exact ⟨m', by omega, b, c⟩
          · exact ⟨j, by omega, y, w2⟩
      exact this k (Nat.le_refl _) htr
    have s1 := skip_r (Z := Z) (B := B8) (m := m) (G := G) (k := k) (b2 := Int32.ofNat x) hZ2.1 h11 (by omega) h32 (G m) 0 (100000 - G m) (fun tr w1 w2 => by
      obtain ⟨m', a, b, c⟩ := hme tr (by omega)
      have hne : m' ≠ m := fun q => by subst q; omega
      exact ⟨m', by omega, hne, by rw [gB8 _ _ (by omega) (by omega) (by omega)]; exact hoth m' a hne tr b c⟩) (by omega) (by have := hGmono m k (by omega) (Nat.le_refl _); omega)
    rw [show 100000 - G m + G m = 100000 by omega, Nat.zero_add] at s1
    have h11' : B9 Z 11 = Int32.ofNat (G k) := by rw [t4 _ _ (by omega) (by omega) (by omega)]; exact h11
    have h32' : B9 82 32 = Int32.ofNat m := by rw [t4 _ _ (by omega) (by omega) (by omega)]; exact h32
    have s2 := skip_r (Z := Z) (B := B9) (m := m) (G := G) (k := k) (b2 := Int32.ofNat x) hZ2.1 h11' (by omega) h32' (G k - G (m + 1)) (G (m + 1)) (100000 - G k) (fun tr w1 w2 => by
      obtain ⟨m', a, b, c⟩ := hme tr (by omega)
      have hne : m' ≠ m := fun q => by subst q; omega
      exact ⟨m', by omega, hne, by rw [t4 _ _ (by omega) (by omega) (by omega), gB8 _ _ (by omega) (by omega) (by omega)]; exact hoth m' a hne tr b c⟩) (by omega) (by omega)
    rw [show 100000 - G k + (G k - G (m + 1)) = 100000 - G (m + 1) by omega, show G (m + 1) + (G k - G (m + 1)) = G k by omega] at s2
    have s3 := end_r (Z := Z) (B := B9) (G := G) (k := k) (b2 := Int32.ofNat x) (ff := 100000 - G k - 1) h11'
    rw [show 100000 - G k - 1 + 1 = 100000 - G k by omega] at s3
    rw [hx, show 100000 - G (m + 1) + (G (m + 1) - G m) = 100000 - G m by omega] at t2
    refine ⟨A8, B9, t1, ?_, fun a b z1 z2 z3 => by rw [t3 a b z1 z2 (by omega), gA7 a b z1 z2 z3], fun a b z1 z2 z3 => by rw [t4 a b (by omega) z2 (by omega), gB8 a b z1 z2 z3], t5.im (fun V' hv => ?_)⟩
    · rw [show (0 : Int32) = Int32.ofNat 0 from rfl, s1, t2, s2, s3]
    · unfold Vis
      rw [hx]
      refine ⟨t', hef, fun w => by rw [hlx]; exact hv.1.1 w, fun w => by rw [hlx]; exact hv.1.2 w, fun tr z1 z2 z3 => ?_⟩
      have ec : Cov B8 Z (F m) tr i := by
        unfold Cov
        rw [gB8 _ _ (by omega) (by omega) (by omega), gB8 _ _ (by omega) (by omega) (by omega)]
        exact z3
      have et : tat B8 Z (F m) tr = tat B Z (F m) tr := by
        unfold tat
        rw [gB8 _ _ (by omega) (by omega) (by omega)]
      rw [← et]
      exact hv.2 tr z1 z2 ec
end
