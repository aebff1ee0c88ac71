/-! call, virt, ret -/
def orw (f : Nat → Int32) : Nat → Int32
  | 0 => 0
  | d + 1 => orw f d ||| f d
theorem orw_s {f : Nat → Int32} : ∀ d, orw f (d + 1) = f 0 ||| orw (fun q => f (q + 1)) d := by
  intro d
  induction d with
  | zero => rw [orw, orw, orw, Int32.zero_or, Int32.or_zero]
  | succ d ih => rw [orw, ih, orw, Int32.or_assoc]
theorem orw_r : ∀ (d : Nat) (f : Nat → Int32), orw (fun q => f (d - 1 - q)) d = orw f d := by
  intro d
  induction d with
  | zero => intro f; rfl
  | succ d ih =>
    intro f
    rw [orw_s, orw]
    have e : (fun q => f (d + 1 - 1 - (q + 1))) = fun q => f (d - 1 - q) := by
      funext q
      rw [show d + 1 - 1 - (q + 1) = d - 1 - q by omega]
    rw [e, ih f, show d + 1 - 1 - 0 = d by omega, Int32.or_comm]
theorem orw_x {f g : Nat → Int32} : ∀ d, (∀ q, q < d → f q = g q) → orw f d = orw g d := by
  intro d
  induction d with
  | zero => intro _; rfl
  | succ d ih => intro h; rw [orw, orw, ih (fun q hq => h q (by omega)), h d (by omega)]
section
variable {P Z n k s : Nat} {E F G p oa os hk : Nat → Nat} {A0 B0 A B A' B' : St} {VV : Nat → Nat → Option VEn} {NO U EV dp m i c x o : Nat} {fr : Nat → FrT} {t : Nat × Nat} {l : Nat × Nat × Nat}
theorem l165_n {b5 : Int32} {tk : Nat} {I : St} {f : Nat → Int32} (ht : tk < 100) (hf : ∀ q, q < tk → x134 I (Int32.ofNat q) = f q) : ∀ d j g, j + d = tk → d < g → l165_44 P (Int32.ofNat tk) b5 g (orw f j) (Int32.ofNat j) I = some (orw f tk) := by
  intro d
  induction d with
  | zero =>
    intro j g h1 h2
    obtain ⟨g, rfl⟩ : ∃ x, g = x + 1 := ⟨g - 1, by omega⟩
    obtain rfl : j = tk := by omega
    rw [l165_44, if_pos (Int32.le_refl _)]
  | succ d ih =>
    intro j g h1 h2
    obtain ⟨g, rfl⟩ : ∃ x, g = x + 1 := ⟨g - 1, by omega⟩
    rw [l165_44, if_neg (by rw [i32_le (by omega) (by omega)]; omega), hf j (by omega), i32_s]
    exact ih (j + 1) g (by omega) (by omega)
theorem l259_o {b1 b3 b6 : Int32} {tk base : Nat} {I : St} (ht : base + tk ≤ 384) : ∀ d j g, j + d = tk → d < g → l259_71 Z b1 b3 (Int32.ofNat tk) (Int32.ofNat base) b6 g (orw (fun q => I 199 (base + q)) j) (Int32.ofNat j) I = some (orw (fun q => I 199 (base + q)) tk) := by
  intro d
  induction d with
  | zero =>
    intro j g h1 h2
    obtain ⟨g, rfl⟩ : ∃ x, g = x + 1 := ⟨g - 1, by omega⟩
    obtain rfl : j = tk := by omega
    rw [l259_71, if_pos (Int32.le_refl _)]
  | succ d ih =>
    intro j g h1 h2
    obtain ⟨g, rfl⟩ : ∃ x, g = x + 1 := ⟨g - 1, by omega⟩
    have hi : inb (Int32.ofNat (base + j)) 384 := (i32_inb (by omega)).mpr (by omega)
    have hcl : (Int32.ofNat (base + j)).toNatClampNeg = base + j := i32_cl (by omega)
    rw [l259_71, if_neg (by rw [i32_le (by omega) (by omega)]; omega), i32_a, i32_s]
    simp only [if_pos hi, hcl]
    exact ih (j + 1) g (by omega) (by omega)
theorem tP13 (hP : P = 3 ∨ P = 18) {I : St} {i j : Nat} (hi : i < 19) (hj : j < 24) : tget I (P + 13) (Int32.ofNat i) (Int32.ofNat j) = I (P + 14) (24 * i + j) := by
  rcases hP with rfl | rfl
  · exact tg_n (k := 16) (c := j) (by decide) (by decide) hi rfl hj
  · exact tg_n (k := 31) (c := j) (by decide) (by decide) hi rfl hj
theorem m7 (hL : Lkd P Z n k s E F G p A B) {e : Nat} (hm : m < k) (h : B (Z + 15) m = Int32.ofNat e) (he : e < 2147483648) : 7 ≤ e := by
  obtain ⟨-, -, -, -, hh⟩ := hL.2.1.2.2.2.2.2.2.1 m hm
  obtain ⟨c, c0, c1, c3⟩ := hh.2.1
  have n19 := hL.1.2.2.2.1
  rw [h, i32_eq he (by omega)] at c3
  omega
theorem isb_le {f : Nat → Int32} {p : Nat → Nat} {n : Nat} (hp : PAR f p n) (hn : n ≤ 19) : ∀ a d, a < n → isb p a d = 1 → d ≤ a := by
  intro a
  induction a using Nat.strongRecOn with
  | ind a ih =>
    intro d ha h
    rw [isb_s hp hn ha] at h
    by_cases y : a = d
    · omega
    · rw [if_neg y] at h
      by_cases z : a = 0
      · rw [if_pos z] at h; exact absurd h (by decide)
      · rw [if_neg z] at h
        have := (hp.2 a (by omega) ha).2
        have := ih (p a) this d (by omega) h
        omega
/-- the method that is called has the kinds that were told -/
theorem vrt_l (hL : Lkd P Z n k s E F G p A B) {r0 cl c0 : Nat} (h0 : r0 < k) (h25 : B (Z + 25) r0 = 1) (hc0 : c0 < n) (hcl : cl < n) (hup : upw p (mtf Z B (B (Z + 16) r0) 1 k) 19 cl = some r0) : ∀ cc, cc < n → isb p cc cl = 1 → ∃ r, upw p (mtf Z B (B (Z + 16) r0) 1 k) 19 cc = some r ∧ r < k ∧ B (Z + 25) r = 1 ∧ B (Z + 18) r = B (Z + 18) r0 ∧ B (Z + 19) r = B (Z + 19) r0 ∧ B (Z + 20) r = B (Z + 20) r0 := by
  have n19 := hL.1.2.2.2.1
  have pa := hL.1.2.2.2.2.2.2.2.1
  have hsm := hL.2.1.2.2.2.2.2.2.2.2
  have k24 := hL.1.2.2.2.2.1
  have hm : ∀ y v c r, mtf Z B y v k c = some r → r < k ∧ B (Z + 15) r = Int32.ofNat c ∧ B (Z + 16) r = y ∧ B (Z + 25) r = v := by
    intro y v c r h
    obtain ⟨a1, a2, -⟩ := fdn_some h
    have := of_decide_eq_true a2
    exact ⟨a1, this.1, this.2.1, this.2.2⟩
  intro cc
  induction cc using Nat.strongRecOn with
  | ind cc ih =>
    intro hc h1
    by_cases y : cc = cl
    · subst y
      exact ⟨r0, hup, h0, h25, rfl, rfl, rfl⟩
    · rw [isb_s pa n19 hc, if_neg y] at h1
      by_cases z : cc = 0
      · rw [if_pos z] at h1; exact absurd h1 (by decide)
      · rw [if_neg z] at h1
        have hpc := (pa.2 cc (by omega) hc).2
        obtain ⟨a, a1, a2, a3, a4, a5, a6⟩ := ih (p cc) hpc (by omega) h1
        rw [show (19 : Nat) = 18 + 1 from rfl, upw]
        cases hz : mtf Z B (B (Z + 16) r0) 1 k cc with
        | some r =>
          obtain ⟨x1, x2, x3, x4⟩ := hm _ _ _ _ hz
          obtain ⟨s1, s2, s3⟩ := hsm r cc x1 hc x4 x2 (by omega) a (by rw [x3]; exact a1)
          exact ⟨r, rfl, x1, x4, by rw [← s1, a4], by rw [← s2, a5], by rw [← s3, a6]⟩
        | none =>
          dsimp only
          rw [if_neg z, upw_d pa _ (p cc) 18 19 (by omega) (by omega) (by omega)]
          exact ⟨a, a1, a2, a3, a4, a5, a6⟩
theorem op_49 (hP : Hid (P = 3 ∨ P = 18)) (hP2 : 3 ≤ P ∧ P ≤ 18) (hZ2 : 85 ≤ Z ∧ Z ≤ 126) (hL : Lkd P Z n k s E F G p A0 B0) (hT : ∀ m, m < k → TyM B0 Z m (F (m + 1) - F m) (F m) G (VV m)) (h : MC P Z n k s E F p A0 B0 VV oa os hk NO U EV dp m i c fr t l A B) (hc : c < 20000) (ho : opn B0 Z (F m + i) = 49) : StepOK P Z n k s E F p A0 B0 VV c A B := by
  have hkn := kno hP hZ2 hL hT h
  obtain ⟨hLk, kx, ko, kt, k16, klo, kfu, klp, kvis, ka, kb1, kF, kF2, kk, k27⟩ := hkn
  have h' := h
  obtain ⟨c1, c2, c3, ⟨r1, r2, r3, r4, r5, r6, r7, r8, r9, r10, r11, r12⟩, c5, c6, c7⟩ := h'
  obtain ⟨t', hef, hnx, hlb, htr⟩ := kvis
  have hpt : PT dp t.1 (up2 A 68 10 (Int32.ofNat (i + 1))) B := ⟨by rw [up2_o (by omega)]; exact c6.1, c6.2.1, c6.2.2.1, by rw [up2_o (by omega)]; exact c6.2.2.2.1, c6.2.2.2.2⟩
  have hA1 : ∀ a b, (a ≠ 68 ∨ (b ≠ 10 ∧ b ≠ 11)) → up2 A 68 10 (Int32.ofNat (i + 1)) a b = A a b := fun a b y => up2_o (by omega)
  have dp24 := c6.2.2.1
  have haft : aft B0 Z (F m + i) t l = l := by unfold aft; rw [if_neg (by omega)]
  obtain ⟨hi3, hinc⟩ := hnx (by omega)
  rw [haft] at hinc
  obtain ⟨o, o1, o2, o3, o4, o5, o6, o7, o8, o9⟩ := klp
  have eo : o = 49 := by rw [kb1, ho, i32_eq (by omega) (Nat.lt_trans o1 (by decide))] at o3; exact o3.symm
  subst eo
  obtain ⟨cl, r, fn, f2, f3, f4, -, -, f7, -⟩ := o9 (by decide)
  obtain ⟨hrk, f8⟩ := f7 rfl
  clear o4 o5 o6 o7 o8 o9
  have einn : inn B0 Z (F m + i) = r := by unfold inn; rw [← k27, f4, i32_cl (by omega)]
  obtain ⟨w1, w2, w3, w4, w5, w6, w7, w8, w9, w10⟩ := lk_mh hL hrk
  have hrs : irs B0 Z (F m + i) = mrt B0 Z r := by unfold irs mrt; rw [if_pos (by omega), einn]
  have hrf : irf B0 Z (F m + i) = mrf B0 Z r := by unfold irf mrf; rw [if_pos (by omega), einn]
  have hcn : icn B0 Z (F m + i) = mkc B0 Z r := by unfold icn mkc; rw [if_pos (by omega), einn]
  have hi : inb (Int32.ofNat (F m + i)) 2400 := (i32_inb (by omega)).mpr (by omega)
  have hcl : (Int32.ofNat (F m + i)).toNatClampNeg = F m + i := i32_cl (by omega)
  have hi2 : inb (Int32.ofNat r) 24 := (i32_inb (by omega)).mpr (by omega)
  have hcl2 : (Int32.ofNat r).toNatClampNeg = r := i32_cl (by omega)
  have hA4 : up2 A 68 10 (Int32.ofNat (i + 1)) (P + 8) (16 * r + 4) = Int32.ofNat (mkc B0 Z r) := by rw [up2_o (by omega), c1.1 _ _ (by omega) (by omega)]; exact w6
  have hB18 : B (Z + 18) r = Int32.ofNat (mkc B0 Z r) := by rw [c1.2 _ _ (by omega)]; exact w7
  have e16 : (16 : Int32) * Int32.ofNat dp + Int32.ofNat t.1 = Int32.ofNat (16 * dp + t.1) := i32_m16
  have hown : mow B0 Z r = 0 := by
    have : B0 (Z + 25) r = 0 := by rw [← c1.2 _ _ (by omega)]; exact f8
    unfold mow; rw [this]; rfl
  have hef' : (tkz (ckl (mrf B0 Z r) (mkc B0 Z r)) t).bind (pso (irs B0 Z (F m + i))) = some t' := by
    have : efB B0 Z m (F m + i) t l = (tkz (ckl (irf B0 Z (F m + i)) (icn B0 Z (F m + i))) t).bind (pso (irs B0 Z (F m + i))) := by unfold efB; rw [ho]; rfl
    rw [this, hrf, hcn] at hef; exact hef
  obtain ⟨u, g1, g2⟩ := Option.bind_eq_some_iff.mp hef'
  obtain ⟨z1, z2, z3, z4, z5⟩ := tkz_y g1 kt
  rw [ckl_len] at z1 z2 z5
  obtain ⟨ux, ur⟩ := u
  have z2 : ux = t.1 - mkc B0 Z r := z2
  subst z2
  have htk0 : mow B0 Z r + mkc B0 Z r = mkc B0 Z r := by omega
  refine ent_l (r := r) (tk := mkc B0 Z r) (ur := ur) hP hP2 hZ2 hL hT h hc hrk htk0.symm z1 (fun q hq => ?_) z4 z3 (Or.inl ho) hrs ⟨t', g2, hi3, hinc⟩ ?_ ?_
  · have := (z5 (mkc B0 Z r - 1 - q) (by omega)).resolve_left (by rw [ckl_get _ _ (by omega)]; rcases knd_12 (rf := mrf B0 Z r) (i := mkc B0 Z r - 1 - (mkc B0 Z r - 1 - q)) with y | y <;> rw [y] <;> decide)
    rw [ckl_get _ _ (by omega), show t.1 - 1 - (mkc B0 Z r - 1 - q) = t.1 - mkc B0 Z r + q by omega, show mkc B0 Z r - 1 - (mkc B0 Z r - 1 - q) = q by omega] at this
    rw [this, hown, if_neg (by omega), Nat.sub_zero]
  · rw [ka, ho, x129_h (by omega) (by omega), if_neg (by decide), if_neg (by decide), if_neg (by decide), if_neg (by decide), if_pos (by decide)]; unfold x163; rw [if_pos (by decide), Option.bind_fun_some, f3]
    simp (disch := omega) only [tP7 hP]
    rw [hA4]
  · rw [x238_d kx r4 kb1 ko (by omega), ho]; unfold actR; rw [if_neg (by decide), if_neg (by decide), if_neg (by decide), if_neg (by decide), if_neg (by decide), if_neg (by decide), if_neg (by decide), if_neg (by decide), if_neg (by decide), if_neg (by decide), if_neg (by decide)]; unfold x251; rw [if_neg (by decide), if_neg (by decide), if_neg (by decide), if_neg (by decide), if_neg (by decide), if_neg (by decide), if_neg (by decide), if_neg (by decide), if_neg (by decide), if_neg (by decide), if_neg (by decide), if_neg (by decide), if_pos (by decide), Option.bind_fun_some]
    unfold x259
    rw [if_neg (show ¬ Int32.ofNat 49 = 50 by decide), Option.bind_some]
    simp only [if_pos hi, hcl, f4, if_pos hi2, hcl2, hB18, Lt, c6.2.1, c6.2.2.2.2.1, e16]
    rw [show Int32.ofNat (mkc B0 Z r) + 0 = Int32.ofNat (mkc B0 Z r) from i32_a _ 0, i32_sb (by omega), if_neg (by decide), show 16 * dp + t.1 - mkc B0 Z r = 16 * dp + (t.1 - mkc B0 Z r) by omega]
    unfold entR
    rw [c6.2.1]
    by_cases y : Int32.ofNat dp = 23
    · rw [if_pos y, if_pos y]
    · rw [if_neg y, if_neg y]
      unfold Lt
      rw [c6.2.2.2.2.1]
      simp only [if_pos hi2, hcl2]
theorem op_50 (hP : Hid (P = 3 ∨ P = 18)) (hP2 : 3 ≤ P ∧ P ≤ 18) (hZ2 : 85 ≤ Z ∧ Z ≤ 126) (hL : Lkd P Z n k s E F G p A0 B0) (hT : ∀ m, m < k → TyM B0 Z m (F (m + 1) - F m) (F m) G (VV m)) (h : MC P Z n k s E F p A0 B0 VV oa os hk NO U EV dp m i c fr t l A B) (hc : c < 20000) (ho : opn B0 Z (F m + i) = 50) : StepOK P Z n k s E F p A0 B0 VV c A B := by
  have hkn := kno hP hZ2 hL hT h
  obtain ⟨hLk, kx, ko, kt, k16, klo, kfu, klp, kvis, ka, kb1, kF, kF2, kk, k27⟩ := hkn
  have h' := h
  obtain ⟨c1, c2, c3, ⟨r1, r2, r3, r4, r5, r6, r7, r8, r9, r10, r11, r12⟩, c5, c6, c7⟩ := h'
  obtain ⟨t', hef, hnx, hlb, htr⟩ := kvis
  have hpt : PT dp t.1 (up2 A 68 10 (Int32.ofNat (i + 1))) B := ⟨by rw [up2_o (by omega)]; exact c6.1, c6.2.1, c6.2.2.1, by rw [up2_o (by omega)]; exact c6.2.2.2.1, c6.2.2.2.2⟩
  have hA1 : ∀ a b, (a ≠ 68 ∨ (b ≠ 10 ∧ b ≠ 11)) → up2 A 68 10 (Int32.ofNat (i + 1)) a b = A a b := fun a b y => up2_o (by omega)
  have dp24 := c6.2.2.1
  have haft : aft B0 Z (F m + i) t l = l := by unfold aft; rw [if_neg (by omega)]
  obtain ⟨hi3, hinc⟩ := hnx (by omega)
  rw [haft] at hinc
  obtain ⟨o, o1, o2, o3, o4, o5, o6, o7, o8, o9⟩ := klp
  have eo : o = 50 := by rw [kb1, ho, i32_eq (by omega) (Nat.lt_trans o1 (by decide))] at o3; exact o3.symm
  subst eo
  obtain ⟨cl, d1, d2, d3⟩ := o8 (by decide)
  obtain ⟨cl', r, fn, f2, f3, f4, -, -, -, f7⟩ := o9 (by decide)
  obtain ⟨hrk, f8, f9⟩ := f7 rfl
  clear o4 o5 o6 o7 o8 o9
  have n19 := hL.1.2.2.2.1
  have hn7 := hL.1.2.2.1
  obtain rfl : cl' = cl := by rw [f2, i32_eq (by omega) (by omega)] at d3; exact d3
  have einn : inn B0 Z (F m + i) = r := by unfold inn; rw [← k27, f4, i32_cl (by omega)]
  obtain ⟨w1, w2, w3, w4, w5, w6, w7, w8, w9, w10⟩ := lk_mh hL hrk
  have hrs : irs B0 Z (F m + i) = mrt B0 Z r := by unfold irs mrt; rw [if_pos (by omega), einn]
  have hrf : irf B0 Z (F m + i) = mrf B0 Z r := by unfold irf mrf; rw [if_pos (by omega), einn]
  have hcn : icn B0 Z (F m + i) = mkc B0 Z r := by unfold icn mkc; rw [if_pos (by omega), einn]
  have hi : inb (Int32.ofNat (F m + i)) 2400 := (i32_inb (by omega)).mpr (by omega)
  have hcl : (Int32.ofNat (F m + i)).toNatClampNeg = F m + i := i32_cl (by omega)
  have hi2 : inb (Int32.ofNat r) 24 := (i32_inb (by omega)).mpr (by omega)
  have hcl2 : (Int32.ofNat r).toNatClampNeg = r := i32_cl (by omega)
  have hA4 : up2 A 68 10 (Int32.ofNat (i + 1)) (P + 8) (16 * r + 4) = Int32.ofNat (mkc B0 Z r) := by rw [up2_o (by omega), c1.1 _ _ (by omega) (by omega)]; exact w6
  have hB18 : B (Z + 18) r = Int32.ofNat (mkc B0 Z r) := by rw [c1.2 _ _ (by omega)]; exact w7
  have e16 : (16 : Int32) * Int32.ofNat dp + Int32.ofNat t.1 = Int32.ofNat (16 * dp + t.1) := i32_m16
  have hown : mow B0 Z r = 1 := by
    have : B0 (Z + 25) r = 1 := by rw [← c1.2 _ _ (by omega)]; exact f8
    unfold mow; rw [this]; rfl
  have hef' : (tkz (ckl (mrf B0 Z r) (mkc B0 Z r)) t).bind (fun u => (tkk 2 u).bind (pso (irs B0 Z (F m + i)))) = some t' := by
    have : efB B0 Z m (F m + i) t l = (tkz (ckl (irf B0 Z (F m + i)) (icn B0 Z (F m + i))) t).bind (fun u => (tkk 2 u).bind (pso (irs B0 Z (F m + i)))) := by unfold efB; rw [ho]; rfl
    rw [this, hrf, hcn] at hef; exact hef
  obtain ⟨u, g1, g2⟩ := Option.bind_eq_some_iff.mp hef'
  obtain ⟨z1, z2, z3, z4, z5⟩ := tkz_y g1 kt
  obtain ⟨u2, g3, g4⟩ := Option.bind_eq_some_iff.mp g2
  obtain ⟨q1, q2, rfl⟩ := tkk_y g3
  have q2 := q2.resolve_left (by decide)
  rw [ckl_len] at z1 z2 z5
  obtain ⟨ux, ur⟩ := u
  have z2 : ux = t.1 - mkc B0 Z r := z2
  subst z2
  have q1 : 0 < t.1 - mkc B0 Z r := q1
  have z3 : ∀ j, j < t.1 - mkc B0 Z r → kbt ur j = kbt t.2 j := z3
  have q2 : kbt t.2 (t.1 - (mkc B0 Z r + 1)) = 2 := by
    rw [skd_kb] at q2
    have q2 : kbt ur (t.1 - mkc B0 Z r - 1) = 2 := q2
    rw [z3 _ (by omega)] at q2
    rw [show t.1 - (mkc B0 Z r + 1) = t.1 - mkc B0 Z r - 1 by omega]; exact q2
  have hus : spp (t.1 - mkc B0 Z r, ur) = (t.1 - (mkc B0 Z r + 1), ur % 2 ^ (t.1 - mkc B0 Z r - 1)) := by
    unfold spp; rw [show t.1 - (mkc B0 Z r + 1) = t.1 - mkc B0 Z r - 1 by omega]
  have huok := spp_ok z4
  rw [hus] at g4 huok
  have hur : ∀ j, j < t.1 - (mkc B0 Z r + 1) → kbt (ur % 2 ^ (t.1 - mkc B0 Z r - 1)) j = kbt t.2 j := fun j hj => by rw [kbt_mod (by omega), z3 j (by omega)]
  have hkd : ∀ q, q < mkc B0 Z r + 1 → kbt t.2 (t.1 - (mkc B0 Z r + 1) + q) = if q < 1 then 2 else knd (mrf B0 Z r) (q - 1) := by
    intro q hq
    by_cases y : q < 1
    · rw [if_pos y, show t.1 - (mkc B0 Z r + 1) + q = t.1 - (mkc B0 Z r + 1) by omega]; exact q2
    · have := (z5 (mkc B0 Z r - q) (by omega)).resolve_left (by rw [ckl_get _ _ (by omega)]; rcases knd_12 (rf := mrf B0 Z r) (i := mkc B0 Z r - 1 - (mkc B0 Z r - q)) with y | y <;> rw [y] <;> decide)
      rw [ckl_get _ _ (by omega), show t.1 - 1 - (mkc B0 Z r - q) = t.1 - (mkc B0 Z r + 1) + q by omega, show mkc B0 Z r - 1 - (mkc B0 Z r - q) = q - 1 by omega] at this
      rw [if_neg y]; exact this
  obtain ⟨v0, w0, a0, b0, y0, m0⟩ := tp_l hpt c7 (d := mkc B0 Z r) (by omega) (y := Int32.ofNat (mkc B0 Z r)) rfl
  rw [show t.1 - 1 - mkc B0 Z r = t.1 - (mkc B0 Z r + 1) by omega] at y0 m0
  rw [q2] at y0
  have hcl0 : cl' ≠ 0 := by
    intro z
    subst z
    obtain ⟨e, e1, e2, e3⟩ := upw_w (p := p) (n := n) (fun c z1 z2 => (hL.1.2.2.2.2.2.2.2.1.2 c z1 z2).2) 19 0 d1 f9
    have : isb p 0 e = 1 := by unfold isb; exact if_pos e3
    rw [isb_s hL.1.2.2.2.2.2.2.2.1 n19 d1] at this
    have e0 : e = 0 := by
      by_cases y : 0 = e
      · exact y.symm
      · rw [if_neg y, if_pos rfl] at this; exact absurd this (by decide)
    subst e0
    obtain ⟨x1, x2, -⟩ := fdn_some e2
    have x2 := of_decide_eq_true x2
    exact absurd (m7 hLk hrk x2.1 (by decide)) (by decide)
  have hC : x129 P (up2 A 68 10 (Int32.ofNat (i + 1))) (A (P + 10) (3 * (F m + i))) (A (P + 10) (3 * (F m + i) + 1)) (A (P + 10) (3 * (F m + i) + 2)) = (x148 P (up2 A 68 10 (Int32.ofNat (i + 1))) v0 (Int32.ofNat cl')).bind fun q1 => if q1 = 0 then x164 (up2 A 68 10 (Int32.ofNat (i + 1))) (tget (up2 A 68 10 (Int32.ofNat (i + 1))) (P + 13) (x149 (up2 A 68 10 (Int32.ofNat (i + 1))) v0) (Int32.ofNat r)) (Int32.ofNat (mkc B0 Z r + 1)) else (l165_44 P (Int32.ofNat (mkc B0 Z r + 1)) q1 100000 0 0 (up2 A 68 10 (Int32.ofNat (i + 1)))).bind fun q3 => x138 (up2 A 68 10 (Int32.ofNat (i + 1))) q1 q3 := by
    rw [ka, ho, x129_h (by omega) (by omega), if_neg (by decide), if_neg (by decide), if_neg (by decide), if_neg (by decide), if_pos (by decide)]; unfold x163; rw [if_neg (by decide), if_pos (by decide), Option.bind_fun_some, f3, d2]
    unfold x165
    simp (disch := omega) only [tP7 hP]
    rw [hA4, i32_s, i32_p, a0]
    simp only [Option.bind_fun_some]
  have hbase : Int32.ofNat (16 * dp + t.1) - Int32.ofNat (mkc B0 Z r + 1) = Int32.ofNat (16 * dp + (t.1 - (mkc B0 Z r + 1))) := by rw [i32_sb (by omega), show 16 * dp + t.1 - (mkc B0 Z r + 1) = 16 * dp + (t.1 - (mkc B0 Z r + 1)) by omega]
  have hib : inb (Int32.ofNat (16 * dp + (t.1 - (mkc B0 Z r + 1)))) 384 := (i32_inb (by omega)).mpr (by omega)
  have hcb : (Int32.ofNat (16 * dp + (t.1 - (mkc B0 Z r + 1)))).toNatClampNeg = 16 * dp + (t.1 - (mkc B0 Z r + 1)) := i32_cl (by omega)
  generalize hW : orw (fun q => B 199 (16 * dp + (t.1 - (mkc B0 Z r + 1)) + q)) (mkc B0 Z r + 1) = W
  have hl1 : l259_71 Z (Int32.ofNat (F m + i)) (Int32.ofNat r) (Int32.ofNat (mkc B0 Z r + 1)) (Int32.ofNat (16 * dp + (t.1 - (mkc B0 Z r + 1)))) (B 198 (16 * dp + (t.1 - (mkc B0 Z r + 1)))) 100000 0 0 B = some W := by
    rw [← hW]
    exact l259_o (by omega) (mkc B0 Z r + 1) 0 100000 (by omega) (by omega)
  have hl2 : ∀ q1, l165_44 P (Int32.ofNat (mkc B0 Z r + 1)) q1 100000 0 0 (up2 A 68 10 (Int32.ofNat (i + 1))) = some W := by
    intro q1
    have e : orw (fun q => B 199 (16 * dp + (t.1 - (mkc B0 Z r + 1)) + (mkc B0 Z r + 1 - 1 - q))) (mkc B0 Z r + 1) = W := by
      rw [← hW]; exact orw_r _ (fun q => B 199 (16 * dp + (t.1 - (mkc B0 Z r + 1)) + q))
    rw [← e]
    refine l165_n (by omega) (fun q hq => ?_) (mkc B0 Z r + 1) 0 100000 (by omega) (by omega)
    obtain ⟨v, w, -, x2, -, x4⟩ := tp_l hpt c7 (d := q) (by omega) (y := Int32.ofNat q) rfl
    rw [x2, ← x4]
    congr 1
    omega
  have hn26 : upw p (mtf Z B (B (Z + 16) r) 1 k) 19 cl' = some r := f9
  have hR : x238 Z B = x259 Z B (Int32.ofNat (F m + i)) 50 := by
    rw [x238_d kx r4 kb1 ko (by omega), ho]; unfold actR; rw [if_neg (by decide), if_neg (by decide), if_neg (by decide), if_neg (by decide), if_neg (by decide), if_neg (by decide), if_neg (by decide), if_neg (by decide), if_neg (by decide), if_neg (by decide), if_neg (by decide)]; unfold x251; rw [if_neg (by decide), if_neg (by decide), if_neg (by decide), if_neg (by decide), if_neg (by decide), if_neg (by decide), if_neg (by decide), if_neg (by decide), if_neg (by decide), if_neg (by decide), if_neg (by decide), if_neg (by decide), if_neg (by decide), if_pos (by decide), Option.bind_fun_some]
    rfl
  unfold x259 at hR
  rw [if_pos rfl, Option.bind_some] at hR
  simp only [if_pos hi, hcl, f4, if_pos hi2, hcl2, hB18, Lt, c6.2.1, c6.2.2.2.2.1, e16, i32_s, hbase, if_pos hib, hcb, hl1, Option.bind_some, f2, if_true, Option.bind_fun_some] at hR
  rcases y0.r with ⟨y1, y2⟩ | ⟨o, hr, y1, y2⟩
  · rw [y1] at hC
    unfold x148 at hC
    rw [if_pos rfl, Option.bind_some, if_neg (by decide), hl2, Option.bind_some] at hC
    rw [y2, if_pos rfl, if_pos rfl, Option.bind_some] at hR
    exact flt_l (cls := 2) (w := W) (A1 := up2 A 68 10 (Int32.ofNat (i + 1))) (B1 := B) hP hP2 hZ2 hL hT h hc (by decide) hA1 (fun _ _ _ => rfl) hC hR
  · have hg1 : GCo B0 Z n s p E oa os hk NO U EV (up2 A 68 10 (Int32.ofNat (i + 1))) B := c2.of (fun a b y => up2_o (by omega)) (fun _ _ _ => rfl)
    have hLk1 : Lkd P Z n k s E F G p (up2 A 68 10 (Int32.ofNat (i + 1))) B := hLk.of (fun a b y1 y2 _ => up2_o (by omega)) (fun _ _ _ => rfl)
    obtain ⟨-, cc, hv, hob⟩ := ob_cv hn7 hg1 hr
    obtain ⟨e1, e2⟩ := cls_l hg1 hr rfl
    obtain ⟨t1, t2, t3⟩ := obf_l hP hLk1.1 hv e2 d1 hcl0 e1
    have hn0 : ¬ Int32.ofNat (o + 1) = 0 := i32_n0 (by omega)
    have hio : inb (Int32.ofNat o) 3001 := (i32_inb (by omega)).mpr (by omega)
    have hco : (Int32.ofNat o).toNatClampNeg = o := i32_cl (by omega)
    rw [y1, t1, Option.bind_some] at hC
    rw [y2, if_neg hn0, t2, Option.bind_some] at hR
    by_cases q : isb p cc cl' = 0
    · rw [if_pos q, if_neg (by decide), hl2, Option.bind_some] at hC
      rw [if_pos q, if_pos rfl, if_neg hn0, Option.bind_some] at hR
      exact flt_l (cls := 6) (w := W) (A1 := up2 A 68 10 (Int32.ofNat (i + 1))) (B1 := B) hP hP2 hZ2 hL hT h hc (by decide) hA1 (fun _ _ _ => rfl) hC hR
    · obtain ⟨t4, t5⟩ := t3 q
      obtain ⟨r1', s1, s2, s3, s4, s5, s6⟩ := vrt_l (c0 := cl') hLk hrk f8 d1 d1 f9 cc hv.1 t4
      rw [if_neg q, if_pos rfl, e1, t5] at hC
      rw [if_neg q, if_neg (by decide), i32_p] at hR
      simp only [if_pos hio, hco, t5] at hR
      rw [x219_f hLk.1.2.2.2.2.2.2.2.2.1 n19 hLk.2.1.2.1 kk hv.1, s1, Option.bind_some] at hR
      have hcc7 : 7 ≤ cc := by
        obtain ⟨e, x1, x2, x3⟩ := upw_w (p := p) (n := n) (fun c z1 z2 => (hL.1.2.2.2.2.2.2.2.1.2 c z1 z2).2) 19 cc hv.1 s1
        have : isb p cc e = 1 := by unfold isb; exact if_pos x3
        have hle := isb_le hL.1.2.2.2.2.2.2.2.1 n19 cc e hv.1 this
        obtain ⟨y1, y2, -⟩ := fdn_some x2
        have y2 := of_decide_eq_true y2
        by_cases h7 : 7 ≤ e
        · omega
        · exact absurd (m7 hLk s2 y2.1 (by omega)) h7
      have hcn := hv.1
      have eca : tget (up2 A 68 10 (Int32.ofNat (i + 1))) (P + 13) (Int32.ofNat cc) (Int32.ofNat r) = Int32.ofNat r1' := by
        rw [tP13 hP (by omega) (by omega), up2_o (by omega), hLk.2.1.2.2.2.2.2.2.2.1 r hrk f8 cc hcc7 hv.1, s1]; rfl
      rw [eca] at hC
      have m1 : mow B0 Z r1' = 1 := by unfold mow; rw [← c1.2 _ _ (by omega), s3]; rfl
      have m2 : mkc B0 Z r1' = mkc B0 Z r := by unfold mkc; rw [← c1.2 _ _ (by omega), s4, c1.2 _ _ (by omega)]
      have m3 : mrf B0 Z r1' = mrf B0 Z r := by unfold mrf; rw [← c1.2 _ _ (by omega), s5, c1.2 _ _ (by omega)]
      have m4 : mrt B0 Z r1' = mrt B0 Z r := by unfold mrt; rw [← c1.2 _ _ (by omega), s6, c1.2 _ _ (by omega)]
      refine ent_l (r := r1') (tk := mkc B0 Z r + 1) (ur := ur % 2 ^ (t.1 - mkc B0 Z r - 1)) hP hP2 hZ2 hL hT h hc s2 (by rw [m1, m2]; omega) (by omega) (fun q hq => by rw [m1, m3]; exact hkd q hq) huok hur (Or.inr ho) (by rw [hrs, m4]) ⟨t', g4, hi3, hinc⟩ hC ?_
      rw [hR]
      unfold entR
      rw [c6.2.1]
      by_cases y : Int32.ofNat dp = 23
      · rw [if_pos y, if_pos y]
      · rw [if_neg y, if_neg y]
        unfold Lt
        rw [c6.2.2.2.2.1]
        rfl
end
