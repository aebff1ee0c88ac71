/-! new -/
section
variable {P Z n k s : Nat} {E F G p oa os hk : Nat → Nat} {A0 B0 A B A' B' : St} {VV : Nat → Nat → Option VEn} {NO U EV dp m i c x o : Nat} {fr : Nat → FrT} {t : Nat × Nat} {l : Nat × Nat × Nat}
theorem fkd_12 (hL : LPc P Z n s k E p A0 B0) : ∀ c, c < n → ∀ q, q < alf p E 19 c → fkd B0 Z p E 19 c q = 1 ∨ fkd B0 Z p E 19 c q = 2 := by
  have n19 := hL.2.2.2.1
  have n7 := hL.2.2.1
  have pa := hL.2.2.2.2.2.2.2.1
  obtain ⟨hEm, hE0, hE96⟩ := E_mo hL
  have hp : ∀ c, 0 < c → c < n → p c < c := fun c z1 z2 => (pa.2 c z1 z2).2
  intro c
  induction c using Nat.strongRecOn with
  | ind c ih =>
    intro hc q hq
    show (if c = 0 then 1 else if q < alf p E 19 (p c) then fkd B0 Z p E 18 (p c) q else (B0 (Z + 11) (E c + (q - alf p E 19 (p c)))).toNatClampNeg) = 1 ∨ (if c = 0 then 1 else if q < alf p E 19 (p c) then fkd B0 Z p E 18 (p c) q else (B0 (Z + 11) (E c + (q - alf p E 19 (p c)))).toNatClampNeg) = 2
    by_cases z : c = 0
    · rw [if_pos z]; exact Or.inl rfl
    · have hpc := hp c (by omega) hc
      rw [if_neg z]
      by_cases y : q < alf p E 19 (p c)
      · rw [if_pos y, fkd_d hp (p c) 18 19 q (by omega) (by omega) (by omega)]
        exact ih (p c) hpc (by omega) q y
      · rw [if_neg y]
        rw [alf_s hp n19 hc (by omega)] at hq
        have := hEm (c + 1) n (by omega) (Nat.le_refl _)
        rcases (hL.2.2.2.2.2.2.2.2.2.2.2.1 (E c + (q - alf p E 19 (p c))) (by omega)).2 with y | y <;> rw [y]
        · exact Or.inl rfl
        · exact Or.inr rfl
/-- the new object's slot for kind kd -/
def nul (kd : Nat) : Int32 := if kd = 2 then -1 else 0
theorem l145_i {NO U a : Nat} {b3 b4 : Int32} (hP : Hid (P = 3 ∨ P = 18)) (hP2 : 3 ≤ P ∧ P ≤ 18) (hL : LPc P Z n s k E p A B) (ha : a < n) (hNO : NO < 3000) (hU : U + alf p E 19 a ≤ 3000) : ∀ d j f (I : St), j + d = E (a + 1) → E a ≤ j → d < f → (∀ b, I (P + 4) b = A (P + 4) b) → I 71 (4 * NO + 1) = Int32.ofNat U → (∀ q, alf p E 19 a - (E (a + 1) - j) ≤ q → q < alf p E 19 a → I 73 (2 * (U + q)) = 0 ∧ I 73 (2 * (U + q) + 1) = 0) → ∃ J, l145_86 P (Int32.ofNat NO) b3 b4 (Int32.ofNat (E (a + 1))) f (Int32.ofNat j) I = some J ∧ (∀ x y, (x ≠ 73 ∨ y < 2 * (U + (alf p E 19 a - (E (a + 1) - j))) ∨ 2 * (U + alf p E 19 a) ≤ y) → J x y = I x y) ∧ ∀ q, alf p E 19 a - (E (a + 1) - j) ≤ q → q < alf p E 19 a → J 73 (2 * (U + q)) = nul (B (Z + 11) (E a + (q - (alf p E 19 a - (E (a + 1) - E a))))).toNatClampNeg ∧ J 73 (2 * (U + q) + 1) = 0 := by
  have n19 := hL.2.2.2.1
  have n7 := hL.2.2.1
  have pa := hL.2.2.2.2.2.2.2.1
  obtain ⟨hEm, hE0, hE96⟩ := E_mo hL
  have hp : ∀ c, 0 < c → c < n → p c < c := fun c z1 z2 => (pa.2 c z1 z2).2
  have hE1 := hEm (a + 1) n (by omega) (Nat.le_refl _)
  have e7 := hL.2.2.2.2.2.2.1
  intro d
  induction d with
  | zero =>
    intro j f I h1 h2 h3 h4 h5 h6
    obtain ⟨f, rfl⟩ : ∃ g, f = g + 1 := ⟨f - 1, by omega⟩
    exact ⟨I, by rw [l145_86, if_pos ((i32_le (by omega) (by omega)).mpr (by omega))], fun _ _ _ => rfl, fun q y1 y2 => by omega⟩
  | succ d ih =>
    intro j f I h1 h2 h3 h4 h5 h6
    obtain ⟨f, rfl⟩ : ∃ g, f = g + 1 := ⟨f - 1, by omega⟩
    have ha7 : 7 ≤ a := by
      by_cases y : a + 1 ≤ 7
      · have := hEm (a + 1) 7 y (by omega); omega
      · omega
    have has := alf_s (E := E) hp n19 ha (by omega : 0 < a)
    have hpc := hp a (by omega) ha
    obtain ⟨k1, k2⟩ := hL.2.2.2.2.2.2.2.2.2.2.2.1 j (by omega)
    have k3 := hL.2.2.2.2.2.2.2.2.2.2.2.2.1 a ha7 ha j h2 (by omega)
    have eoff : alf p E 19 (p a) + (j - E a) = alf p E 19 a - (E (a + 1) - j) := by omega
    rw [eoff] at k3
    have e11 : E a + (alf p E 19 a - (E (a + 1) - j) - (alf p E 19 a - (E (a + 1) - E a))) = j := by omega
    obtain ⟨z1, z2⟩ := h6 (alf p E 19 a - (E (a + 1) - j)) (Nat.le_refl _) (by omega)
    rw [l145_86, if_neg (by rw [i32_le (by omega) (by omega)]; omega)]
    simp (disch := omega) only [tP3 hP]
    rw [h4, h4, k1, k3, i32_s]
    by_cases y : B (Z + 11) j = 2
    · rw [if_pos y]
      unfold x146 tset2
      simp (disch := omega) only [m70, h5, i32_a, m72]
      rw [Option.bind_some]
      generalize hof : alf p E 19 a - (E (a + 1) - j) = off at z1 z2 e11 eoff ⊢
      obtain ⟨J, j1, j2, j3⟩ := ih (j + 1) f (up2 (up2 I 73 (2 * (U + off)) (-1)) 73 (2 * (U + off) + 1) 0) (by omega) (by omega) (by omega) (fun b => by rw [up2_o (by omega), up2_o (by omega)]; exact h4 b) (by rw [up2_o (by omega), up2_o (by omega)]; exact h5) (fun q y1 y2 => by rw [up2_o (by omega), up2_o (by omega), up2_o (by omega), up2_o (by omega)]; exact h6 q (by omega) y2)
      refine ⟨J, j1, fun x y z => by rw [j2 x y (by omega), up2_o (by omega), up2_o (by omega)], fun q y1 y2 => ?_⟩
      by_cases y3 : q = off
      · subst y3
        rw [j2 _ _ (by omega), j2 _ _ (by omega), up2_o (by omega), up2_s, up2_s, e11, y]
        exact ⟨rfl, rfl⟩
      · exact j3 q (by omega) y2
    · rw [if_neg y]
      generalize hof : alf p E 19 a - (E (a + 1) - j) = off at z1 z2 e11 eoff ⊢
      obtain ⟨J, j1, j2, j3⟩ := ih (j + 1) f I (by omega) (by omega) (by omega) h4 h5 (fun q y1 y2 => h6 q (by omega) y2)
      refine ⟨J, j1, fun x y z => j2 x y (by omega), fun q y1 y2 => ?_⟩
      by_cases y3 : q = off
      · subst y3
        rw [j2 _ _ (by omega), j2 _ _ (by omega), e11, z1, z2, k2.resolve_right y]
        exact ⟨rfl, rfl⟩
      · exact j3 q (by omega) y2
theorem l145_o {NO U : Nat} (hP : Hid (P = 3 ∨ P = 18)) (hP2 : 3 ≤ P ∧ P ≤ 18) (hL : LPc P Z n s k E p A B) (hNO : NO < 3000) : ∀ a, a < n → ∀ f b (I : St), U + alf p E 19 a ≤ 3000 → a + 2 ≤ f → b + a < 19 → (∀ x y, P + 1 ≤ x → x ≤ P + 4 → I x y = A x y) → I 71 (4 * NO + 1) = Int32.ofNat U → (∀ q, q < alf p E 19 a → I 73 (2 * (U + q)) = 0 ∧ I 73 (2 * (U + q) + 1) = 0) → ∃ J, l145_39 P (Int32.ofNat NO) f (Int32.ofNat a) (Int32.ofNat b) I = some J ∧ (∀ x y, (x ≠ 73 ∨ y < 2 * U ∨ 2 * (U + alf p E 19 a) ≤ y) → J x y = I x y) ∧ ∀ q, q < alf p E 19 a → J 73 (2 * (U + q)) = nul (fkd B Z p E 19 a q) ∧ J 73 (2 * (U + q) + 1) = 0 := by
  have n19 := hL.2.2.2.1
  have n7 := hL.2.2.1
  have pa := hL.2.2.2.2.2.2.2.1
  obtain ⟨hEm, hE0, hE96⟩ := E_mo hL
  have hp : ∀ c, 0 < c → c < n → p c < c := fun c z1 z2 => (pa.2 c z1 z2).2
  have hE := hL.2.2.2.2.2.2.2.2.2.1
  have e7 := hL.2.2.2.2.2.2.1
  intro a
  induction a using Nat.strongRecOn with
  | ind a ih =>
    intro ha f b I h1 h2 h3 h4 h5 h6
    obtain ⟨f, rfl⟩ : ∃ g, f = g + 1 := ⟨f - 1, by omega⟩
    obtain ⟨q1, q2, q3, q4, -⟩ := hE a ha
    have hE1 := hEm (a + 1) n (by omega) (Nat.le_refl _)
    obtain ⟨J, j1, j2, j3⟩ := l145_i (b3 := Int32.ofNat a) (b4 := Int32.ofNat b) hP hP2 hL ha hNO h1 (E (a + 1) - E a) (E a) 100000 I (by omega) (Nat.le_refl _) (by omega) (fun b => h4 _ _ (by omega) (by omega)) h5 (fun q y1 y2 => h6 q y2)
    have e1 : l145_39 P (Int32.ofNat NO) (f + 1) (Int32.ofNat a) (Int32.ofNat b) I = l145_39 P (Int32.ofNat NO) f (A (P + 2) (6 * a)) (Int32.ofNat (b + 1)) J := by
      rw [l145_39, if_neg (by rw [i32_l2 (x := 19) (b := 19) rfl (by omega) (by decide)]; omega), if_neg (i32_m1 (by omega))]
      simp (disch := omega) only [tP1 hP]
      rw [h4 (P + 2) _ (by omega) (by omega), h4 (P + 2) _ (by omega) (by omega), q3, q4, i32_a, show E a + (E (a + 1) - E a) = E (a + 1) by omega, j1, Option.bind_some, i32_s]
      rw [j2 (P + 2) _ (by omega), h4 (P + 2) _ (by omega) (by omega)]
    rw [e1]
    by_cases z : a = 0
    · subst z
      obtain ⟨f, rfl⟩ : ∃ g, f = g + 1 := ⟨f - 1, by omega⟩
      have e0 : alf p E 19 0 = 0 := by
        have := hEm (0 + 1) 7 (by omega) (by omega)
        show (if (0 : Nat) = 0 then 0 else alf p E 18 (p 0)) + (E (0 + 1) - E 0) = 0
        rw [if_pos rfl]; omega
      refine ⟨J, ?_, fun x y w => j2 x y (by rw [e0] at w ⊢; omega), fun q hq => by omega⟩
      have e00 : A (P + 2) (6 * 0) = -1 := pa.1
      rw [e00, l145_39]
      split
      · rfl
      · rw [if_pos rfl]
    · have has := alf_s (E := E) hp n19 ha (by omega : 0 < a)
      have hpc := hp a (by omega) ha
      have r1 : A (P + 2) (6 * a) = Int32.ofNat (p a) := (pa.2 a (by omega) ha).1
      obtain ⟨J', k1, k2, k3⟩ := ih (p a) hpc (by omega) f (b + 1) J (by omega) (by omega) (by omega) (fun x y w1 w2 => by rw [j2 x y (by omega)]; exact h4 x y w1 w2) (by rw [j2 _ _ (by omega)]; exact h5) (fun q hq => by rw [j2 _ _ (by omega), j2 _ _ (by omega)]; exact h6 q (by omega))
      rw [r1]
      refine ⟨J', k1, fun x y w => by rw [k2 x y (by omega), j2 x y (by omega)], fun q hq => ?_⟩
      have efk : fkd B Z p E 19 a q = if q < alf p E 19 (p a) then fkd B Z p E 18 (p a) q else (B (Z + 11) (E a + (q - alf p E 19 (p a)))).toNatClampNeg := by
        show (if a = 0 then 1 else if q < alf p E 19 (p a) then fkd B Z p E 18 (p a) q else (B (Z + 11) (E a + (q - alf p E 19 (p a)))).toNatClampNeg) = _
        rw [if_neg z]
      by_cases y : q < alf p E 19 (p a)
      · rw [efk, if_pos y, fkd_d hp (p a) 18 19 q (by omega) (by omega) (by omega)]
        exact k3 q y
      · rw [k2 _ _ (by omega), k2 _ _ (by omega), efk, if_neg y]
        have := j3 q (by omega) hq
        rw [show alf p E 19 a - (E (a + 1) - E a) = alf p E 19 (p a) by omega] at this
        exact this
theorem fkd_of {B B' : St} (h : ∀ f, B' (Z + 11) f = B (Z + 11) f) : ∀ d c q, fkd B' Z p E d c q = fkd B Z p E d c q := by
  intro d
  induction d with
  | zero => intro c q; rfl
  | succ d ih => intro c q; rw [fkd, fkd, ih, h]
theorem op_37 (hP : Hid (P = 3 ∨ P = 18)) (hP2 : 3 ≤ P ∧ P ≤ 18) (hZ2 : 85 ≤ Z ∧ Z ≤ 126) (hL : Lkd P Z n k s E F G p A0 B0) (hT : ∀ m, m < k → TyM B0 Z m (F (m + 1) - F m) (F m) G (VV m)) (h : MC P Z n k s E F p A0 B0 VV oa os hk NO U EV dp m i c fr t l A B) (hc : c < 20000) (ho : opn B0 Z (F m + i) = 37) : StepOK P Z n k s E F p A0 B0 VV c A B := by
  have hkn := kno hP hZ2 hL hT h
  obtain ⟨hLk, kx, ko, kt, k16, klo, kfu, klp, kvis, ka, kb1, kF, kF2, kk, k27⟩ := hkn
  have h' := h
  obtain ⟨c1, c2, c3, ⟨r1, r2, r3, r4, r5, r6, r7, r8, r9, r10, r11, r12⟩, c5, c6, c7⟩ := h'
  obtain ⟨t', hef, hnx, hlb, htr⟩ := kvis
  have hpt : PT dp t.1 (up2 A 68 10 (Int32.ofNat (i + 1))) B := ⟨by rw [up2_o (by omega)]; exact c6.1, c6.2.1, c6.2.2.1, by rw [up2_o (by omega)]; exact c6.2.2.2.1, c6.2.2.2.2⟩
  have hA1 : ∀ a b, (a ≠ 68 ∨ (b ≠ 10 ∧ b ≠ 11)) → up2 A 68 10 (Int32.ofNat (i + 1)) a b = A a b := fun a b y => up2_o (by omega)
  have dp24 := c6.2.2.1
  have haft : aft B0 Z (F m + i) t l = l := by unfold aft; rw [if_neg (by omega)]
  obtain ⟨hi3, hinc⟩ := hnx (by omega)
  rw [haft] at hinc
  have hef' : (tkz [] t).bind (pso 2) = some t' := by
    have : efB B0 Z m (F m + i) t l = (tkz [] t).bind (pso 2) := by unfold efB; rw [ho]; rfl
    rw [this] at hef; exact hef
  obtain ⟨u, g1, g2⟩ := Option.bind_eq_some_iff.mp hef'
  obtain ⟨z1, z2, z3, z4, z5⟩ := tkz_y g1 kt
  obtain ⟨q3, rfl⟩ := psg_y (show psg 2 u = some t' from g2)
  have ut : t = u := Option.some.inj g1
  subst ut
  obtain ⟨o, o1, o2, o3, o4, o5, o6, o7, o8, o9⟩ := klp
  have eo : o = 37 := by rw [kb1, ho, i32_eq (by omega) (Nat.lt_trans o1 (by decide))] at o3; exact o3.symm
  subst eo
  obtain ⟨d, d1, d2, d3⟩ := o8 (by decide)
  clear o4 o5 o6 o7 o8 o9
  have hi : inb (Int32.ofNat (F m + i)) 2400 := (i32_inb (by omega)).mpr (by omega)
  have hcl : (Int32.ofNat (F m + i)).toNatClampNeg = F m + i := i32_cl (by omega)
  have n19 := hL.1.2.2.2.1
  have hE := hLk.1.2.2.2.2.2.2.2.2.2.1
  have pa := hLk.1.2.2.2.2.2.2.2.1
  have hp : ∀ c, 0 < c → c < n → p c < c := fun c z1 z2 => (pa.2 c z1 z2).2
  have hal := alf_le (p := p) (E := E) (n := n) hp (fun c hc => (hE c hc).2.1) 19 d d1
  have hsz : A (P + 2) (6 * d + 4) = Int32.ofNat (alf p E 19 d) := (hE d d1).2.2.2.2.1
  have hf12 := fkd_12 hL.1 d d1
  generalize hS : alf p E 19 d = sz at hal hsz hf12
  have hC : x129 P (up2 A 68 10 (Int32.ofNat (i + 1))) (A (P + 10) (3 * (F m + i))) (A (P + 10) (3 * (F m + i) + 1)) (A (P + 10) (3 * (F m + i) + 2)) = x145 P (up2 A 68 10 (Int32.ofNat (i + 1))) (Int32.ofNat d) := by
    rw [ka, ho, x129_h (by omega) (by omega), if_neg (by decide), if_neg (by decide), if_pos (by decide)]; unfold x144; rw [if_pos (by decide), Option.bind_fun_some, d2]
  have hR : x238 Z B = (x244 B (Int32.ofNat d) (Int32.ofNat sz)).bind fun q2 => if (q2.2 82 34) = 6 then some q2.2 else (x239 q2.2 q2.1 0).bind fun q3 => some (up2 q3 82 64 (Int32.ofNat (F m + i + 1))) := by
    rw [x238_d kx r4 kb1 ko (by omega), ho]; unfold actR; rw [if_neg (by decide), if_neg (by decide), if_neg (by decide), if_neg (by decide), if_neg (by decide), if_neg (by decide), if_neg (by decide), if_neg (by decide), if_neg (by decide), if_neg (by decide), if_neg (by decide)]; unfold x251; rw [if_pos (by decide)]
    simp only [if_pos hi, hcl, d3]
    rw [x252_n hLk.1 d1, hS, Option.bind_some, i32_s]
  unfold x145 at hC
  simp (disch := omega) only [tP1 hP] at hC
  rw [up2_o (by omega), hsz] at hC
  simp only [Option.bind_fun_some] at hC
  have hgg := c2
  obtain ⟨⟨k1, k2, k3, k4, k5, k6, -⟩, -⟩ := hgg
  by_cases yf : NO + U + 1 + sz ≤ 3000
  · obtain ⟨A2, a1, a2, a3, a4, a5, a6, a7, a8, fA⟩ := mkA_y (A := up2 A 68 10 (Int32.ofNat (i + 1))) (v := Int32.ofNat d) (w := 0) (fi := 0) (sz := sz) (by rw [up2_o (by omega)]; exact k1) (by rw [up2_o (by omega)]; exact k3) yf (if_neg (i32_m3 (by omega))).symm
    obtain ⟨B2, b1, b2, b3, b4, b5, b6, b7, b8, b9, fB⟩ := mkB_y (v := Int32.ofNat d) (sz := sz) k2 k4 k5 yf
    have hLA2 : LPc P Z n s k E p A2 B := (hLk.of (A' := A2) (B' := B) (fun a b y1 y2 _ => by rw [fA _ _ (by omega) (by omega) (by omega), up2_o (by omega)]) (fun _ _ _ => rfl)).1
    obtain ⟨A3, s1, s2, s3⟩ := l145_o (NO := NO) (U := U) hP hP2 hLA2 (by omega) d d1 100000 0 A2 (by omega) (by omega) (by omega) (fun _ _ _ _ => rfl) a5 (fun q hq => a8 q (by omega))
    rw [hS] at s2 s3
    have e34 : B2 82 34 = -1 := by rw [fB _ _ (by omega) (by omega) (by omega)]; exact r6
    rw [b1, Option.bind_some] at hR
    dsimp only at hR
    rw [if_neg (show ¬ B2 82 34 = 6 by rw [e34]; decide)] at hR
    rw [show x139 (up2 A 68 10 (Int32.ofNat (i + 1))) (Int32.ofNat d) (Int32.ofNat sz) 0 = _ from a1, Option.bind_some, if_neg (show ¬ Int32.ofNat NO = -1 from i32_m1 (by omega))] at hC
    dsimp only at hC
    rw [show (0 : Int32) = Int32.ofNat 0 from rfl, s1, Option.bind_some] at hC
    have gA : ∀ a b, ((a ≠ 70 ∧ a ≠ 72) ∨ b ≠ 3) → (a ≠ 71 ∨ b < 4 * NO ∨ 4 * NO + 4 ≤ b) → (a ≠ 73 ∨ b < 2 * U ∨ 2 * (U + sz) ≤ b) → (a ≠ 68 ∨ b ≠ 10) → A3 a b = A a b := fun a b x1 x2 x3 x4 => by rw [s2 a b (by omega), fA a b x1 x2 x3, up2_o (by omega)]
    have hfe : ∀ q, fkd B Z p E 19 d q = fkd B0 Z p E 19 d q := fun q => fkd_of (fun f => c1.2 _ _ (by omega)) 19 d q
    have hg2 : GCo B0 Z n s p E (updN oa NO U) (updN os NO sz) (nhk hk (fun q => fkd B0 Z p E 19 d q) U) (NO + 1) (U + sz) EV A3 B2 := by
      refine GCo.mk (kf := fun q => fkd B0 Z p E 19 d q) (A := A) (B := B) (v := Int32.ofNat d) (sz := sz) c2 yf (fun a b x1 x2 x3 x4 => gA a b x1 x2 x3 (by omega)) (fun a b x1 x2 x3 x4 => fB a b x1 x2 x3) ?_ ?_ ?_ ?_ ?_ ?_ b2 b3 b4 b5 b6 b7 (fun q hq => ?_) (Or.inl ⟨d, d1, rfl, hS.symm, fun q hq => rfl⟩)
      · rw [s2 _ _ (by omega)]; exact a2
      · rw [s2 _ _ (by omega)]; exact a3
      · rw [s2 _ _ (by omega)]; exact a4
      · rw [s2 _ _ (by omega)]; exact a5
      · rw [s2 _ _ (by omega)]; exact a6
      · rw [s2 _ _ (by omega), a7, b8]
      · rw [(s3 q hq).1, (s3 q hq).2, (b9 q hq).1, (b9 q hq).2, hfe]
        refine ⟨?_, rfl⟩
        rcases hf12 q hq with y | y
        · rw [y]; exact Or.inl ⟨rfl, rfl⟩
        · rw [y]; exact Or.inr ⟨rfl, Or.inl ⟨rfl, rfl⟩⟩
    refine nx_gp (A1 := A3) (B1 := B2) (h0 := t.1) (r0 := t.2) (kd := 2) (v := Int32.ofNat NO) (v' := Int32.ofNat (NO + 1)) (w := 0) hP hP2 hZ2 hL hT h hc (by omega) (c1.of (fun a b _ _ => gA a b (by omega) (by omega) (by omega) (by omega)) (fun a b _ => fB a b (by omega) (by omega) (by omega))) hg2 (fun a b _ => gA a b (by omega) (by omega) (by omega) (by omega)) ?_ (fun a b _ => fB a b (by omega) (by omega) (by omega)) ⟨by rw [gA _ _ (by omega) (by omega) (by omega) (by omega)]; exact c6.1, by rw [fB _ _ (by omega) (by omega) (by omega)]; exact c6.2.1, dp24, by rw [gA _ _ (by omega) (by omega) (by omega) (by omega)]; exact c6.2.2.2.1, by rw [fB _ _ (by omega) (by omega) (by omega)]; exact c6.2.2.2.2.1, k16⟩ q3 (c7.of (by omega) (fun b _ _ => gA _ _ (by omega) (by omega) (by omega) (by omega)) (fun a b _ _ _ => fB _ _ (by omega) (by omega) (by omega)) k16) kt.2 (Or.inr ⟨rfl, Or.inr ⟨NO, by omega, rfl, rfl⟩⟩) (Or.inr rfl) hi3 hinc kfu ?_ hR
    · rw [s2 _ _ (by omega), fA _ _ (by omega) (by omega) (by omega), up2_s]
    · rw [hC]; rfl
  · have a1 := mkA_n (A := up2 A 68 10 (Int32.ofNat (i + 1))) (v := Int32.ofNat d) (w := 0) (sz := sz) (by rw [up2_o (by omega)]; exact k1) (by rw [up2_o (by omega)]; exact k3) k6 (by omega) (by omega)
    rw [a1, Option.bind_some, if_pos rfl] at hC
    rw [mkB_n k5 k6 (by omega) (by omega), Option.bind_some, if_pos (up2_s _ _ _ _)] at hR
    exact lim_l (A1 := up2 (up2 A 68 10 (Int32.ofNat (i + 1))) 68 14 6) (B1 := up2 B 82 34 6) (e := 6) hP hP2 hZ2 hL hT h hc (by omega) (c1.of (fun a b _ _ => by rw [up2_o (by omega), up2_o (by omega)]) (fun a b _ => up2_o (by omega))) (c2.of (fun a b _ => by rw [up2_o (by omega), up2_o (by omega)]) (fun a b _ => up2_o (by omega))) (up2_s _ _ _ _) (by rw [up2_o (by omega), up2_o (by omega)]) (by rw [up2_o (by omega), up2_o (by omega)]) (up2_s _ _ _ _) (by rw [up2_o (by omega)]) hC hR
end
