/-! ONE VISIT: the tries; the reference's own part -/
section
variable {P Z n k s m z i x : Nat} {E F G p : Nat → Nat} {V0 : Nat → Option VEn} {N0 : Nat → Bool} {A B : St} {t : Nat × Nat} {l : Nat × Nat × Nat}
/-- the tries that instruction i lies in -/
def Cov (B : St) (Z f tr i : Nat) : Prop := (B (Z + 40) (4 * tr)).toNatClampNeg ≤ f + i ∧ f + i < (B (Z + 40) (4 * tr + 1)).toNatClampNeg
def tat (B : St) (Z f tr : Nat) : Nat := (B (Z + 40) (4 * tr + 2)).toNatClampNeg - f
theorem skip_r (hZ2 : 85 ≤ Z) (hk : B Z 11 = Int32.ofNat (G k)) (hG : G k ≤ 192) (h32 : B 82 32 = Int32.ofNat m) {b2 : Int32} : ∀ dd a ff, (∀ tr, a ≤ tr → tr < a + dd → ∃ m', m' < 24 ∧ m' ≠ m ∧ B (Z + 37) tr = Int32.ofNat m') → m < 24 → a + dd ≤ G k → l230_323 Z b2 (ff + dd) (Int32.ofNat a) B = l230_323 Z b2 ff (Int32.ofNat (a + dd)) B := by
  intro dd
  induction dd with
  | zero => intro a ff _ _ _; rfl
  | succ dd ih =>
    intro a ff h1 hm h2
    have hin : inb (Int32.ofNat a) 200 := (i32_inb (by omega)).mpr (by omega)
    have hcl : (Int32.ofNat a).toNatClampNeg = a := i32_cl (by omega)
    obtain ⟨m', q1, q2, q3⟩ := h1 a (Nat.le_refl _) (by omega)
    rw [show ff + (dd + 1) = (ff + dd) + 1 by omega, l230_323, hk, if_neg (by rw [i32_le (by omega) (by omega)]; omega)]
    simp only [if_pos hin, hcl]
    rw [q3, h32, if_neg (by rw [i32_eq (by omega) (by omega)]; exact q2), i32_s, ih (a + 1) ff (fun tr y1 y2 => h1 tr (by omega) (by omega)) hm (by omega), show a + 1 + dd = a + (dd + 1) by omega]
theorem end_r (hk : B Z 11 = Int32.ofNat (G k)) {b2 : Int32} {ff : Nat} : l230_323 Z b2 (ff + 1) (Int32.ofNat (G k)) B = some B := by
  rw [l230_323, hk, if_pos (Int32.le_refl _)]
set_option maxHeartbeats 4000000 in
theorem tries_l (hP : Hid (P = 3 ∨ P = 18)) (hP2 : 3 ≤ P ∧ P ≤ 18) (hZ2 : 85 ≤ Z ∧ Z ≤ 126) (hm : m < k) (hk24 : k ≤ 24) (hGk : G k ≤ 192) (hF2 : F (m + 1) ≤ 1280) (hz : z = F (m + 1) - F m) (hFm : F m ≤ F (m + 1)) (hi : i < z) (hlo : Lok l) (hful : Lful l) : ∀ dd a fa fb (Q : (Nat → Option VEn) → Prop) (A B : St), Mon Q → G m ≤ a → a + dd = G (m + 1) → G (m + 1) ≤ G k → dd < fa → SSq P Z m z (F m) V0 N0 Q A B → (FS A B ∨ (Cs (1, 1) A ∧ Lc l A ∧ ∀ k, k < 16 → B 180 k = Int32.ofNat (wvl l k))) → VD Z m z (F m) A B → B Z 11 = Int32.ofNat (G k) → B 82 32 = Int32.ofNat m → B (Z + 21) m = Int32.ofNat (F m) → (∀ tr, G m ≤ tr → tr < G (m + 1) → LPt P Z n F m tr A B) → ∃ A' B', l106_199 P (Int32.ofNat i) (Int32.ofNat (G (m + 1))) fa (Int32.ofNat a) A = some A' ∧ l230_323 Z (Int32.ofNat (F m + i)) (fb + dd) (Int32.ofNat a) B = l230_323 Z (Int32.ofNat (F m + i)) fb (Int32.ofNat (G (m + 1))) B' ∧ CfA P m A A' ∧ CfB Z m B B' ∧ SSq P Z m z (F m) V0 N0 (fun V => Q V ∧ ∀ tr, a ≤ tr → tr < G (m + 1) → Cov B Z (F m) tr i → tat B Z (F m) tr < z ∧ Inc V (tat B Z (F m) tr) (1, 1) l) A' B' := by
  intro dd
  induction dd with
  | zero =>
    intro a fa fb Q A B hQ h1 h2 hgg h3 hS hcl hvd b1 b2 b3 hT
    obtain ⟨fa, rfl⟩ : ∃ g, fa = g + 1 := ⟨fa - 1, by omega⟩
    have h2 : a = G (m + 1) := by omega
    subst h2
    refine ⟨A, B, by rw [l106_199, if_pos (Int32.le_refl _)], rfl, fun _ _ _ _ _ => rfl, fun _ _ _ _ _ => rfl, hS.im (fun V hV => ⟨hV, fun tr y1 y2 => by omega⟩)⟩
  | succ dd ih =>
    intro a fa fb Q A B hQ h1 h2 hgg h3 hS hcl hvd b1 b2 b3 hT
    obtain ⟨fa, rfl⟩ : ∃ g, fa = g + 1 := ⟨fa - 1, by omega⟩
    obtain ⟨r1, x0, x1, x2, x3, r2, r3, r4, r5, r6, r7, r8, r9, r10, r11, r12, -⟩ := hT a h1 (by omega)
    have hin : inb (Int32.ofNat a) 200 := (i32_inb (by omega)).mpr (by omega)
    have hca : (Int32.ofNat a).toNatClampNeg = a := i32_cl (by omega)
    have m0 : (4 : Int32) * Int32.ofNat a = Int32.ofNat (4 * a) := by
      have := i32_4 (t := a) (j := 0) (by omega) (by omega)
      rw [← Int32.add_zero (4 * Int32.ofNat a)]
      exact this
    have m1 : Int32.ofNat (4 * a) + 1 = Int32.ofNat (4 * a + 1) := i32_s
    have m2 : Int32.ofNat (4 * a) + 2 = Int32.ofNat (4 * a + 2) := i32_a _ 2
    have n0 : inb (Int32.ofNat (4 * a)) 800 := (i32_inb (by omega)).mpr (by omega)
    have n1 : inb (Int32.ofNat (4 * a + 1)) 800 := (i32_inb (by omega)).mpr (by omega)
    have n2 : inb (Int32.ofNat (4 * a + 2)) 800 := (i32_inb (by omega)).mpr (by omega)
    have q0 : (Int32.ofNat (4 * a)).toNatClampNeg = 4 * a := i32_cl (by omega)
    have q1 : (Int32.ofNat (4 * a + 1)).toNatClampNeg = 4 * a + 1 := i32_cl (by omega)
    have q2 : (Int32.ofNat (4 * a + 2)).toNatClampNeg = 4 * a + 2 := i32_cl (by omega)
    have im : inb (Int32.ofNat m) 24 := (i32_inb (by omega)).mpr (by omega)
    have cm : (Int32.ofNat m).toNatClampNeg = m := i32_cl (by omega)
    have hcov : Cov B Z (F m) a i ↔ (x0 ≤ i ∧ i < x1) := by
      unfold Cov
      rw [r8, r10, i32_cl (by omega), i32_cl (by omega)]
      omega
    have htat : tat B Z (F m) a = x2 := by
      unfold tat
      rw [r12, i32_cl (by omega)]
      omega
    have eA : l106_199 P (Int32.ofNat i) (Int32.ofNat (G (m + 1))) (fa + 1) (Int32.ofNat a) A = if x0 ≤ i ∧ i < x1 then (x101 P A (Int32.ofNat x2)).bind fun q11 => l106_199 P (Int32.ofNat i) (Int32.ofNat (G (m + 1))) fa (Int32.ofNat (a + 1)) q11 else l106_199 P (Int32.ofNat i) (Int32.ofNat (G (m + 1))) fa (Int32.ofNat (a + 1)) A := by
      rw [l106_199, if_neg (by rw [i32_le (by omega) (by omega)]; omega)]
      simp (disch := omega) only [tP11 hP, r7, r9, r11, i32_s]
      by_cases y1 : x0 ≤ i
      · rw [if_neg (by rw [i32_lt (by omega) (by omega)]; omega)]
        by_cases y2 : i < x1
        · rw [if_neg (by rw [i32_le (by omega) (by omega)]; omega), if_pos ⟨y1, y2⟩]
        · rw [if_pos ((i32_le (by omega) (by omega)).mpr (by omega)), if_neg (by omega)]
      · rw [if_pos ((i32_lt (by omega) (by omega)).mpr (by omega)), if_neg (by omega)]
    have eB : l230_323 Z (Int32.ofNat (F m + i)) (fb + (dd + 1)) (Int32.ofNat a) B = if x0 ≤ i ∧ i < x1 then (x227 Z B (Int32.ofNat x2) 1 1).bind fun q23 => l230_323 Z (Int32.ofNat (F m + i)) (fb + dd) (Int32.ofNat (a + 1)) q23 else l230_323 Z (Int32.ofNat (F m + i)) (fb + dd) (Int32.ofNat (a + 1)) B := by
      rw [show fb + (dd + 1) = (fb + dd) + 1 by omega, l230_323, b1, if_neg (by rw [i32_le (by omega) (by omega)]; omega)]
      simp only [if_pos hin, hca, r1, b2, m0, m1, m2, if_pos n0, if_pos n1, if_pos n2, q0, q1, q2, r8, r10, r12, if_pos im, cm, b3, i32_s]
      rw [if_pos trivial, i32_sb (show F m ≤ F m + x2 by omega), show F m + x2 - F m = x2 by omega]
      by_cases y1 : x0 ≤ i
      · rw [if_neg (by rw [i32_lt (by omega) (by omega)]; omega)]
        by_cases y2 : i < x1
        · rw [if_neg (by rw [i32_le (by omega) (by omega)]; omega), if_pos ⟨y1, y2⟩]
        · rw [if_pos ((i32_le (by omega) (by omega)).mpr (by omega)), if_neg (by omega)]
      · rw [if_pos ((i32_lt (by omega) (by omega)).mpr (by omega)), if_neg (by omega)]
    by_cases y : x0 ≤ i ∧ i < x1
    · rw [if_pos y] at eA eB
      obtain ⟨A1, B1, a1, a2, a3, a4, a6, a5⟩ := come_s (j := x2) (t := (1, 1)) (y1 := 1) (y2 := 1) hP hP2 hZ2 (fun _ _ _ _ _ _ q c => hQ _ _ _ _ q (c.ext hful).1) hS hcl hlo hful ⟨by decide, by decide⟩ (by decide) (by omega) hvd rfl rfl
      obtain ⟨A2, B2, c1, c2, c3, c4, c5⟩ := ih (a + 1) fa fb _ A1 B1 (fun V N V' N' ⟨z1, z2, z3⟩ e => ⟨hQ _ _ _ _ z1 e, z2, z3.ext e⟩) (by omega) (by omega) hgg (by omega) a5 (cl_next hP2 hZ2 hcl a6 a3 a4) (hvd.of (fun a b y => a3 a b (by omega) (by omega) (by omega)) (fun a b y => a4 a b (by omega) (by omega) (by omega))) (by rw [a4 _ _ (by omega) (by omega) (by omega)]; exact b1) (by rw [a4 _ _ (by omega) (by omega) (by omega)]; exact b2) (by rw [a4 _ _ (by omega) (by omega) (by omega)]; exact b3) (fun tr z1 z2 => by
        have := hT tr z1 z2
        unfold LPt at this ⊢
        rw [a4 _ _ (by omega) (by omega) (by omega), a4 _ _ (by omega) (by omega) (by omega), a4 _ _ (by omega) (by omega) (by omega), a4 _ _ (by omega) (by omega) (by omega), a4 _ _ (by omega) (by omega) (by omega), a3 _ _ (by omega) (by omega) (by omega), a3 _ _ (by omega) (by omega) (by omega), a3 _ _ (by omega) (by omega) (by omega), a3 _ _ (by omega) (by omega) (by omega)]
        exact this)
      refine ⟨A2, B2, by rw [eA, a1, Option.bind_some]; exact c1, by rw [eB, a2, Option.bind_some]; exact c2, fun a b z1 z2 z3 => (c3 a b z1 z2 z3).trans (a3 a b z1 z2 z3), fun a b z1 z2 z3 => (c4 a b z1 z2 z3).trans (a4 a b z1 z2 z3), c5.im (fun V hV => ⟨hV.1.1, fun tr z1 z2 z3 => ?_⟩)⟩
      rcases Nat.lt_or_ge a tr with w | w
      · have e1 : Cov B1 Z (F m) tr i := by
          unfold Cov
          rw [a4 _ _ (by omega) (by omega) (by omega), a4 _ _ (by omega) (by omega) (by omega)]
          exact z3
        have e2 : tat B1 Z (F m) tr = tat B Z (F m) tr := by
          unfold tat
          rw [a4 _ _ (by omega) (by omega) (by omega)]
        rw [← e2]
        exact hV.2 tr (by omega) z2 e1
      · obtain rfl : tr = a := by omega
        rw [htat]
        exact ⟨hV.1.2.1, hV.1.2.2⟩
    · rw [if_neg y] at eA eB
      obtain ⟨A2, B2, c1, c2, c3, c4, c5⟩ := ih (a + 1) fa fb Q A B hQ (by omega) (by omega) hgg (by omega) hS hcl hvd b1 b2 b3 hT
      refine ⟨A2, B2, by rw [eA]; exact c1, by rw [eB]; exact c2, c3, c4, c5.im (fun V hV => ⟨hV.1, fun tr z1 z2 z3 => ?_⟩)⟩
      rcases Nat.lt_or_ge a tr with w | w
      · exact hV.2 tr (by omega) z2 z3
      · obtain rfl : tr = a := by omega
        exact absurd (hcov.mp z3) y
/-- the reference's own part of a visit: its instruction's effect -/
theorem ref_op (hZ : Hid (Z = 85 ∨ Z = 126)) (hZ2 : 85 ≤ Z) (hg : Rg (some t) B) (hw : ∀ k, k < 16 → B 180 k = Int32.ofNat (wvl l k)) (ho : opn B Z x < 59) (h27 : (opn B Z x = 2 ∨ opn B Z x = 3 ∨ opn B Z x = 4) → inn B Z x < 16 ∧ B (Z + 27) x = Int32.ofNat (inn B Z x)) (hO : OpR Z m (opn B Z x) (ifk B Z x) (mrt B Z m) (irs B Z x) (icn B Z x) (irf B Z x) x B) (v10 : Nat) (hv : v10 < 16) (hv2 : B (Z + 27) x &&& 15 = Int32.ofNat v10) : ∃ sv B3, (if Int32.ofNat (opn B Z x) = 3 then (x231 B 0).bind fun q12 => some (q12.1, q12.2) else if Int32.ofNat (opn B Z x) = 2 then (if (B 180 v10) = 1 then some 1 else if (B 180 v10) = 2 then some 1 else some 0).bind fun (q13 : Int32) => if q13 = 0 ∨ q13 = 1 then (x232 (up2 B 82 31 q13) (B 180 v10)).bind fun q14 => some ((-1), q14) else none else if Int32.ofNat (opn B Z x) = 4 then if (B 180 v10) = 1 then some ((-1), (up2 B 82 31 1)) else some ((-1), (up2 B 82 31 0)) else (x233 Z B (Int32.ofNat x) (Int32.ofNat (opn B Z x))).bind fun q15 => some ((-1), q15)) = some (sv, B3) ∧ Rg (efB B Z m x t l) B3 ∧ (∀ a b, (a ≠ 82 ∨ (b ≠ 29 ∧ b ≠ 30 ∧ b ≠ 31)) → B3 a b = B a b) ∧ (∀ t', efB B Z m x t l = some t' → (opn B Z x = 3 → sv = Int32.ofNat (skd t)) ∧ (opn B Z x ≠ 3 → sv = -1)) := by
  have e : ∀ j, j < 59 → (Int32.ofNat (opn B Z x) = Int32.ofNat j ↔ opn B Z x = j) := fun j hj => i32_eq (by omega) (by omega)
  have hvv : (opn B Z x = 2 ∨ opn B Z x = 3 ∨ opn B Z x = 4) → v10 = inn B Z x := fun y => by
    obtain ⟨y1, y2⟩ := h27 y
    rw [y2, and15_n y1, i32_eq (by omega) (by omega)] at hv2
    exact hv2.symm
  have h180 := hw v10 hv
  have w8 := wvl_8 (l := l) (k := v10)
  have efd : efB B Z m x t l = eff (opn B Z x) (wvl l (inn B Z x)) (ifk B Z x) (mrt B Z m) (irs B Z x) (ckl (irf B Z x) (icn B Z x)) t := rfl
  by_cases o3 : opn B Z x = 3
  · rw [if_pos (show Int32.ofNat (opn B Z x) = 3 by rw [o3]; rfl)]
    obtain ⟨v, B1, a1, a2, a3, a4⟩ := x231_g hg (k := 0) (by omega)
    have a1' : x231 B 0 = some (v, B1) := a1
    rw [a1', Option.bind_some]
    have e3 : efB B Z m x t l = tkk 0 t := by
      rw [efd, o3]
      show ((tkk 0 t).bind (tkz [])).bind (pso 0) = tkk 0 t
      cases tkk 0 t <;> rfl
    refine ⟨v, B1, rfl, by rw [e3]; exact a2, a3, fun t' y => ⟨fun _ => a4 t rfl ?_, fun y2 => absurd o3 y2⟩⟩
    rw [e3] at y
    exact (tkk_y y).1
  rw [if_neg (show ¬ Int32.ofNat (opn B Z x) = 3 from fun y => o3 ((e 3 (by omega)).mp y))]
  by_cases o2 : opn B Z x = 2
  · have hv3 := hvv (Or.inl o2)
    rw [if_pos (show Int32.ofNat (opn B Z x) = 2 by rw [o2]; rfl), h180]
    have e2 : efB B Z m x t l = if wvl l v10 = 1 ∨ wvl l v10 = 2 then psg (wvl l v10) t else none := by
      rw [efd, o2, hv3]; rfl
    have eq13 : (if Int32.ofNat (wvl l v10) = 1 then some (1 : Int32) else if Int32.ofNat (wvl l v10) = 2 then some 1 else some 0) = some (if wvl l v10 = 1 ∨ wvl l v10 = 2 then 1 else 0) := by
      have : ∀ w, w < 8 → (if Int32.ofNat w = 1 then some (1 : Int32) else if Int32.ofNat w = 2 then some 1 else some 0) = some (if w = 1 ∨ w = 2 then 1 else 0) := by decide
      exact this _ w8
    rw [eq13, Option.bind_some]
    by_cases y : wvl l v10 = 1 ∨ wvl l v10 = 2
    · rw [if_pos y, if_pos (Or.inr rfl)]
      have hg' : Rg (some t) (up2 B 82 31 1) := by
        obtain ⟨q1, q2, q3, q4, q5⟩ := hg
        exact ⟨q1, q2, by rw [up2_o (by omega)]; exact q3, by rw [up2_o (by omega)]; exact q4, up2_s _ _ _ _⟩
      obtain ⟨B2, b1, b2, b3⟩ := x232_g (k := wvl l v10) (x := Int32.ofNat (wvl l v10)) hg' (by omega) (fun _ _ => rfl)
      rw [b1, Option.bind_some]
      refine ⟨-1, B2, rfl, ?_, fun a b z => by rw [b3 a b z, up2_o (by omega)], fun t' _ => ⟨fun z => absurd z o3, fun _ => rfl⟩⟩
      rw [e2, if_pos y]
      exact b2
    · rw [if_neg y, if_pos (Or.inl rfl)]
      have hg' : Rg none (up2 B 82 31 0) := up2_s _ _ _ _
      obtain ⟨B2, b1, b2, b3⟩ := x232_g (k := 0) (x := Int32.ofNat (wvl l v10)) hg' (by omega) (fun _ y => (nomatch y))
      rw [b1, Option.bind_some]
      refine ⟨-1, B2, rfl, ?_, fun a b z => by rw [b3 a b z, up2_o (by omega)], fun t' _ => ⟨fun z => absurd z o3, fun _ => rfl⟩⟩
      rw [e2, if_neg y]
      exact b2
  rw [if_neg (show ¬ Int32.ofNat (opn B Z x) = 2 from fun y => o2 ((e 2 (by omega)).mp y))]
  by_cases o4 : opn B Z x = 4
  · have hv3 := hvv (Or.inr (Or.inr o4))
    rw [if_pos (show Int32.ofNat (opn B Z x) = 4 by rw [o4]; rfl), h180]
    have e2 : efB B Z m x t l = if wvl l v10 = 1 then some t else none := by
      rw [efd, o4, hv3]; rfl
    by_cases y : wvl l v10 = 1
    · rw [if_pos (by rw [y]; rfl)]
      refine ⟨-1, _, rfl, ?_, fun a b z => up2_o (by omega), fun t' _ => ⟨fun z => absurd z o3, fun _ => rfl⟩⟩
      rw [e2, if_pos y]
      obtain ⟨q1, q2, q3, q4, q5⟩ := hg
      exact ⟨q1, q2, by rw [up2_o (by omega)]; exact q3, by rw [up2_o (by omega)]; exact q4, up2_s _ _ _ _⟩
    · rw [if_neg (fun z => y ((i32_e (x := 1) (b := 1) rfl (by omega) (by decide)).mp z))]
      refine ⟨-1, _, rfl, ?_, fun a b z => up2_o (by omega), fun t' _ => ⟨fun z => absurd z o3, fun _ => rfl⟩⟩
      rw [e2, if_neg y]
      exact up2_s _ _ _ _
  rw [if_neg (show ¬ Int32.ofNat (opn B Z x) = 4 from fun y => o4 ((e 4 (by omega)).mp y))]
  obtain ⟨B', b1, b2⟩ := x233_l (lk := wvl l (inn B Z x)) hZ2 hg ho ⟨o2, o3, o4⟩ hO
  rw [b1, Option.bind_some]
  refine ⟨-1, B', rfl, b2, fun a b z => ?_, fun t' _ => ⟨fun z => absurd z o3, fun _ => rfl⟩⟩
  have hfr := x233_fr hZ B B Frm.refl _ b1
  refine hfr a b ?_
  cases y : mdb [(82, some 30), (82, some 31), (82, some 29)] a b with
  | false => rfl
  | true =>
    obtain ⟨e, he, f1, f2⟩ := mdb_of y
    simp only [List.mem_cons, List.not_mem_nil, or_false] at he
    rcases he with rfl | rfl | rfl
    all_goals
      simp only [reduceCtorEq, false_or, Option.some.injEq] at f1 f2
      omega
end
