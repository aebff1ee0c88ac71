/-! ANSWERS: slot -/
section
variable {P Z n k s : Nat} {E F G p : Nat → Nat} {A B : St}
theorem l271_n (hL : LPc P Z n s k E p A B) {d : Nat} (hd : d < n) : ∀ c f, c < n → c + 1 < f → l271_2 Z (Int32.ofNat d) f (Int32.ofNat c) B = some (if isb p c d = 1 then Int32.ofNat d else -1) := by
  have n19 := hL.2.2.2.1
  have pb := hL.2.2.2.2.2.2.2.2.1
  intro c
  induction c using Nat.strongRecOn with
  | ind c ih =>
    intro f h1 h2
    obtain ⟨f, rfl⟩ : ∃ g, f = g + 1 := ⟨f - 1, by omega⟩
    rw [l271_2, isb_s pb n19 h1, if_neg (i32_m1 (by omega))]
    by_cases y : c = d
    · rw [if_pos (by rw [y]), if_pos y, if_pos rfl, y]
    · rw [if_neg (by rw [i32_eq (by omega) (by omega)]; exact y), if_neg y, if_pos ((i32_inb (by omega)).mpr (by omega)), i32_cl (by omega)]
      by_cases z : c = 0
      · subst z
        obtain ⟨f, rfl⟩ : ∃ g, f = g + 1 := ⟨f - 1, by omega⟩
        rw [pb.1, if_pos rfl, l271_2, if_pos rfl, if_neg (by decide)]
      · obtain ⟨q1, q2⟩ := pb.2 c (by omega) h1
        rw [q1, if_neg z]
        exact ih (p c) q2 f (by omega) (by omega)
theorem x271_n (hL : LPc P Z n s k E p A B) {c d : Nat} (hc : c < n) (hd : d < n) : x271 Z B (Int32.ofNat d) (Int32.ofNat c) = some (isb p c d) := by
  have n19 := hL.2.2.2.1
  unfold x271
  rw [l271_n hL hd c 100000 hc (by omega), Option.bind_some]
  rcases isb_01 (p := p) (c := c) (d := d) with y | y
  · rw [y, if_pos rfl, if_pos rfl]
  · rw [y, if_neg (show ¬ (0 : Int32) = 1 by decide), if_neg (fun z => i32_m1 (a := d) (by omega) z.symm)]
/-- the field of an object's slot: there is one -/
theorem fld_x (hL : LPc P Z n s k E p A B) : ∀ cc, cc < n → ∀ q, q < alf p E 19 cc → ∃ f d, f < E n ∧ d < n ∧ 7 ≤ d ∧ E d ≤ f ∧ f < E (d + 1) ∧ isb p cc d = 1 ∧ alf p E 19 (p d) + (f - E d) = q := by
  have n19 := hL.2.2.2.1
  have n7 := hL.2.2.1
  have pa := hL.2.2.2.2.2.2.2.1
  obtain ⟨hEm, hE0, hE96⟩ := E_mo hL
  have e7 := hL.2.2.2.2.2.2.1
  have hp : ∀ c, 0 < c → c < n → p c < c := fun c z1 z2 => (pa.2 c z1 z2).2
  intro cc
  induction cc using Nat.strongRecOn with
  | ind cc ih =>
    intro hc q hq
    by_cases z : cc = 0
    · subst z
      have := hEm (0 + 1) 7 (by omega) (by omega)
      have e0 : alf p E 19 0 = 0 := by
        show (if (0 : Nat) = 0 then 0 else alf p E 18 (p 0)) + (E (0 + 1) - E 0) = 0
        rw [if_pos rfl]; omega
      omega
    · have hs := alf_s (E := E) hp n19 hc (by omega : 0 < cc)
      have hpc := hp cc (by omega) hc
      by_cases y : q < alf p E 19 (p cc)
      · obtain ⟨f, d, h1, h2, h3, h4, h5, h6, h7⟩ := ih (p cc) hpc (by omega) q y
        refine ⟨f, d, h1, h2, h3, h4, h5, ?_, h7⟩
        rw [isb_s pa n19 hc]
        by_cases w : cc = d
        · rw [if_pos w]
        · rw [if_neg w, if_neg z]; exact h6
      · have h1 := hEm (cc + 1) n (by omega) (Nat.le_refl _)
        have h7 : 7 ≤ cc := by
          by_cases w : cc + 1 ≤ 7
          · have := hEm (cc + 1) 7 w (by omega); omega
          · omega
        refine ⟨E cc + (q - alf p E 19 (p cc)), cc, by omega, hc, h7, by omega, by omega, ?_, by omega⟩
        rw [isb_s pa n19 hc, if_pos rfl]
theorem x270_n (hL : LPc P Z n s k E p A B) {cc q : Nat} (hc : cc < n) (hq : q < alf p E 19 cc) : ∃ f, f < E n ∧ x270 Z B (Int32.ofNat cc) (Int32.ofNat q) = some (Int32.ofNat f) ∧ fkd B Z p E 19 cc q = (B (Z + 11) f).toNatClampNeg := by
  have n19 := hL.2.2.2.1
  have n7 := hL.2.2.1
  obtain ⟨hEm, hE0, hE96⟩ := E_mo hL
  have hB7 := hL.2.2.2.2.2.2.2.2.2.2.1
  have pa := hL.2.2.2.2.2.2.2.1
  have e7 := hL.2.2.2.2.2.2.1
  have hp : ∀ c, 0 < c → c < n → p c < c := fun c z1 z2 => (pa.2 c z1 z2).2
  have hE := hL.2.2.2.2.2.2.2.2.2.1
  have hal : ∀ c, c < n → alf p E 19 c ≤ 8 * (c + 1) := fun c hc => alf_le (p := p) (E := E) (n := n) hp (fun c hc => (hE c hc).2.1) 19 c hc
  obtain ⟨f0, d0, a1, a2, a3, a4, a5, a6, a7⟩ := fld_x hL cc hc q hq
  -- from b on, with f0 ahead
  have key : ∀ d b f, b + d = f0 → d + 1 < f → ∃ x, x < E n ∧ l270_2 Z (Int32.ofNat cc) (Int32.ofNat q) f (Int32.ofNat b) B = some (.inr (Int32.ofNat x)) ∧ fkd B Z p E 19 cc q = (B (Z + 11) x).toNatClampNeg := by
    intro d
    induction d with
    | zero =>
      intro b f h1 h2
      obtain ⟨f, rfl⟩ : ∃ g, f = g + 1 := ⟨f - 1, by omega⟩
      obtain rfl : b = f0 := by omega
      have h9 := (E_own hL a1 a2).mpr ⟨a4, a5⟩
      refine ⟨b, a1, ?_, ?_⟩
      · rw [l270_2, hB7, if_neg (by rw [i32_le (by omega) (by omega)]; omega), if_pos ((i32_inb (by omega)).mpr (by omega)), i32_cl (by omega), h9, x271_n hL hc ‹_ < n›, Option.bind_some, a6, if_neg (by decide), x255_n hL a1 a2 a3 h9, Option.bind_some, a7, if_pos rfl]
      · rw [← a7]; exact (fkd_l (B0 := B) hL a2 a3 ⟨a4, a5⟩ cc hc a6).2
    | succ d ih =>
      intro b f h1 h2
      obtain ⟨f, rfl⟩ : ∃ g, f = g + 1 := ⟨f - 1, by omega⟩
      obtain ⟨d1, c1, c2, c3⟩ := G_own hE0 b (by omega : b < E n)
      have h9 := (E_own hL (f := b) (by omega) c1).mpr ⟨c2, c3⟩
      have hd7 : 7 ≤ d1 := by
        by_cases w : d1 + 1 ≤ 7
        · have := hEm (d1 + 1) 7 w (by omega); omega
        · omega
      obtain ⟨x, x1, x2, x3⟩ := ih (b + 1) f (by omega) (by omega)
      have h1' := hp d1 (by omega) c1
      have hal1 := hal (p d1) (by omega)
      have hal2 := hal cc hc
      have hE1 := hEm (d1 + 1) n (by omega) (Nat.le_refl _)
      have e : l270_2 Z (Int32.ofNat cc) (Int32.ofNat q) (f + 1) (Int32.ofNat b) B = if isb p cc d1 = 0 then l270_2 Z (Int32.ofNat cc) (Int32.ofNat q) f (Int32.ofNat (b + 1)) B else if Int32.ofNat (alf p E 19 (p d1) + (b - E d1)) = Int32.ofNat q then some (.inr (Int32.ofNat b)) else l270_2 Z (Int32.ofNat cc) (Int32.ofNat q) f (Int32.ofNat (b + 1)) B := by
        rw [l270_2, hB7, if_neg (by rw [i32_le (by omega) (by omega)]; omega), if_pos ((i32_inb (by omega)).mpr (by omega)), i32_cl (by omega), h9, x271_n hL hc ‹_ < n›, Option.bind_some, x255_n hL (by omega) c1 hd7 h9, Option.bind_some, i32_s]
      rw [e]
      by_cases y : isb p cc d1 = 0
      · rw [if_pos y]; exact ⟨x, x1, x2, x3⟩
      · rw [if_neg y]
        by_cases w : alf p E 19 (p d1) + (b - E d1) = q
        · rw [if_pos (by rw [w])]
          refine ⟨b, by omega, rfl, ?_⟩
          rw [← w]; exact (fkd_l (B0 := B) hL c1 hd7 ⟨c2, c3⟩ cc hc (isb_01.resolve_right y)).2
        · rw [if_neg (by rw [i32_eq (by omega) (by omega)]; exact w)]; exact ⟨x, x1, x2, x3⟩
  obtain ⟨x, x1, x2, x3⟩ := key f0 0 100000 (by omega) (by omega)
  refine ⟨x, x1, ?_, x3⟩
  unfold x270
  rw [show (0 : Int32) = Int32.ofNat 0 from rfl, x2, Option.bind_some]; rfl
theorem slo_l (hP : Hid (P = 3 ∨ P = 18)) (hL : LPc P Z n s k E p A B) (h : Run1 P Z n s E p A B) (a c w : Int32) : x269 Z B a c w = some (x176 A a c w) := by
  unfold x176 x269
  have n7 := hL.2.2.1
  have n19 := hL.2.2.2.1
  have h96 := (E_mo hL).2.2
  rcases h with ⟨h1, h2⟩ | ⟨h1, h2, oa, os, hk, NO, U, EV, e, c', ⟨g1, g2, g3, g4, g5, g6, g7, g8⟩, -⟩
  · rw [h1, h2, if_pos rfl, if_pos rfl]
  · rw [h1, h2, if_neg (show ¬ (1 : Int32) = 0 by decide), if_neg (show ¬ (1 : Int32) = 0 by decide)]
    unfold x177
    rcases ix_l (N := NO) (by omega) a with y | ⟨i, y, rfl⟩
    · rw [thol_o g1 y, if_pos rfl, if_pos rfl]
      rcases y with y | ⟨y1, y2⟩
      · rw [if_pos y]
      · rw [if_neg (nn0 y1), g2, if_pos y2]
    · obtain ⟨w1, w2, w3, w4, w5, w6, w7, w8⟩ := g7 i y
      rw [thol_i g1 (by omega) y, if_neg (show ¬ (1 : Int32) = 0 by decide), if_neg (nn0 ((i32_l2 (x := 0) (b := 0) rfl (by omega) (by decide)).mpr (by omega))), g2, if_neg (by rw [i32_le (by omega) (by omega)]; omega)]
      have hi : inb (Int32.ofNat i) 3001 := (i32_inb (by omega)).mpr (by omega)
      have hc : (Int32.ofNat i).toNatClampNeg = i := i32_cl (by omega)
      have e159 : x159 A (Int32.ofNat i) = Int32.ofNat (os i) := by unfold x159; simp (disch := omega) only [m70]; exact w4
      simp only [if_pos hi, hc, e159, w5]
      rcases ix_l (N := os i) (by omega) c with z | ⟨q, z, rfl⟩
      · rcases z with z | ⟨z1, z2⟩
        · rw [if_pos z, if_pos z, if_pos rfl]
        · rw [if_neg (nn0 z1), if_neg (nn0 z1), if_pos z2, if_pos z2, if_pos rfl]
      · have hq0 : ¬ Int32.ofNat q < 0 := nn0 ((i32_l2 (x := 0) (b := 0) rfl (by omega) (by decide)).mpr (by omega))
        have hq1 : ¬ Int32.ofNat (os i) ≤ Int32.ofNat q := by rw [i32_le (by omega) (by omega)]; omega
        rw [if_neg hq0, if_neg hq0, if_neg hq1, if_neg hq1, if_neg (show ¬ (1 : Int32) = 0 by decide)]
        have e151 : x151 A (Int32.ofNat i) (Int32.ofNat q) = A 73 (2 * (oa i + q)) := by
          unfold x151; simp (disch := omega) only [m70, w2, i32_a, m72]
        have e152 : x152 A (Int32.ofNat i) (Int32.ofNat q) = A 73 (2 * (oa i + q) + 1) := by
          unfold x152; simp (disch := omega) only [m70, w2, i32_a, m72]
        obtain ⟨v1, v2⟩ := g8 (oa i + q) (by omega)
        have hi3 : inb (Int32.ofNat (oa i + q)) 3001 := (i32_inb (by omega)).mpr (by omega)
        have hc3 : (Int32.ofNat (oa i + q)).toNatClampNeg = oa i + q := i32_cl (by omega)
        rw [e151, e152]
        -- what kind the slot has
        have hkd : ∃ x : Int32, (if B 181 i = -3 then some (1 : Int32) else if B 181 i < 0 then some 0 else (x270 Z B (B 181 i) (Int32.ofNat q)).bind fun q1 => if inb q1 100 then if (B (Z + 11) q1.toNatClampNeg) = 2 then some 1 else some 0 else none) = some x ∧ (if x = 0 then B 185 (oa i + q) else B 185 (oa i + q) - 1) = A 73 (2 * (oa i + q)) := by
          have fin1 : VR NO 1 (A 73 (2 * (oa i + q))) (B 185 (oa i + q)) → (if (0 : Int32) = 0 then B 185 (oa i + q) else B 185 (oa i + q) - 1) = A 73 (2 * (oa i + q)) := fun v => by rw [if_pos rfl, v.i]
          have fin2 : VR NO 2 (A 73 (2 * (oa i + q))) (B 185 (oa i + q)) → (if (1 : Int32) = 0 then B 185 (oa i + q) else B 185 (oa i + q) - 1) = A 73 (2 * (oa i + q)) := fun v => by
            rw [if_neg (by decide)]
            rcases v.r with ⟨q1, q2⟩ | ⟨r, -, q1, q2⟩
            · rw [q1, q2]; rfl
            · rw [q1, q2, i32_p]
          rcases w8 with ⟨cc, c1, c2, c3, c4⟩ | ⟨c2, c4⟩ | ⟨c2, c4⟩
          · rw [c4 q z] at v1
            obtain ⟨f, f1, f2, f3⟩ := x270_n hL c1 (by omega : q < alf p E 19 cc)
            have hif : inb (Int32.ofNat f) 100 := (i32_inb (by omega)).mpr (by omega)
            have hcf : (Int32.ofNat f).toNatClampNeg = f := i32_cl (by omega)
            rw [c2, if_neg (i32_m3 (by omega)), if_neg (nn0 ((i32_l2 (x := 0) (b := 0) rfl (by omega) (by decide)).mpr (by omega))), f2, Option.bind_some]
            simp only [if_pos hif, hcf]
            rw [f3] at v1
            rcases (hL.2.2.2.2.2.2.2.2.2.2.2.1 f f1).2 with y1 | y1
            · rw [y1] at v1 ⊢
              exact ⟨0, if_neg (by decide), fin1 v1⟩
            · rw [y1] at v1 ⊢
              exact ⟨1, if_pos rfl, fin2 v1⟩
          · rw [c4 q z] at v1
            rw [c2, if_neg (by decide), if_pos (by decide)]
            exact ⟨0, rfl, fin1 v1⟩
          · rw [c4 q z] at v1
            rw [c2, if_pos rfl]
            exact ⟨1, rfl, fin2 v1⟩
        obtain ⟨x, x1, x2⟩ := hkd
        rw [x1, Option.bind_some, w3, i32_a]
        simp only [if_pos hi3, hc3]
        by_cases n0 : w < 0
        · rw [if_pos n0, if_neg (fun z => by rw [z] at n0; exact absurd n0 (by decide)), if_neg (fun z => by rw [z] at n0; exact absurd n0 (by decide))]
        · rw [if_neg n0]
          obtain ⟨j, j1, rfl⟩ := i32_ge0 (Int32.not_lt.mp n0)
          by_cases y0 : j = 0
          · subst y0
            rw [if_pos (show Int32.ofNat 0 ≤ 1 by decide), if_neg (show ¬ Int32.ofNat 0 = 1 by decide), if_pos (show Int32.ofNat 0 = 0 from rfl), ← x2]
            split <;> rfl
          · by_cases y1 : j = 1
            · subst y1
              rw [if_pos (show Int32.ofNat 1 ≤ 1 by decide), if_pos (show Int32.ofNat 1 = 1 from rfl), if_neg (show ¬ Int32.ofNat 1 = 0 by decide), if_pos (show Int32.ofNat 1 = 1 from rfl), v2]
            · rw [if_neg (by rw [i32_l3 (x := 1) (b := 1) rfl j1 (by decide)]; omega), if_neg (by rw [i32_e (x := 0) (b := 0) rfl j1 (by decide)]; exact y0), if_neg (by rw [i32_e (x := 1) (b := 1) rfl j1 (by decide)]; exact y1)]
end
