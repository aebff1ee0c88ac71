/-! readField in lockstep (the class's own count of fields is set ahead: A is what x64 has behind that) -/
/-- fields -/
def CpF (L M : List (List Nat)) (P Z n : Nat) (A B : St) : Prop := A (P + 3) 3 = Int32.ofNat n ∧ B Z 7 = Int32.ofNat n ∧ ∀ i, i < n → tget A (P + 3) (Int32.ofNat i) 0 = B (Z + 9) i ∧ NE L M (tget A (P + 3) (Int32.ofNat i) 1) (B (Z + 10) i) ∧ tget A (P + 3) (Int32.ofNat i) 2 = 0 ∧ tget A (P + 3) (Int32.ofNat i) 3 = B (Z + 11) i ∧ (B (Z + 11) i = 1 ∨ B (Z + 11) i = 2)
section
variable {T : Tp} {L M : List (List Nat)} {K p P Z n m c u w : Nat} {A B : St}
/-- readField, both sides: all right -/
theorem field_y (hP : P = 3 ∨ P = 18) (hZ : Z = 85 ∨ Z = 126) (hA : PS T L K p A) (hB : RS T p B) (hN : RN Z M u B) (hM : M.length < 2000) (hu : u + 1280 < 4100) (h0 : cA T p ≠ 256) (h1 : rkd T (nx T p) = 1) (h2 : te T (nx T p) ≤ nx T p + 12) {A1 : St} (hx : x64 P A1 = (x66 (P + 3) P A 0).bind fun q1 => (x67 q1.2 0).bind fun q2 => (x62 (tset q2.2 (P + 3) q1.1 3 q2.1) 59).bind fun q3 => some q3) {k : Nat} (hk : kk T (nx T (nx T p)) false = some k) (h3 : cA T (nx T (nx T (nx T p))) = 59) (hb : CpB L M m A B) (hm : m < 136) (hs : CpF L M P Z n A B) (hn : n < 96) (hc : A (P + 1) 3 = Int32.ofNat (c + 1)) : ∃ A' B' M' u', x64 P A1 = some A' ∧ x205 Z B (Int32.ofNat c) = some (.inr B') ∧ PS T L K (nx T (nx T (nx T (nx T p)))) A' ∧ RS T (nx T (nx T (nx T (nx T p)))) B' ∧ RN Z M' u' B' ∧ (∀ (i : Nat) (s : List Nat), M[i]? = some s → M'[i]? = some s) ∧ M'.length ≤ M.length + 1 ∧ u' ≤ u + (te T (nx T p) - nx T p) ∧ CpB L M' (m + 1) A' B' ∧ CpF L M' P Z (n + 1) A' B' := by
  obtain ⟨k1, k2, k3, k4, k5, k6, k7, k8⟩ := sfk hP (Or.inl rfl : P + 3 = P + 3 ∨ P + 3 = P + 5 ∨ P + 3 = P + 7)
  obtain ⟨m1, m2, m3⟩ := sf46
  have hs0 : sf (P + 3) 0 = 96 := by rcases hP with rfl | rfl <;> decide
  -- the class
  obtain ⟨i, J, a1, a2, a3, a4, a5, a6, a7, a8, a9, a10, a11, a12, a13, a14, a15, a16⟩ := x66_y hP (Or.inl rfl) hA h0 h1 h2 hs.1 (by rw [hs0]; exact hn) hb.1 hm hc 0
  have b1 := x67_y a5 (f := false) (x := 0) rfl hk
  have hkd : cA T (nx T (nx T p)) ≠ 256 := fun z => by
    have e : rkd T (nx T (nx T p)) = 4 := (rkd_4 a5.le).mpr z
    have : owd T (nx T (nx T p)) = none := by unfold owd; rw [if_neg (by rw [e]; decide)]
    unfold kk at hk
    rw [this] at hk
    simp at hk
  have a5' : PS T L K (nx T (nx T (nx T p))) (adv J) := a5.nx hkd
  have fr1 : Frm [(P + 4, none)] (adv J) (tset (adv J) (P + 3) (Int32.ofNat n) 3 (Int32.ofNat k)) := Frm.ts Frm.refl (fun j => by rw [k1]; simp [mdb])
  have a5'' : PS T L K (nx T (nx T (nx T p))) (tset (adv J) (P + 3) (Int32.ofNat n) 3 (Int32.ofNat k)) := by
    rcases hP with rfl | rfl <;> exact a5'.fr fr1 rfl rfl rfl rfl
  have b2 := x62_y a5'' (s := 59) (x := 59) rfl (by decide) (by decide) h3
  have b3 := a5''.nx (by rw [h3]; decide)
  have hx64 : x64 P A1 = some (adv (tset (adv J) (P + 3) (Int32.ofNat n) 3 (Int32.ofNat k))) := by
    rw [hx, a1, Option.bind_some]
    dsimp only
    rw [b1, Option.bind_some]
    dsimp only
    rw [b2, Option.bind_some]
  -- the reference
  obtain ⟨B1, c1, c2, c3⟩ := x192_s hB
  have hN1 : RN Z M u B1 := by rcases hZ with rfl | rfl <;> exact hN.fr c3 rfl rfl rfl rfl rfl
  obtain ⟨r, M', u', B2, d1, d2, d3, d4, d5, d6, d7⟩ := x201_y hZ c2 hN1 hM hu h1 h2
  have d8 := x201_fr hZ B1 B1 Frm.refl _ d1
  have d8 : Frm [(Z, some 4), (Z + 1, none), (Z + 2, none), (Z, some 3), (Z + 3, none), (82, some 11), (82, some 16), (82, some 13), (82, some 14), (82, some 12), (82, some 15), (84, some 0)] B1 B2 := d8
  have m82 : B2 82 20 = Int32.ofNat m := by
    rw [d8 _ _ (by rcases hZ with rfl | rfl <;> rfl), c3 _ _ rfl]
    exact hb.2.1
  have e1 := x206_n m82 (by omega) (Int32.ofNat c) (Int32.ofNat r) (B1 82 13)
  generalize hB3 : up2 (up2 (up2 (up2 B2 171 m (Int32.ofNat c)) 172 m (Int32.ofNat r)) 173 m (B1 82 13)) 82 20 (Int32.ofNat (m + 1)) = B3 at e1
  have z6 : B3 Z 7 = Int32.ofNat n := by
    rw [← hB3, up2_k _ _ _ _ _ _ (by omega), up2_k _ _ _ _ _ _ (by omega), up2_k _ _ _ _ _ _ (by omega), up2_k _ _ _ _ _ _ (by omega), d8 _ _ (by rcases hZ with rfl | rfl <;> rfl), c3 _ _ (by rcases hZ with rfl | rfl <;> rfl)]
    exact hs.2.1
  generalize hB4 : up2 (up2 B3 (Z + 9) n (Int32.ofNat c)) (Z + 10) n (Int32.ofNat r) = B4
  have f3 : Frm [(171, none), (172, none), (173, none), (82, some 20)] B2 B3 := by
    rw [← hB3]; exact Frm.u2 (Frm.u2 (Frm.u2 (Frm.u2 Frm.refl rfl) rfl) rfl) rfl
  have f4 : Frm [(Z + 9, none), (Z + 10, none)] B3 B4 := by
    rw [← hB4]; rcases hZ with rfl | rfl <;> exact Frm.u2 (Frm.u2 Frm.refl rfl) rfl
  have r4 : RS T (nx T (nx T p)) B4 := by
    rcases hZ with rfl | rfl <;> exact (d7.fr f3 rfl).fr f4 rfl
  obtain ⟨g1, B5, g2, g3, g4⟩ := x207_y r4 (f := false) (x := 0) rfl hk
  generalize hB6 : up2 (up2 B5 (Z + 11) n (Int32.ofNat k)) Z 7 (Int32.ofNat (n + 1)) = B6
  have f6 : Frm [(Z + 11, none), (Z, some 7)] B5 B6 := by
    rw [← hB6]; rcases hZ with rfl | rfl <;> exact Frm.u2 (Frm.u2 Frm.refl rfl) rfl
  have r6 : RS T (nx T (nx T (nx T p))) B6 := by
    rcases hZ with rfl | rfl <;> exact g3.fr f6 rfl
  obtain ⟨B7, i1, i2, i3⟩ := x204_y r6 (s := 59) (x := 59) rfl (by decide) (by decide) h3
  have hin : inb (Int32.ofNat n) 100 := (i32_inb (by omega)).mpr (by omega)
  have hx205 : x205 Z B (Int32.ofNat c) = some (.inr B7) := by
    have e5 : B5 Z 7 = Int32.ofNat n := by
      rw [g4 _ _ (by rcases hZ with rfl | rfl <;> rfl), f4 _ _ (by rcases hZ with rfl | rfl <;> rfl)]
      exact z6
    unfold x205
    rw [c1, Option.bind_some, d1, Option.bind_some]
    simp only [Sum.elim_inr]
    rw [e1, Option.bind_some, z6]
    simp only [if_pos hin, Lt]
    rw [i32_cl (by omega), hB4, g2, Option.bind_some]
    simp only [Sum.elim_inr]
    rw [up2_k _ _ _ _ _ _ (by omega), e5, i32_s, hB6, i1, Option.bind_some]
    rfl
  -- the end
  have bz : ∀ a b, a ≠ Z + 11 → ¬ (a = Z ∧ b = 7) → a ≠ 82 → B7 a b = B4 a b := fun a b q1 q2 q3 => by
    have w1 : mdb L82 a b = false := by
      have q3' : ¬ 82 = a := fun z => q3 z.symm
      simp [mdb, q3']
    rw [i3 _ _ w1, ← hB6]
    by_cases y : a = Z
    · subst y
      rw [up2_j _ _ _ _ _ (fun z => q2 ⟨rfl, z⟩), up2_k _ _ _ _ _ _ q1, g4 _ _ w1]
    · rw [up2_k _ _ _ _ _ _ y, up2_k _ _ _ _ _ _ q1, g4 _ _ w1]
  have b21 : ∀ a b, a ≠ Z → a ≠ Z + 1 → a ≠ Z + 2 → a ≠ Z + 3 → a ≠ 82 → a ≠ 84 → B2 a b = B a b := fun a b q0 q1 q2 q3 q4 q5 => by
    rw [d8 _ _ (by simp [mdb, nbeq q0, nbeq q1, nbeq q2, nbeq q3, nbeq q4, nbeq q5]), c3 _ _ (by simp [mdb, nbeq q4])]
  have b43 : ∀ a b, a ≠ Z + 9 → a ≠ Z + 10 → B4 a b = B3 a b := fun a b q1 q2 => by
    rw [← hB4, up2_k _ _ _ _ _ _ q2, up2_k _ _ _ _ _ _ q1]
  have p13 : B1 82 13 = Int32.ofNat (nx T p) := c2.2.1.2.2.1
  have tA : ∀ t a b, sf t 2 ≠ 56 → sf t 2 ≠ P + 4 → tget (adv (tset (adv J) (P + 3) (Int32.ofNat n) 3 (Int32.ofNat k))) t a b = tget J t a b := fun t a b q1 q2 => by
    unfold adv
    rw [tget_up (Ne.symm q1), tget_oth (by rw [k1]; omega), tget_up (Ne.symm q1)]
  have tS : ∀ a b, tget (adv (tset (adv J) (P + 3) (Int32.ofNat n) 3 (Int32.ofNat k))) (P + 3) a b = tget (tset (adv J) (P + 3) (Int32.ofNat n) 3 (Int32.ofNat k)) (P + 3) a b := fun a b => by
    unfold adv
    rw [tget_up (by rw [k1]; omega)]
  have tJ : ∀ a b, tget (adv J) (P + 3) a b = tget J (P + 3) a b := fun a b => by
    unfold adv
    rw [tget_up (by rw [k1]; omega)]
  have fA : ∀ a b, a ≠ 56 → a ≠ P + 4 → adv (tset (adv J) (P + 3) (Int32.ofNat n) 3 (Int32.ofNat k)) a b = J a b := fun a b q1 q2 => by
    unfold adv
    rw [up2_k _ _ _ _ _ _ q1, tset_fld (by rw [k1]; omega), up2_k _ _ _ _ _ _ q1]
  have hne : NE L M' (Int32.ofNat i) (Int32.ofNat r) := ⟨i, r, _, rfl, rfl, a2, d3⟩
  refine ⟨_, B7, M', u', hx64, hx205, b3, i2, ?_, d4, d5, d6, ⟨?_, ?_, ?_⟩, ⟨?_, ?_, ?_⟩⟩
  · rcases hZ with rfl | rfl <;> exact ((((d2.fr f3 rfl rfl rfl rfl rfl).fr f4 rfl rfl rfl rfl rfl).fr g4 rfl rfl rfl rfl rfl).fr f6 rfl rfl rfl rfl rfl).fr i3 rfl rfl rfl rfl rfl
  · rw [fA _ _ (by decide) (by omega)]
    exact a12
  · rw [i3 _ _ rfl, ← hB6, up2_k _ _ _ _ _ _ (by omega), up2_k _ _ _ _ _ _ (by omega), g4 _ _ rfl, b43 _ _ (by omega) (by omega), ← hB3, up2_s]
  · intro x hx
    rw [tA _ _ _ (by rw [m3]; decide) (by rw [m3]; omega), tA _ _ _ (by rw [m3]; decide) (by rw [m3]; omega), tA _ _ _ (by rw [m3]; decide) (by rw [m3]; omega), bz _ _ (by omega) (by omega) (by decide), bz _ _ (by omega) (by omega) (by decide), bz _ _ (by omega) (by omega) (by decide), b43 _ _ (by omega) (by omega), b43 _ _ (by omega) (by omega), b43 _ _ (by omega) (by omega)]
    rcases Nat.lt_or_ge x m with z | z
    · obtain ⟨w1, w2, w3⟩ := hb.2.2 x z
      have e171 : B3 171 x = B 171 x := by
        rw [← hB3, up2_k _ _ _ _ _ _ (by decide), up2_k _ _ _ _ _ _ (by decide), up2_k _ _ _ _ _ _ (by decide), up2_j _ _ _ _ _ (by omega), b21 _ _ (by omega) (by omega) (by omega) (by omega) (by decide) (by decide)]
      have e172 : B3 172 x = B 172 x := by
        rw [← hB3, up2_k _ _ _ _ _ _ (by decide), up2_k _ _ _ _ _ _ (by decide), up2_j _ _ _ _ _ (by omega), up2_k _ _ _ _ _ _ (by decide), b21 _ _ (by omega) (by omega) (by omega) (by omega) (by decide) (by decide)]
      have e173 : B3 173 x = B 173 x := by
        rw [← hB3, up2_k _ _ _ _ _ _ (by decide), up2_j _ _ _ _ _ (by omega), up2_k _ _ _ _ _ _ (by decide), up2_k _ _ _ _ _ _ (by decide), b21 _ _ (by omega) (by omega) (by omega) (by omega) (by decide) (by decide)]
      rw [a13 _ _ z, a13 _ _ z, a13 _ _ z, e171, e172, e173]
      exact ⟨w1.mono d4, w2, w3⟩
    · obtain rfl : x = m := by omega
      have e171 : B3 171 x = Int32.ofNat c := by
        rw [← hB3, up2_k _ _ _ _ _ _ (by decide), up2_k _ _ _ _ _ _ (by decide), up2_k _ _ _ _ _ _ (by decide), up2_s]
      have e172 : B3 172 x = Int32.ofNat r := by
        rw [← hB3, up2_k _ _ _ _ _ _ (by decide), up2_k _ _ _ _ _ _ (by decide), up2_s]
      have e173 : B3 173 x = Int32.ofNat (nx T p) := by
        rw [← hB3, up2_k _ _ _ _ _ _ (by decide), up2_s, p13]
      rw [a14, a15, a16, e171, e172, e173]
      exact ⟨hne, rfl, rfl⟩
  · rw [fA _ _ (by omega) (by omega)]
    exact a7
  · rw [i3 _ _ (by rcases hZ with rfl | rfl <;> rfl), ← hB6, up2_s]
  · intro x hx
    have e14 : B7 (Z + 11) x = if x = n then Int32.ofNat k else B (Z + 11) x := by
      rw [i3 _ _ (by rcases hZ with rfl | rfl <;> rfl), ← hB6, up2_k _ _ _ _ _ _ (by omega)]
      by_cases y : x = n
      · rw [if_pos y, y, up2_s]
      · rw [if_neg y, up2_j _ _ _ _ _ y, g4 _ _ (by rcases hZ with rfl | rfl <;> rfl), b43 _ _ (by omega) (by omega), f3 _ _ (by rcases hZ with rfl | rfl <;> rfl), b21 _ _ (by omega) (by omega) (by omega) (by omega) (by omega) (by omega)]
    have e12 : B7 (Z + 9) x = if x = n then Int32.ofNat c else B (Z + 9) x := by
      rw [bz _ _ (by omega) (by omega) (by omega), ← hB4, up2_k _ _ _ _ _ _ (by omega)]
      by_cases y : x = n
      · rw [if_pos y, y, up2_s]
      · rw [if_neg y, up2_j _ _ _ _ _ y, f3 _ _ (by rcases hZ with rfl | rfl <;> rfl), b21 _ _ (by omega) (by omega) (by omega) (by omega) (by omega) (by omega)]
    have e13 : B7 (Z + 10) x = if x = n then Int32.ofNat r else B (Z + 10) x := by
      rw [bz _ _ (by omega) (by omega) (by omega), ← hB4]
      by_cases y : x = n
      · rw [if_pos y, y, up2_s]
      · rw [if_neg y, up2_j _ _ _ _ _ y, up2_k _ _ _ _ _ _ (by omega), f3 _ _ (by rcases hZ with rfl | rfl <;> rfl), b21 _ _ (by omega) (by omega) (by omega) (by omega) (by omega) (by omega)]
    rw [tS, tS, tS, tS, e12, e13, e14]
    rcases Nat.lt_or_ge x n with z | z
    · obtain ⟨w1, w2, w3, w4, w5⟩ := hs.2.2 x z
      have e : Int32.ofNat n ≠ Int32.ofNat x := by rw [Ne, i32_eq (by omega) (by omega)]; omega
      rw [if_neg (by omega), if_neg (by omega), if_neg (by omega), tget_ne k5 k6 (Or.inl e), tget_ne k5 k6 (Or.inl e), tget_ne k5 k6 (Or.inl e), tget_ne k5 k6 (Or.inl e), tJ, tJ, tJ, tJ, a8 _ _ z, a8 _ _ z, a8 _ _ z, a8 _ _ z]
      exact ⟨w1, w2.mono d4, w3, w4, w5⟩
    · obtain rfl : x = n := by omega
      rw [if_pos rfl, if_pos rfl, if_pos rfl, tget_ne k5 k6 (Or.inr (by decide)), tget_ne k5 k6 (Or.inr (by decide)), tget_ne k5 k6 (Or.inr (by decide)), tget_same (tok_i (b := 3) (by omega) (by omega) (by decide) (i32_lit (c := 3) rfl (by omega) (by omega))), tJ, tJ, tJ, a9, a10, a11]
      refine ⟨rfl, hne, rfl, rfl, ?_⟩
      rcases kk_12 hk with y | y
      · exact Or.inl (by rw [y]; rfl)
      · exact Or.inr (by rw [y]; rfl)
theorem field_w (hP : P = 3 ∨ P = 18) (hZ : Z = 85 ∨ Z = 126) (hA : PS T L K p A) (hB : RS T p B) (hN : RN Z M u B) (hM : M.length < 2000) (hu : u + 1280 < 4100) (h0 : cA T p ≠ 256) {A1 : St} (hx : x64 P A1 = (x66 (P + 3) P A 0).bind fun q1 => (x67 q1.2 0).bind fun q2 => (x62 (tset q2.2 (P + 3) q1.1 3 q2.1) 59).bind fun q3 => some q3) (hw : stw T p = some w) (hb : CpB L M m A B) (hm : m < 136) (hs : CpF L M P Z n A B) (hn : n < 96) (hc : A (P + 1) 3 = Int32.ofNat (c + 1)) : ∃ A' B', x64 P A1 = some A' ∧ A' 56 5 = Int32.ofNat w ∧ x205 Z B (Int32.ofNat c) = some (.inl B') ∧ B' 84 0 = Int32.ofNat w := by
  obtain ⟨k1, k2, k3, k4, k5, k6, k7, k8⟩ := sfk hP (Or.inl rfl : P + 3 = P + 3 ∨ P + 3 = P + 5 ∨ P + 3 = P + 7)
  have hs0 : sf (P + 3) 0 = 96 := by rcases hP with rfl | rfl <;> decide
  have h12 := hB.1.2.1
  have hp1 := nx_le (T := T) hB.2.2
  have hp2 := nx_le (T := T) hp1
  have hp3 := nx_le (T := T) hp2
  obtain ⟨B1, c1, c2, c3⟩ := x192_s hB
  unfold stw at hw
  split at hw
  · -- the name
    rename_i w' hnm
    cases hw
    have hwl := nmw_le (by omega) hnm
    obtain ⟨v, J, a1, a2⟩ := x66_w hP (Or.inl rfl : P + 3 = P + 3 ∨ P + 3 = P + 5 ∨ P + 3 = P + 7) hA h0 hnm (x := 0)
    have hE : Er J := er_of (by omega) a2
    have hsw : Sw J (tset J (P + 3) v 3 0) := Sw.rf.ts (by omega)
    refine ⟨tset J (P + 3) v 3 0, Wr B1 w, ?_, wr_sw (by omega) a2 hsw, ?_, up2_s _ _ _ _⟩
    · rw [hx, a1, Option.bind_some]
      dsimp only
      rw [x67_e hE, Option.bind_some]
      dsimp only
      rw [x62_e (hE.sw hsw), Option.bind_some]
    · unfold x205
      rw [c1, Option.bind_some, x201_w c2 hnm]
      rfl
  · rename_i hnm
    obtain ⟨h1, h2⟩ := nmw_none hnm
    obtain ⟨i, J, a1, a2, a3, a4, a5, a6, a7, a8, a9, a10, a11, a12, a13, a14, a15, a16⟩ := x66_y hP (Or.inl rfl) hA h0 h1 h2 hs.1 (by rw [hs0]; exact hn) hb.1 hm hc 0
    have hN1 : RN Z M u B1 := by rcases hZ with rfl | rfl <;> exact hN.fr c3 rfl rfl rfl rfl rfl
    obtain ⟨r, M', u', B2, d1, d2, d3, d4, d5, d6, d7⟩ := x201_y hZ c2 hN1 hM hu h1 h2
    have d8 : Frm [(Z, some 4), (Z + 1, none), (Z + 2, none), (Z, some 3), (Z + 3, none), (82, some 11), (82, some 16), (82, some 13), (82, some 14), (82, some 12), (82, some 15), (84, some 0)] B1 B2 := x201_fr hZ B1 B1 Frm.refl _ d1
    have m82 : B2 82 20 = Int32.ofNat m := by
      rw [d8 _ _ (by rcases hZ with rfl | rfl <;> rfl), c3 _ _ rfl]
      exact hb.2.1
    have e1 := x206_n m82 (by omega) (Int32.ofNat c) (Int32.ofNat r) (B1 82 13)
    generalize hB3 : up2 (up2 (up2 (up2 B2 171 m (Int32.ofNat c)) 172 m (Int32.ofNat r)) 173 m (B1 82 13)) 82 20 (Int32.ofNat (m + 1)) = B3 at e1
    have z6 : B3 Z 7 = Int32.ofNat n := by
      rw [← hB3, up2_k _ _ _ _ _ _ (by omega), up2_k _ _ _ _ _ _ (by omega), up2_k _ _ _ _ _ _ (by omega), up2_k _ _ _ _ _ _ (by omega), d8 _ _ (by rcases hZ with rfl | rfl <;> rfl), c3 _ _ (by rcases hZ with rfl | rfl <;> rfl)]
      exact hs.2.1
    generalize hB4 : up2 (up2 B3 (Z + 9) n (Int32.ofNat c)) (Z + 10) n (Int32.ofNat r) = B4
    have f3 : Frm [(171, none), (172, none), (173, none), (82, some 20)] B2 B3 := by
      rw [← hB3]; exact Frm.u2 (Frm.u2 (Frm.u2 (Frm.u2 Frm.refl rfl) rfl) rfl) rfl
    have f4 : Frm [(Z + 9, none), (Z + 10, none)] B3 B4 := by
      rw [← hB4]; rcases hZ with rfl | rfl <;> exact Frm.u2 (Frm.u2 Frm.refl rfl) rfl
    have r4 : RS T (nx T (nx T p)) B4 := by
      rcases hZ with rfl | rfl <;> exact (d7.fr f3 rfl).fr f4 rfl
    have hin : inb (Int32.ofNat n) 100 := (i32_inb (by omega)).mpr (by omega)
    have head : x205 Z B (Int32.ofNat c) = (x207 B4 0).bind (Sum.elim (fun J => some (.inl J)) (fun q4 => (x204 (up2 (up2 q4.2 (Z + 11) n q4.1) Z 7 ((up2 q4.2 (Z + 11) n q4.1) Z 7 + 1)) 59).bind (Sum.elim (fun J => some (.inl J)) (fun q6 => some (.inr q6))))) := by
      unfold x205
      rw [c1, Option.bind_some, d1, Option.bind_some]
      simp only [Sum.elim_inr]
      rw [e1, Option.bind_some, z6]
      simp only [if_pos hin, Lt]
      rw [i32_cl (by omega), hB4]
    split at hw
    · -- the kind
      rename_i hk
      cases hw
      have b1 := x67_no a5 (f := false) (x := 0) rfl hk
      have e5 : (wrC J (nx T (nx T p))) 56 5 = Int32.ofNat (nx T (nx T p)) := up2_s _ _ _ _
      have hE : Er (wrC J (nx T (nx T p))) := er_of (by omega) e5
      have hsw : Sw (wrC J (nx T (nx T p))) (tset (wrC J (nx T (nx T p))) (P + 3) (Int32.ofNat n) 3 0) := Sw.rf.ts (by omega)
      refine ⟨_, Wr B4 (nx T (nx T p)), ?_, wr_sw (by omega) e5 hsw, by rw [head, x207_no r4 (f := false) (x := 0) rfl hk]; rfl, up2_s _ _ _ _⟩
      rw [hx, a1, Option.bind_some]
      dsimp only
      rw [b1, Option.bind_some]
      dsimp only
      rw [x62_e (hE.sw hsw), Option.bind_some]
    · -- the sign
      rename_i k' hk
      split at hw
      · cases hw
      · rename_i h3
        cases hw
        have b1 := x67_y a5 (f := false) (x := 0) rfl hk
        have hkd : cA T (nx T (nx T p)) ≠ 256 := fun z => by
          have e : rkd T (nx T (nx T p)) = 4 := (rkd_4 a5.le).mpr z
          have e2 : owd T (nx T (nx T p)) = none := by unfold owd; rw [if_neg (by rw [e]; decide)]
          unfold kk at hk
          rw [e2] at hk
          simp at hk
        have a5' : PS T L K (nx T (nx T (nx T p))) (adv J) := a5.nx hkd
        have fr1 : Frm [(P + 4, none)] (adv J) (tset (adv J) (P + 3) (Int32.ofNat n) 3 (Int32.ofNat k')) := Frm.ts Frm.refl (fun j => by rw [k1]; simp [mdb])
        have a5'' : PS T L K (nx T (nx T (nx T p))) (tset (adv J) (P + 3) (Int32.ofNat n) 3 (Int32.ofNat k')) := by
          rcases hP with rfl | rfl <;> exact a5'.fr fr1 rfl rfl rfl rfl
        have b2 := x62_no a5'' (s := 59) (x := 59) rfl (by decide) (by decide) h3
        obtain ⟨g1, B5, g2, g3, g4⟩ := x207_y r4 (f := false) (x := 0) rfl hk
        have f6 : Frm [(Z + 11, none), (Z, some 7)] B5 (up2 (up2 B5 (Z + 11) n (Int32.ofNat k')) Z 7 ((up2 B5 (Z + 11) n (Int32.ofNat k')) Z 7 + 1)) := by
          rcases hZ with rfl | rfl <;> exact Frm.u2 (Frm.u2 Frm.refl rfl) rfl
        have r6 : RS T (nx T (nx T (nx T p))) (up2 (up2 B5 (Z + 11) n (Int32.ofNat k')) Z 7 ((up2 B5 (Z + 11) n (Int32.ofNat k')) Z 7 + 1)) := by
          rcases hZ with rfl | rfl <;> exact g3.fr f6 rfl
        refine ⟨wrC (tset (adv J) (P + 3) (Int32.ofNat n) 3 (Int32.ofNat k')) (nx T (nx T (nx T p))), Wr (up2 (up2 B5 (Z + 11) n (Int32.ofNat k')) Z 7 ((up2 B5 (Z + 11) n (Int32.ofNat k')) Z 7 + 1)) (nx T (nx T (nx T p))), ?_, up2_s _ _ _ _, by rw [head, g2, Option.bind_some]; simp only [Sum.elim_inr]; rw [x204_no r6 (s := 59) (x := 59) rfl (by decide) (by decide) h3]; rfl, up2_s _ _ _ _⟩
        rw [hx, a1, Option.bind_some]
        dsimp only
        rw [b1, Option.bind_some]
        dsimp only
        rw [b2, Option.bind_some]
end
