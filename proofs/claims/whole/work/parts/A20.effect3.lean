/-! THE REFERENCE's effect(), all instructions -/
section
variable {t : Nat × Nat} {B : St} {Z m o fk rt rs c rf x lk : Nat}
theorem l234_l {b2 : Int32} {r rf : Nat} (hr : r < 24) (hrf : rf < 64) : ∀ (c : Nat) (e : Option (Nat × Nat)) (B : St) (f : Nat), c ≤ 6 → B (Z + 19) r = Int32.ofNat rf → 85 ≤ Z → c < f → Rg e B → ∃ B', l234_248 Z b2 (Int32.ofNat r) f (Int32.ofNat c - 1) B = some B' ∧ Rg (e.bind (tkz (ckl rf c))) B' ∧ ∀ a b, (a ≠ 82 ∨ (b ≠ 29 ∧ b ≠ 30 ∧ b ≠ 31)) → B' a b = B a b := by
  intro c
  induction c with
  | zero =>
    intro e B f hc h19 hZ hf h
    obtain ⟨f, rfl⟩ : ∃ g, f = g + 1 := ⟨f - 1, by omega⟩
    refine ⟨B, by rw [l234_248, if_pos (by decide)], ?_, fun _ _ _ => rfl⟩
    cases e <;> exact h
  | succ c ih =>
    intro e B f hc h19 hZ hf h
    obtain ⟨f, rfl⟩ : ∃ g, f = g + 1 := ⟨f - 1, by omega⟩
    have hin : inb (Int32.ofNat r) 24 := (i32_inb (by omega)).mpr (by omega)
    have hcl : (Int32.ofNat r).toNatClampNeg = r := i32_cl (by omega)
    have hk : (if ((Int32.ofNat rf >>> (Int32.ofNat c &&& 31)) &&& 1) = 1 then some (2 : Int32) else some 1) = some (Int32.ofNat (if rf.testBit c then 2 else 1)) := by
      rw [i32_tb (by omega) (by omega)]
      cases rf.testBit c <;> rfl
    obtain ⟨v, B1, a1, a2, a3, -⟩ := x231_g h (k := if rf.testBit c then 2 else 1) (by split <;> omega)
    obtain ⟨B2, b1, b2, b3⟩ := ih _ B1 f (by omega) (by rw [a3 _ _ (by omega)]; exact h19) hZ (by omega) a2
    refine ⟨B2, ?_, ?_, fun a b y => (b3 a b y).trans (a3 a b y)⟩
    · rw [i32_p, l234_248, if_neg (i32_nn (by omega))]
      simp only [if_pos hin, hcl]
      rw [h19, hk, Option.bind_some, a1, Option.bind_some, show Int32.ofNat c + -1 = Int32.ofNat c - 1 from by rw [Int32.sub_eq_add_neg]]
      exact b1
    · cases e with
      | none => exact b2
      | some t => exact b2
theorem x233_l (hZ2 : 85 ≤ Z) (h : Rg (some t) B) (ho : o < 59) (hno : o ≠ 2 ∧ o ≠ 3 ∧ o ≠ 4) (hO : OpR Z m o fk rt rs c rf x B) : ∃ B', x233 Z B (Int32.ofNat x) (Int32.ofNat o) = some B' ∧ Rg (eff o lk fk rt rs (ckl rf c) t) B' := by
  have e : ∀ j, j < 59 → (Int32.ofNat o = Int32.ofNat j ↔ o = j) := fun j hj => i32_eq (by omega) (by omega)
  obtain ⟨O2, O3, O4, O5, O6, O7, O8, O9, O10, O11, O12, O13⟩ := hO
  have hin : inb (Int32.ofNat x) 2400 := (i32_inb (by omega)).mpr (by omega)
  have hcl : (Int32.ofNat x).toNatClampNeg = x := i32_cl (by omega)
  by_cases o5 : o = 5
  · subst o5
    have eqe : eff 5 lk fk rt rs (ckl rf c) t = (tkk 0 t).bind fun t' => (psg (skd t) t').bind (psg (skd t)) := rfl
    obtain ⟨v, B1, a1, a2, a3, a4⟩ := x231_g h (k := 0) (by omega)
    rw [Option.bind_some] at a2
    have hv : ∀ t', tkk 0 t = some t' → v = Int32.ofNat (skd t) := fun t' z => a4 t rfl (tkk_y z).1
    have hs : skd t ≤ 7 := by rcases skd_12 (t := t) with y | y <;> omega
    obtain ⟨B2, b1, b2, b3⟩ := x232_g (k := skd t) (x := v) a2 hs hv
    obtain ⟨B3, c1, c2, c3⟩ := x232_g (k := skd t) (x := v) b2 hs (fun t'' z => by
      obtain ⟨u, z1, z2⟩ := Option.bind_eq_some_iff.mp z
      exact hv u z1)
    refine ⟨B3, ?_, by rw [eqe]; rw [Option.bind_assoc] at c2; exact c2⟩
    unfold x233
    rw [if_neg (by decide), if_neg (by decide), if_neg (by decide), if_neg (by decide), if_pos (by decide)]
    have a1' : x231 B 0 = some (v, B1) := a1
    rw [a1', Option.bind_some, b1, Option.bind_some, c1, Option.bind_some]
  by_cases o7 : o = 7
  · subst o7
    have eqe : eff 7 lk fk rt rs (ckl rf c) t = ((tkk 0 t).bind (tkz [0])).bind fun t' => (psg (skd t) t').bind (psg (skd (spp t))) := rfl
    obtain ⟨v, B1, a1, a2, a3, a4⟩ := x231_g h (k := 0) (by omega)
    rw [Option.bind_some] at a2
    obtain ⟨w, B2, b1, b2, b3, b4⟩ := x231_g a2 (k := 0) (by omega)
    have hv : ∀ t', (tkk 0 t).bind (tkk 0) = some t' → v = Int32.ofNat (skd t) ∧ w = Int32.ofNat (skd (spp t)) := fun t' z => by
      obtain ⟨u, z1, z2⟩ := Option.bind_eq_some_iff.mp z
      obtain ⟨y1, y2, y3⟩ := tkk_y z1
      subst y3
      exact ⟨a4 t rfl y1, b4 _ z1 (tkk_y z2).1⟩
    have hs : skd t ≤ 7 := by rcases skd_12 (t := t) with y | y <;> omega
    have hs2 : skd (spp t) ≤ 7 := by rcases skd_12 (t := spp t) with y | y <;> omega
    obtain ⟨B3, c1, c2, c3⟩ := x232_g (k := skd t) (x := v) b2 hs (fun t' z => (hv t' z).1)
    obtain ⟨B4, d1, d2, d3⟩ := x232_g (k := skd (spp t)) (x := w) c2 hs2 (fun t'' z => by
      obtain ⟨u, z1, z2⟩ := Option.bind_eq_some_iff.mp z
      exact (hv u z1).2)
    refine ⟨B4, ?_, ?_⟩
    · unfold x233
      rw [if_neg (by decide), if_neg (by decide), if_neg (by decide), if_neg (by decide), if_neg (by decide), if_neg (by decide), if_pos (by decide)]
      have a1' : x231 B 0 = some (v, B1) := a1
      have b1' : x231 B1 0 = some (w, B2) := b1
      rw [a1', Option.bind_some, b1', Option.bind_some, c1, Option.bind_some, d1, Option.bind_some]
    · rw [eqe]
      have e2 : (tkk 0 t).bind (tkz [0]) = (tkk 0 t).bind (tkk 0) := by
        cases tkk 0 t with
        | none => rfl
        | some u => rw [Option.bind_some, Option.bind_some, tkz]; cases tkk 0 u <;> rfl
      rw [e2, ← Option.bind_assoc]
      exact d2
  have to234 : (37 < o ∧ o < 55 ∧ o ≠ 52) → x233 Z B (Int32.ofNat x) (Int32.ofNat o) = x234 Z B (Int32.ofNat x) (Int32.ofNat o) := fun hr => by
    unfold x233
    have hc : o = 38 ∨ o = 39 ∨ o = 40 ∨ o = 41 ∨ o = 42 ∨ o = 43 ∨ o = 44 ∨ o = 45 ∨ o = 46 ∨ o = 47 ∨ o = 48 ∨ o = 49 ∨ o = 50 ∨ o = 51 ∨ o = 53 ∨ o = 54 := by omega
    rcases hc with rfl | rfl | rfl | rfl | rfl | rfl | rfl | rfl | rfl | rfl | rfl | rfl | rfl | rfl | rfl | rfl
    all_goals
      simp (decide := true) only [if_true, if_false, Option.bind_fun_some]
  by_cases o38 : o = 38
  · subst o38
    obtain ⟨r, r1, r2, r3⟩ := O2 (Or.inl rfl)
    clear O2 O3 O4
    have hi2 : inb (Int32.ofNat r) 100 := (i32_inb (by omega)).mpr (by omega)
    have hc2 : (Int32.ofNat r).toNatClampNeg = r := i32_cl (by omega)
    obtain ⟨v, B1, a1, a2, a3, -⟩ := x231_g h (k := 2) (by omega)
    obtain ⟨B2, b1, b2, b3⟩ := x232_g (k := fk) (x := Int32.ofNat fk) a2 (by omega) (fun _ _ => rfl)
    refine ⟨B2, ?_, b2⟩
    rw [to234 (by omega)]
    unfold x234
    simp only [if_pos hin, hcl]
    rw [if_pos (by decide), r2]
    simp only [if_pos hi2, hc2]
    rw [r3]
    unfold x235
    have a1' : x231 B 2 = some (v, B1) := a1
    rw [a1', Option.bind_some, b1]
    rfl
  by_cases o39 : o = 39
  · subst o39
    obtain ⟨r, r1, r2, r3⟩ := O2 (Or.inr rfl)
    clear O2 O3 O4
    have hi2 : inb (Int32.ofNat r) 100 := (i32_inb (by omega)).mpr (by omega)
    have hc2 : (Int32.ofNat r).toNatClampNeg = r := i32_cl (by omega)
    obtain ⟨v, B1, a1, a2, a3, -⟩ := x231_g h (k := fk) (by omega)
    obtain ⟨w, B2, b1, b2, b3, -⟩ := x231_g a2 (k := 2) (by omega)
    refine ⟨B2, ?_, ?_⟩
    · rw [to234 (by omega)]
      unfold x234
      simp only [if_pos hin, hcl]
      rw [if_neg (by decide), if_pos (by decide), r2]
      simp only [if_pos hi2, hc2]
      rw [r3]
      unfold x236
      have b1' : x231 B1 2 = some (w, B2) := b1
      rw [a1, Option.bind_some, b1', Option.bind_some, if_pos rfl]
      rfl
    · have eqe : eff 39 lk fk rt rs (ckl rf c) t = (tkk fk t).bind (tkz [2]) := rfl
      rw [eqe]
      rw [Option.bind_some] at b2
      have e2 : (tkk fk t).bind (tkz [2]) = (tkk fk t).bind (tkk 2) := by
        cases tkk fk t with
        | none => rfl
        | some u => rw [Option.bind_some, Option.bind_some, tkz]; cases tkk 2 u <;> rfl
      rw [e2]
      exact b2
  by_cases o40 : o = 40
  · subst o40
    obtain ⟨r, r1, r2, r3⟩ := O3 (Or.inl rfl)
    clear O2 O3 O4
    have hi2 : inb (Int32.ofNat r) 16 := (i32_inb (by omega)).mpr (by omega)
    have hc2 : (Int32.ofNat r).toNatClampNeg = r := i32_cl (by omega)
    obtain ⟨B2, b1, b2, b3⟩ := x232_g (k := fk) (x := Int32.ofNat fk) h (by omega) (fun _ _ => rfl)
    refine ⟨B2, ?_, b2⟩
    rw [to234 (by omega)]
    unfold x234
    simp only [if_pos hin, hcl]
    rw [if_neg (by decide), if_neg (by decide), if_pos (by decide), r2]
    simp only [if_pos hi2, hc2]
    rw [r3, b1]
    rfl
  by_cases o41 : o = 41
  · subst o41
    obtain ⟨r, r1, r2, r3⟩ := O3 (Or.inr rfl)
    clear O2 O3 O4
    have hi2 : inb (Int32.ofNat r) 16 := (i32_inb (by omega)).mpr (by omega)
    have hc2 : (Int32.ofNat r).toNatClampNeg = r := i32_cl (by omega)
    obtain ⟨v, B1, a1, a2, a3, -⟩ := x231_g h (k := fk) (by omega)
    refine ⟨B1, ?_, a2⟩
    rw [to234 (by omega)]
    unfold x234
    simp only [if_pos hin, hcl]
    rw [if_neg (by decide), if_neg (by decide), if_neg (by decide), if_pos (by decide), r2]
    simp only [if_pos hi2, hc2]
    rw [r3, a1]
    rfl
  by_cases o49 : o = 49
  · subst o49
    obtain ⟨r, r1, r2, r3, r4, r5⟩ := O4 (Or.inl rfl)
    clear O2 O3 O4
    have hi2 : inb (Int32.ofNat r) 24 := (i32_inb (by omega)).mpr (by omega)
    have hc2 : (Int32.ofNat r).toNatClampNeg = r := i32_cl (by omega)
    obtain ⟨B1, a1, a2, a3⟩ := l234_l (Z := Z) (b2 := Int32.ofNat 49) r1 O6 c (some t) B 100000 O5 r4 hZ2 (by omega) h
    obtain ⟨B2, b1, b2, b3⟩ := rpo_g a2 O7
    refine ⟨B2, ?_, b2⟩
    rw [to234 (by omega)]
    unfold x234
    simp only [if_pos hin, hcl]
    rw [if_neg (by decide), if_neg (by decide), if_neg (by decide), if_neg (by decide), if_neg (by decide), if_neg (by decide), if_neg (by decide), if_neg (by decide), if_neg (by decide), if_neg (by decide), if_neg (by decide), if_pos (by decide), r2]
    simp only [if_pos hi2, hc2]
    rw [r3, a1, Option.bind_some, if_neg (show ¬ Int32.ofNat 49 = 50 by decide), Option.bind_some]
    dsimp only
    have hv : B1 (Z + 20) r = Int32.ofNat rs := by rw [a3 _ _ (by omega)]; exact r5
    simp only [hv]
    unfold rpo at b1
    by_cases z : rs = 0
    · rw [if_pos z] at b1
      rw [if_pos (by rw [z]; rfl)]
      exact b1
    · rw [if_neg z] at b1
      rw [if_neg (fun y => z ((i32_e (x := 0) (b := 0) rfl (by omega) (by decide)).mp y)), b1]
      rfl
  by_cases o50 : o = 50
  · subst o50
    obtain ⟨r, r1, r2, r3, r4, r5⟩ := O4 (Or.inr rfl)
    clear O2 O3 O4
    have hi2 : inb (Int32.ofNat r) 24 := (i32_inb (by omega)).mpr (by omega)
    have hc2 : (Int32.ofNat r).toNatClampNeg = r := i32_cl (by omega)
    obtain ⟨B1, a1, a2, a3⟩ := l234_l (Z := Z) (b2 := Int32.ofNat 50) r1 O6 c (some t) B 100000 O5 r4 hZ2 (by omega) h
    obtain ⟨w, B2, b1, b2, b3, -⟩ := x231_g a2 (k := 2) (by omega)
    obtain ⟨B3, c1, c2, c3⟩ := rpo_g b2 O7
    refine ⟨B3, ?_, ?_⟩
    · rw [to234 (by omega)]
      unfold x234
      simp only [if_pos hin, hcl]
      rw [if_neg (by decide), if_neg (by decide), if_neg (by decide), if_neg (by decide), if_neg (by decide), if_neg (by decide), if_neg (by decide), if_neg (by decide), if_neg (by decide), if_neg (by decide), if_neg (by decide), if_neg (by decide), if_pos (by decide), r2]
      simp only [if_pos hi2, hc2]
      have b1' : x231 B1 2 = some (w, B2) := b1
      rw [r3, a1, Option.bind_some, if_pos (show Int32.ofNat 50 = 50 from rfl), b1', Option.bind_some, Option.bind_some]
      dsimp only
      have hv : B2 (Z + 20) r = Int32.ofNat rs := by rw [b3 _ _ (by omega), a3 _ _ (by omega)]; exact r5
      simp only [hv]
      unfold rpo at c1
      by_cases z : rs = 0
      · rw [if_pos z] at c1
        rw [if_pos (by rw [z]; rfl)]
        exact c1
      · rw [if_neg z] at c1
        rw [if_neg (fun y => z ((i32_e (x := 0) (b := 0) rfl (by omega) (by decide)).mp y)), c1]
        rfl
    · have eqe : eff 50 lk fk rt rs (ckl rf c) t = (tkz (ckl rf c) t).bind fun t' => (tkk 2 t').bind (pso rs) := rfl
      rw [eqe, ← Option.bind_assoc]
      exact c2
  by_cases o51 : o = 51
  · subst o51
    clear O2 O3 O4
    have hi2 : inb (Int32.ofNat m) 24 := (i32_inb (by omega)).mpr (by omega)
    have hc2 : (Int32.ofNat m).toNatClampNeg = m := i32_cl (by omega)
    have eqe : eff 51 lk fk rt rs (ckl rf c) t = if rt = 0 then some t else tkk rt t := rfl
    rw [to234 (by omega), eqe]
    unfold x234
    simp only [if_pos hin, hcl]
    rw [if_neg (by decide), if_neg (by decide), if_neg (by decide), if_neg (by decide), if_neg (by decide), if_neg (by decide), if_neg (by decide), if_neg (by decide), if_neg (by decide), if_neg (by decide), if_neg (by decide), if_neg (by decide), if_neg (by decide), if_pos (by decide), O10]
    simp only [if_pos hi2, hc2]
    rw [O12]
    by_cases z : rt = 0
    · rw [if_pos (by rw [z]; rfl), if_pos z]
      exact ⟨B, rfl, h⟩
    · rw [if_neg (fun y => z ((i32_e (x := 0) (b := 0) rfl (by omega) (by decide)).mp y)), if_neg z]
      obtain ⟨v, B1, a1, a2, a3, -⟩ := x231_g h (k := rt) (by omega)
      rw [a1]
      exact ⟨B1, rfl, a2⟩
  · clear O2 O3 O4
    have hk : ∀ o, o < 59 → ((tkl o).all fun k => decide (k ≤ 2)) = true ∧ gvk o ≤ 2 := by decide
    obtain ⟨k1, k2⟩ := hk o ho
    obtain ⟨B1, a1, a2, a3⟩ := rtk_g (tkl o) (some t) B (fun k hk => by have := List.all_eq_true.mp k1 k hk; simpa using this) h
    obtain ⟨B2, b1, b2, b3⟩ := rpo_g a2 k2
    refine ⟨B2, by rw [x233_p O13 ho (by omega), a1, Option.bind_some]; exact b1, ?_⟩
    unfold eff
    rw [if_neg hno.1, if_neg hno.2.2, if_neg o5, if_neg o7, if_neg o38, if_neg o39, if_neg o40, if_neg o41, if_neg o49, if_neg o50, if_neg o51]
    exact b2
end
