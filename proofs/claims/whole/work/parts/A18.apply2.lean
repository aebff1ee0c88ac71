/-! THE CLASS's apply(), all instructions -/
section
variable {t : Nat × Nat} {l : Nat × Nat × Nat} {A : St} {P : Nat} {m o vv fk rt rs c rf : Nat} {a b : Int32}
theorem x112_l (hP : P = 3 ∨ P = 18) (h : Cs t A) (ht : Sok t) (h16 : t.1 ≤ 16) (hl : Lc l A) (ho : o < 59) (hO : OpC P m o vv fk rt rs c rf a b A) (hno : o ≠ 2 ∧ o ≠ 3 ∧ o ≠ 4 ∧ o ≠ 5 ∧ o ≠ 6 ∧ o ≠ 7 ∧ o ≠ 51) {lk : Nat} : ApR (x112 P A (Int32.ofNat o) b) A (eff o lk fk rt rs (ckl rf c) t) l := by
  have hP' : Hid (P = 3 ∨ P = 18) := hP
  have hP2 : 3 ≤ P ∧ P ≤ 18 := by omega
  have e : ∀ j, j < 59 → (Int32.ofNat o = Int32.ofNat j ↔ o = j) := fun j hj => i32_eq (by omega) (by omega)
  obtain ⟨O1, O2, O3, O4, O5, O6, O7, O8, O9, O10, O11⟩ := hO
  have pl : ∀ X : Option (Int32 × St), ApR X A (eff o lk fk rt rs (ckl rf c) t) l → ApR (X.bind fun q => if q.1 = 0 ∨ q.1 = 1 then some (q.1, q.2) else none) A (eff o lk fk rt rs (ckl rf c) t) l := fun X hX => by
    obtain ⟨v, A', q1, q2, q3, q4⟩ := hX
    refine ⟨v, A', ?_, q2, q3, q4⟩
    rw [q1, Option.bind_some, if_pos q2]
  have hplain : (o ≠ 38 ∧ o ≠ 39 ∧ o ≠ 40 ∧ o ≠ 41 ∧ o ≠ 49 ∧ o ≠ 50) → ApR (x113 A (Int32.ofNat o)) A (eff o lk fk rt rs (ckl rf c) t) l := fun z => by
    have hx := x113_l ho ⟨hno.1, hno.2.1, hno.2.2.1, hno.2.2.2.1, hno.2.2.2.2.1, hno.2.2.2.2.2.1, z.1, z.2.1, z.2.2.1, z.2.2.2.1, z.2.2.2.2.1, z.2.2.2.2.2, hno.2.2.2.2.2.2⟩ h ht h16 hl
    unfold eff
    rw [if_neg hno.1, if_neg hno.2.2.1, if_neg hno.2.2.2.1, if_neg hno.2.2.2.2.2.1, if_neg z.1, if_neg z.2.1, if_neg z.2.2.1, if_neg z.2.2.2.1, if_neg z.2.2.2.2.1, if_neg z.2.2.2.2.2, if_neg hno.2.2.2.2.2.2]
    exact hx
  unfold x112
  by_cases o38 : o = 38
  · subst o38
    obtain ⟨r, r1, r2, r3⟩ := O2 (Or.inl rfl)
    rw [if_pos (show Int32.ofNat 38 = 38 from rfl)]
    obtain ⟨w, A1, a1, a2, a3, a4⟩ := x111_k h ht 2 (Or.inr rfl)
    rw [a1, Option.bind_some]
    dsimp only
    have eqe : eff 38 lk fk rt rs (ckl rf c) t = (tkk 2 t).bind (psg fk) := rfl
    have ht3 : tget A1 (P + 3) b 3 = Int32.ofNat fk := by
      rw [r2]
      simp (disch := omega) only [tP3 hP']
      rw [a4 _ _ (by omega)]
      exact r3
    rw [ht3, eqe]
    cases z : tkk 2 t with
    | none =>
      obtain ⟨A2, b1⟩ := x110_t (A := A1) (x := Int32.ofNat fk)
      rw [if_neg (show ¬ w = 2 from a3 z), Option.bind_some, b1, Option.bind_some, if_pos (Or.inl rfl)]
      exact ⟨0, A2, rfl, Or.inl rfl, fun t' y => (nomatch y), fun _ => Or.inl rfl⟩
    | some t1 =>
      obtain ⟨c1, c2⟩ := a2 t1 z
      obtain ⟨d1, d2⟩ := tkk_ok z ht
      obtain ⟨A2, b1, -, b2, b3, b4⟩ := cp1 c2 d1 (by omega) O7
      rw [if_pos (show w = 2 from c1), Option.bind_some, b1, Option.bind_some, if_pos (Or.inr rfl)]
      exact ⟨1, A2, rfl, Or.inr rfl, fun t' y => ⟨rfl, b2 t' y, lc_fr (lc_fr hl a4) b4⟩, fun y => Or.inr (b3 y)⟩
  rw [if_neg (show ¬ Int32.ofNat o = 38 from fun z => o38 ((e 38 (by omega)).mp z))]
  by_cases o39 : o = 39
  · subst o39
    obtain ⟨r, r1, r2, r3⟩ := O2 (Or.inr rfl)
    rw [if_pos (show Int32.ofNat 39 = 39 from rfl)]
    obtain ⟨w, A1, a1, a2, a3, a4⟩ := x111_k h ht fk O7
    rw [a1, Option.bind_some]
    dsimp only
    have eqe : eff 39 lk fk rt rs (ckl rf c) t = (tkk fk t).bind (tkz [2]) := rfl
    have ht3 : tget A1 (P + 3) b 3 = Int32.ofNat fk := by
      rw [r2]
      simp (disch := omega) only [tP3 hP']
      rw [a4 _ _ (by omega)]
      exact r3
    rw [ht3, eqe]
    cases z : tkk fk t with
    | none =>
      rw [if_neg (a3 z)]
      exact ⟨0, A1, rfl, Or.inl rfl, fun t' y => (nomatch y), fun _ => Or.inl rfl⟩
    | some t1 =>
      obtain ⟨c1, c2⟩ := a2 t1 z
      obtain ⟨d1, d2⟩ := tkk_ok z ht
      obtain ⟨w2, A2, b1, b2, b3, b4⟩ := x111_k c2 d1 2 (Or.inr rfl)
      rw [if_pos c1, b1, Option.bind_some, Option.bind_some]
      dsimp only
      rw [tkz]
      cases z2 : tkk 2 t1 with
      | none =>
        rw [if_neg (show ¬ w2 = 2 from b3 z2)]
        exact ⟨0, A2, rfl, Or.inl rfl, fun t' y => (nomatch y), fun _ => Or.inl rfl⟩
      | some t2 =>
        obtain ⟨c3, c4⟩ := b2 t2 z2
        rw [if_pos (show w2 = 2 from c3)]
        exact ⟨1, A2, rfl, Or.inr rfl, fun t' y => by cases y; exact ⟨rfl, c4, lc_fr (lc_fr hl a4) b4⟩, fun y => (nomatch y)⟩
  rw [if_neg (show ¬ Int32.ofNat o = 39 from fun z => o39 ((e 39 (by omega)).mp z))]
  by_cases o40 : o = 40
  · subst o40
    obtain ⟨r, r1, r2, r3⟩ := O3 (Or.inl rfl)
    rw [if_pos (show Int32.ofNat 40 = 40 from rfl)]
    have eqe : eff 40 lk fk rt rs (ckl rf c) t = psg fk t := rfl
    have ht3 : tget A (P + 5) b 3 = Int32.ofNat fk := by
      rw [r2]
      simp (disch := omega) only [tP5 hP']
      exact r3
    rw [ht3, eqe]
    obtain ⟨A2, b1, -, b2, b3, b4⟩ := cp1 h ht h16 O7
    rw [b1, Option.bind_some]
    exact ⟨1, A2, rfl, Or.inr rfl, fun t' y => ⟨rfl, b2 t' y, lc_fr hl b4⟩, fun y => Or.inr (b3 y)⟩
  rw [if_neg (show ¬ Int32.ofNat o = 40 from fun z => o40 ((e 40 (by omega)).mp z))]
  by_cases o41 : o = 41
  · subst o41
    obtain ⟨r, r1, r2, r3⟩ := O3 (Or.inr rfl)
    rw [if_pos (show Int32.ofNat 41 = 41 from rfl)]
    have eqe : eff 41 lk fk rt rs (ckl rf c) t = tkk fk t := rfl
    obtain ⟨w, A1, a1, a2, a3, a4⟩ := x111_k h ht fk O7
    have ht3 : tget A1 (P + 5) b 3 = Int32.ofNat fk := by
      rw [r2]
      simp (disch := omega) only [tP5 hP']
      rw [a4 _ _ (by omega)]
      exact r3
    rw [a1, Option.bind_some]
    dsimp only
    rw [ht3, eqe]
    cases z : tkk fk t with
    | none =>
      rw [if_neg (a3 z)]
      exact ⟨0, A1, rfl, Or.inl rfl, fun t' y => (nomatch y), fun _ => Or.inl rfl⟩
    | some t1 =>
      obtain ⟨c1, c2⟩ := a2 t1 z
      rw [if_pos c1]
      exact ⟨1, A1, rfl, Or.inr rfl, fun t' y => by cases y; exact ⟨rfl, c2, lc_fr hl a4⟩, fun y => (nomatch y)⟩
  rw [if_neg (show ¬ Int32.ofNat o = 41 from fun z => o41 ((e 41 (by omega)).mp z))]
  by_cases o49 : o = 49
  · subst o49
    obtain ⟨r, r1, r2, r3, r4, r5⟩ := O4 (Or.inl rfl)
    have eqe : eff 49 lk fk rt rs (ckl rf c) t = (tkz (ckl rf c) t).bind (pso rs) := rfl
    have ht4 : tget A (P + 7) b 4 = Int32.ofNat c := by
      rw [r2]
      simp (disch := omega) only [tP7 hP']
      exact r3
    obtain ⟨v, A1, a1, a2, -, a4, a5⟩ := l112_l hP (b1 := Int32.ofNat 49) r1 c t A 1 100000 O5 r4 (Or.inr rfl) (by omega)
    obtain ⟨a6, a7⟩ := a5 h ht rfl
    have ht3 : tget A1 (P + 7) b 3 = Int32.ofNat rs := by
      rw [r2]
      simp (disch := omega) only [tP7 hP']
      rw [a4 _ _ (by omega)]
      exact r5
    rw [if_neg (by decide), if_neg (by decide), if_neg (by decide), if_neg (by decide), if_neg (by decide), if_neg (by decide), if_neg (by decide), if_pos (by decide), ht4, r2, a1, Option.bind_some]
    rw [r2] at ht3
    dsimp only
    rw [if_pos (show Int32.ofNat 49 = 49 from rfl)]
    have e1 : (if v = 0 then some ((0 : Int32), A1) else some (1, A1)) = some (v, A1) := by
      rcases a2 with y | y
      · rw [if_pos y, y]
      · rw [if_neg (by rw [y]; decide), y]
    rw [e1, Option.bind_some]
    dsimp only
    rw [ht3, eqe]
    cases z : tkz (ckl rf c) t with
    | none =>
      obtain ⟨A2, b1⟩ := x110_t (A := A1) (x := Int32.ofNat rs)
      rw [b1, Option.bind_some, if_pos a2]
      exact ⟨v, A2, rfl, a2, fun t' y => (nomatch y), fun _ => Or.inl (a7 z)⟩
    | some t1 =>
      obtain ⟨c1, c2⟩ := a6 t1 z
      obtain ⟨d1, d2⟩ := tkz_ok z ht
      obtain ⟨A2, b1, b2, b3, b4⟩ := cpo c2 d1 (by omega) O6
      rw [b1, Option.bind_some, if_pos a2]
      exact ⟨v, A2, rfl, a2, fun t' y => ⟨c1, b2 t' y, lc_fr (lc_fr hl a4) b4⟩, fun y => Or.inr (b3 y)⟩
  by_cases o50 : o = 50
  · subst o50
    obtain ⟨r, r1, r2, r3, r4, r5⟩ := O4 (Or.inr rfl)
    have eqe : eff 50 lk fk rt rs (ckl rf c) t = (tkz (ckl rf c) t).bind fun t' => (tkk 2 t').bind (pso rs) := rfl
    have ht4 : tget A (P + 7) b 4 = Int32.ofNat c := by
      rw [r2]
      simp (disch := omega) only [tP7 hP']
      exact r3
    obtain ⟨v, A1, a1, a2, -, a4, a5⟩ := l112_l hP (b1 := Int32.ofNat 50) r1 c t A 1 100000 O5 r4 (Or.inr rfl) (by omega)
    obtain ⟨a6, a7⟩ := a5 h ht rfl
    have hK : ∀ K : St, (∀ x y, (x ≠ 58 ∨ (y ≠ 7 ∧ y ≠ 8)) → K x y = A x y) → tget K (P + 7) (Int32.ofNat r) 3 = Int32.ofNat rs := fun K hK => by
      simp (disch := omega) only [tP7 hP']
      rw [hK _ _ (by omega)]
      exact r5
    rw [if_neg (by decide), if_neg (by decide), if_neg (by decide), if_neg (by decide), if_neg (by decide), if_neg (by decide), if_neg (by decide), if_neg (by decide), if_pos (by decide), ht4, r2, a1, Option.bind_some]
    dsimp only
    rw [if_neg (show ¬ Int32.ofNat 50 = 49 by decide)]
    cases z : tkz (ckl rf c) t with
    | none =>
      obtain ⟨w, A2, b1⟩ := x111_t (A := A1)
      have v0 := a7 z
      rw [b1, Option.bind_some]
      dsimp only
      have e1 : (if w = 2 then if v = 0 then some ((0 : Int32), A2) else some (1, A2) else some (0, A2)) = some (0, A2) := by
        rw [if_pos v0]
        split <;> rfl
      rw [e1, Option.bind_some]
      dsimp only
      obtain ⟨A3, b2⟩ := x110_t (A := A2) (x := tget A2 (P + 7) (Int32.ofNat r) 3)
      rw [b2, Option.bind_some, if_pos (Or.inl rfl), eqe, z]
      exact ⟨0, A3, rfl, Or.inl rfl, fun t' y => (nomatch y), fun _ => Or.inl rfl⟩
    | some t1 =>
      obtain ⟨c1, c2⟩ := a6 t1 z
      obtain ⟨d1, d2⟩ := tkz_ok z ht
      obtain ⟨w, A2, b1, b2, b3, b4⟩ := x111_k c2 d1 2 (Or.inr rfl)
      rw [b1, Option.bind_some]
      dsimp only
      rw [eqe, z, Option.bind_some]
      cases z2 : tkk 2 t1 with
      | none =>
        rw [if_neg (show ¬ w = 2 from b3 z2), Option.bind_some]
        dsimp only
        obtain ⟨A3, b5⟩ := x110_t (A := A2) (x := tget A2 (P + 7) (Int32.ofNat r) 3)
        rw [b5, Option.bind_some, if_pos (Or.inl rfl)]
        exact ⟨0, A3, rfl, Or.inl rfl, fun t' y => (nomatch y), fun _ => Or.inl rfl⟩
      | some t2 =>
        obtain ⟨c3, c4⟩ := b2 t2 z2
        obtain ⟨d3, d4⟩ := tkk_ok z2 d1
        rw [if_pos (show w = 2 from c3), if_neg (by rw [c1]; decide), Option.bind_some]
        dsimp only
        obtain ⟨A3, b5, b6, b7, b8⟩ := cpo c4 d3 (by omega) O6
        rw [hK A2 (fun x y z => (b4 x y z).trans (a4 x y z)), b5, Option.bind_some, if_pos (Or.inr rfl)]
        exact ⟨1, A3, rfl, Or.inr rfl, fun t' y => ⟨rfl, b6 t' y, lc_fr (lc_fr (lc_fr hl a4) b4) b8⟩, fun y => Or.inr (b7 y)⟩
  have hp := hplain ⟨o38, o39, o40, o41, o49, o50⟩
  have fin := pl _ hp
  by_cases y42 : Int32.ofNat o = 42
  · rw [if_pos y42]; exact fin
  rw [if_neg y42]
  by_cases y43 : Int32.ofNat o = 43
  · rw [if_pos y43]; exact fin
  rw [if_neg y43]
  by_cases y44 : Int32.ofNat o = 44
  · rw [if_pos y44]; exact fin
  rw [if_neg y44]
  by_cases y45 : Int32.ofNat o = 45
  · rw [if_pos y45]; exact fin
  rw [if_neg y45]
  by_cases y46 : Int32.ofNat o = 46
  · rw [if_pos y46]; exact fin
  rw [if_neg y46]
  by_cases y47 : Int32.ofNat o = 47
  · rw [if_pos y47]; exact fin
  rw [if_neg y47]
  by_cases y48 : Int32.ofNat o = 48
  · rw [if_pos y48]; exact fin
  rw [if_neg y48]
  rw [if_neg (show ¬ Int32.ofNat o = 49 from fun z => o49 ((e 49 (by omega)).mp z)), if_neg (show ¬ Int32.ofNat o = 50 from fun z => o50 ((e 50 (by omega)).mp z))]
  exact fin
theorem x108_l (hP : P = 3 ∨ P = 18) (h : Cs t A) (ht : Sok t) (h16 : t.1 ≤ 16) (hl : Lc l A) (hlo : Lok l) (ho : o < 59) (hO : OpC P m o vv fk rt rs c rf a b A) : ApR (x108 P A (Int32.ofNat o) a b) A (eff o (wvl l vv) fk rt rs (ckl rf c) t) (if o = 3 then stl (skd t) vv l else l) := by
  have hP' : Hid (P = 3 ∨ P = 18) := hP
  have e : ∀ j, j < 59 → (Int32.ofNat o = Int32.ofNat j ↔ o = j) := fun j hj => i32_eq (by omega) (by omega)
  have hO' := hO
  obtain ⟨O1, O2, O3, O4, O5, O6, O7, O8, O9, O10, O11⟩ := hO'
  unfold x108
  by_cases o2 : o = 2
  · subst o2
    obtain ⟨r1, r2⟩ := O1 (Or.inl rfl)
    have eqe : eff 2 (wvl l vv) fk rt rs (ckl rf c) t = if wvl l vv = 1 ∨ wvl l vv = 2 then psg (wvl l vv) t else none := rfl
    rw [if_pos (show Int32.ofNat 2 = 2 from rfl), r1, x109_l hl hlo r2, eqe, if_neg (show ¬ 2 = 3 by decide)]
    by_cases z1 : wvl l vv = 1
    · rw [if_pos z1, if_pos (Or.inl z1), z1]
      obtain ⟨A2, b1, -, b2, b3, b4⟩ := cp1 h ht h16 (k := 1) (Or.inl rfl)
      rw [b1, Option.bind_some, if_neg (by decide)]
      exact ⟨1, A2, rfl, Or.inr rfl, fun t' y => ⟨rfl, b2 t' y, lc_fr hl b4⟩, fun y => Or.inr (b3 y)⟩
    · rw [if_neg z1]
      by_cases z2 : wvl l vv = 2
      · rw [if_pos z2, if_pos (Or.inr z2), z2]
        obtain ⟨A2, b1, -, b2, b3, b4⟩ := cp1 h ht h16 (k := 2) (Or.inr rfl)
        rw [b1, Option.bind_some, if_neg (by decide)]
        exact ⟨1, A2, rfl, Or.inr rfl, fun t' y => ⟨rfl, b2 t' y, lc_fr hl b4⟩, fun y => Or.inr (b3 y)⟩
      · rw [if_neg z2, if_neg (by omega), show Int32.ofNat 0 = 0 from rfl, x110_0, Option.bind_some, if_pos rfl]
        exact ⟨0, A, rfl, Or.inl rfl, fun t' y => (nomatch y), fun _ => Or.inl rfl⟩
  rw [if_neg (show ¬ Int32.ofNat o = 2 from fun z => o2 ((e 2 (by omega)).mp z))]
  by_cases o3 : o = 3
  · subst o3
    obtain ⟨r1, r2⟩ := O1 (Or.inr (Or.inl rfl))
    have eqe : eff 3 (wvl l vv) fk rt rs (ckl rf c) t = ((tkk 0 t).bind (tkz [])).bind (pso 0) := rfl
    rw [if_pos (show Int32.ofNat 3 = 3 from rfl), eqe, if_pos rfl]
    by_cases h0 : t.1 = 0
    · rw [x111_0 h h0, Option.bind_some]
      dsimp only
      obtain ⟨A2, b1⟩ := x100_t (A := A) (x := a) (y := 0)
      rw [b1, Option.bind_some, if_pos rfl]
      have : tkk 0 t = none := by unfold tkk; rw [if_pos h0]
      rw [this]
      exact ⟨0, A2, rfl, Or.inl rfl, fun t' y => (nomatch y), fun _ => Or.inl rfl⟩
    · obtain ⟨A1, a1, a2, a3⟩ := x111_y h ht (by omega)
      obtain ⟨A2, b1, b2, b3⟩ := x100_l (lc_fr hl a3) r2 skd_12
      rw [a1, Option.bind_some]
      dsimp only
      rw [r1, b1, Option.bind_some, if_neg (by rcases skd_12 (t := t) with y | y <;> rw [y] <;> decide)]
      have : tkk 0 t = some (spp t) := by unfold tkk; rw [if_neg h0, if_pos (Or.inl rfl)]
      rw [this]
      refine ⟨1, A2, rfl, Or.inr rfl, fun t' y => ?_, fun y => (nomatch y)⟩
      cases y
      exact ⟨rfl, ⟨by rw [b3 _ _ (by omega)]; exact a2.1, by rw [b3 _ _ (by omega)]; exact a2.2⟩, b2⟩
  rw [if_neg (show ¬ Int32.ofNat o = 3 from fun z => o3 ((e 3 (by omega)).mp z)), if_neg o3]
  by_cases o4 : o = 4
  · subst o4
    obtain ⟨r1, r2⟩ := O1 (Or.inr (Or.inr rfl))
    have eqe : eff 4 (wvl l vv) fk rt rs (ckl rf c) t = if wvl l vv = 1 then some t else none := rfl
    rw [if_pos (show Int32.ofNat 4 = 4 from rfl), r1, x109_l hl hlo r2, eqe]
    by_cases z1 : wvl l vv = 1
    · rw [if_pos z1, if_pos z1, if_pos (show Int32.ofNat 1 = 1 from rfl)]
      exact ⟨1, A, rfl, Or.inr rfl, fun t' y => by cases y; exact ⟨rfl, h, hl⟩, fun y => (nomatch y)⟩
    · rw [if_neg z1, if_neg z1, if_neg (by split <;> decide)]
      exact ⟨0, A, rfl, Or.inl rfl, fun t' y => (nomatch y), fun _ => Or.inl rfl⟩
  rw [if_neg (show ¬ Int32.ofNat o = 4 from fun z => o4 ((e 4 (by omega)).mp z))]
  by_cases o5 : o = 5
  · subst o5
    have eqe : eff 5 (wvl l vv) fk rt rs (ckl rf c) t = (tkk 0 t).bind fun t' => (psg (skd t) t').bind (psg (skd t)) := rfl
    rw [if_pos (show Int32.ofNat 5 = 5 from rfl), eqe]
    by_cases h0 : t.1 = 0
    · rw [x111_0 h h0, Option.bind_some]
      dsimp only
      rw [x110_0, Option.bind_some, x110_0, Option.bind_some, if_pos rfl]
      have : tkk 0 t = none := by unfold tkk; rw [if_pos h0]
      rw [this]
      exact ⟨0, A, rfl, Or.inl rfl, fun t' y => (nomatch y), fun _ => Or.inl rfl⟩
    · obtain ⟨A1, a1, a2, a3⟩ := x111_y h ht (by omega)
      have s1 : (spp t).1 = t.1 - 1 := rfl
      obtain ⟨A2, b1, b2, -, -, b4⟩ := cp1 a2 (spp_ok ht) (by omega) (skd_12 (t := t))
      have hp1 : psg (skd t) (spp t) = some (sps (skd t) (spp t)) := by unfold psg; rw [if_pos (by omega)]
      have s2 : (sps (skd t) (spp t)).1 = t.1 - 1 + 1 := rfl
      obtain ⟨A3, c1, -, c3, c4, c5⟩ := cp1 b2 (sps_ok (spp_ok ht) (by omega)) (by omega) (skd_12 (t := t))
      have : tkk 0 t = some (spp t) := by unfold tkk; rw [if_neg h0, if_pos (Or.inl rfl)]
      rw [a1, Option.bind_some]
      dsimp only
      rw [b1, Option.bind_some, c1, Option.bind_some, if_neg (by rcases skd_12 (t := t) with y | y <;> rw [y] <;> decide), this, Option.bind_some, hp1, Option.bind_some]
      exact ⟨1, A3, rfl, Or.inr rfl, fun t' y => ⟨rfl, c3 t' y, lc_fr (lc_fr (lc_fr hl a3) b4) c5⟩, fun y => Or.inr (c4 y)⟩
  rw [if_neg (show ¬ Int32.ofNat o = 5 from fun z => o5 ((e 5 (by omega)).mp z))]
  by_cases o6 : o = 6
  · subst o6
    have eqe : eff 6 (wvl l vv) fk rt rs (ckl rf c) t = ((tkk 0 t).bind (tkz [])).bind (pso 0) := rfl
    rw [if_pos (show Int32.ofNat 6 = 6 from rfl), eqe]
    by_cases h0 : t.1 = 0
    · rw [x111_0 h h0, Option.bind_some, if_pos rfl]
      have : tkk 0 t = none := by unfold tkk; rw [if_pos h0]
      rw [this]
      exact ⟨0, A, rfl, Or.inl rfl, fun t' y => (nomatch y), fun _ => Or.inl rfl⟩
    · obtain ⟨A1, a1, a2, a3⟩ := x111_y h ht (by omega)
      have : tkk 0 t = some (spp t) := by unfold tkk; rw [if_neg h0, if_pos (Or.inl rfl)]
      rw [a1, Option.bind_some]
      dsimp only
      rw [if_neg (by rcases skd_12 (t := t) with y | y <;> rw [y] <;> decide), this]
      refine ⟨1, A1, rfl, Or.inr rfl, fun t' y => ?_, fun y => (nomatch y)⟩
      cases y
      exact ⟨rfl, a2, lc_fr hl a3⟩
  rw [if_neg (show ¬ Int32.ofNat o = 6 from fun z => o6 ((e 6 (by omega)).mp z))]
  by_cases o7 : o = 7
  · subst o7
    have eqe : eff 7 (wvl l vv) fk rt rs (ckl rf c) t = ((tkk 0 t).bind (tkz [0])).bind fun t' => (psg (skd t) t').bind (psg (skd (spp t))) := rfl
    rw [if_pos (show Int32.ofNat 7 = 7 from rfl), eqe]
    by_cases h0 : t.1 = 0
    · rw [x111_0 h h0, Option.bind_some]
      dsimp only
      rw [x111_0 h h0, Option.bind_some]
      dsimp only
      rw [x110_0, Option.bind_some, x110_0, Option.bind_some, if_pos rfl]
      have : tkk 0 t = none := by unfold tkk; rw [if_pos h0]
      rw [this]
      exact ⟨0, A, rfl, Or.inl rfl, fun t' y => (nomatch y), fun _ => Or.inl rfl⟩
    · obtain ⟨A1, a1, a2, a3⟩ := x111_y h ht (by omega)
      have s1 : (spp t).1 = t.1 - 1 := rfl
      have ht1 : tkk 0 t = some (spp t) := by unfold tkk; rw [if_neg h0, if_pos (Or.inl rfl)]
      rw [a1, Option.bind_some, ht1, Option.bind_some]
      dsimp only
      by_cases h1 : (spp t).1 = 0
      · rw [x111_0 a2 h1, Option.bind_some]
        dsimp only
        obtain ⟨A2, b1⟩ := x110_t (A := A1) (x := Int32.ofNat (skd t))
        rw [b1, Option.bind_some, x110_0, Option.bind_some, if_pos rfl]
        have : tkz [0] (spp t) = none := by rw [tkz]; unfold tkk; rw [if_pos h1]; rfl
        rw [this]
        exact ⟨0, A2, rfl, Or.inl rfl, fun t' y => (nomatch y), fun _ => Or.inl rfl⟩
      · obtain ⟨A2, b1, b2, b3⟩ := x111_y a2 (spp_ok ht) (by omega)
        have s2 : (spp (spp t)).1 = t.1 - 1 - 1 := rfl
        have ht2 : tkz [0] (spp t) = some (spp (spp t)) := by rw [tkz]; unfold tkk; rw [if_neg h1, if_pos (Or.inl rfl)]; rfl
        obtain ⟨A3, c1, c2, -, -, c5⟩ := cp1 b2 (spp_ok (spp_ok ht)) (by omega) (skd_12 (t := t))
        have hp1 : psg (skd t) (spp (spp t)) = some (sps (skd t) (spp (spp t))) := by unfold psg; rw [if_pos (by omega)]
        have s3 : (sps (skd t) (spp (spp t))).1 = t.1 - 1 - 1 + 1 := rfl
        obtain ⟨A4, d1, -, d3, d4, d5⟩ := cp1 c2 (sps_ok (spp_ok (spp_ok ht)) (by omega)) (by omega) (skd_12 (t := spp t))
        rw [b1, Option.bind_some]
        dsimp only
        rw [c1, Option.bind_some, d1, Option.bind_some, if_neg (by rcases skd_12 (t := spp t) with y | y <;> rw [y] <;> decide), ht2, Option.bind_some, hp1, Option.bind_some]
        exact ⟨1, A4, rfl, Or.inr rfl, fun t' y => ⟨rfl, d3 t' y, lc_fr (lc_fr (lc_fr (lc_fr hl a3) b3) c5) d5⟩, fun y => Or.inr (d4 y)⟩
  rw [if_neg (show ¬ Int32.ofNat o = 7 from fun z => o7 ((e 7 (by omega)).mp z))]
  by_cases o51 : o = 51
  · subst o51
    have eqe : eff 51 (wvl l vv) fk rt rs (ckl rf c) t = if rt = 0 then some t else tkk rt t := rfl
    have ht3 : tget A (P + 7) (A 58 3) 3 = Int32.ofNat rt := by
      rw [O9]
      simp (disch := omega) only [tP7 hP']
      exact O11
    rw [if_pos (show Int32.ofNat 51 = 51 from rfl), ht3, eqe]
    by_cases z : rt = 0
    · rw [if_pos z, if_pos (by rw [z]; rfl)]
      exact ⟨1, A, rfl, Or.inr rfl, fun t' y => by cases y; exact ⟨rfl, h, hl⟩, fun y => (nomatch y)⟩
    · rw [if_neg z, if_neg (fun y => z ((i32_e (x := 0) (b := 0) rfl (by omega) (by decide)).mp y))]
      obtain ⟨w, A1, a1, a2, a3, a4⟩ := x111_k h ht rt (by omega)
      rw [a1, Option.bind_some]
      dsimp only
      cases z2 : tkk rt t with
      | none =>
        rw [if_neg (a3 z2)]
        exact ⟨0, A1, rfl, Or.inl rfl, fun t' y => (nomatch y), fun _ => Or.inl rfl⟩
      | some t1 =>
        obtain ⟨c1, c2⟩ := a2 t1 z2
        rw [if_pos c1]
        exact ⟨1, A1, rfl, Or.inr rfl, fun t' y => by cases y; exact ⟨rfl, c2, lc_fr hl a4⟩, fun y => (nomatch y)⟩
  rw [if_neg (show ¬ Int32.ofNat o = 51 from fun z => o51 ((e 51 (by omega)).mp z))]
  obtain ⟨v, A', q1, q2, q3, q4⟩ := x112_l hP h ht h16 hl ho hO ⟨o2, o3, o4, o5, o6, o7, o51⟩ (lk := wvl l vv)
  refine ⟨v, A', ?_, q2, q3, q4⟩
  rw [q1, Option.bind_some, if_pos q2]
end
