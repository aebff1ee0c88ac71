/-! THE CLASS's apply() -/
def wvl (l : Nat × Nat × Nat) (k : Nat) : Nat := (if l.1.testBit k then 1 else 0) + (if l.2.1.testBit k then 2 else 0) + (if l.2.2.testBit k then 4 else 0)
def Lok (l : Nat × Nat × Nat) : Prop := l.1 < 65536 ∧ l.2.1 < 65536 ∧ l.2.2 < 65536
def Lc (l : Nat × Nat × Nat) (A : St) : Prop := A 58 9 = Int32.ofNat l.1 ∧ A 58 10 = Int32.ofNat l.2.1 ∧ A 58 11 = Int32.ofNat l.2.2
def stl (kd k : Nat) (l : Nat × Nat × Nat) : Nat × Nat × Nat := ((if kd = 1 then l.1 ||| 2 ^ k else clb l.1 k), (if kd = 2 then l.2.1 ||| 2 ^ k else clb l.2.1 k), clb l.2.2 k)
theorem p16 {k : Nat} (h : k < 16) : 2 ^ k < 65536 := by
  have : 2 ^ k < 2 ^ 16 := Nat.pow_lt_pow_right (by decide) h
  exact this
theorem stl_ok {l : Nat × Nat × Nat} {kd k : Nat} (h : Lok l) (hk : k < 16) : Lok (stl kd k l) := by
  obtain ⟨h1, h2, h3⟩ := h
  refine ⟨?_, ?_, Nat.lt_of_le_of_lt clb_le h3⟩
  · show (if kd = 1 then l.1 ||| 2 ^ k else clb l.1 k) < 65536
    split
    · exact or_lt (n := 16) h1 (p16 hk)
    · exact Nat.lt_of_le_of_lt clb_le h1
  · show (if kd = 2 then l.2.1 ||| 2 ^ k else clb l.2.1 k) < 65536
    split
    · exact or_lt (n := 16) h2 (p16 hk)
    · exact Nat.lt_of_le_of_lt clb_le h2
theorem wvl_stl {l : Nat × Nat × Nat} {kd k j : Nat} (hkd : kd = 1 ∨ kd = 2) (hj : j < 16) : wvl (stl kd k l) j = if j = k then kd else wvl l j := by
  unfold wvl stl
  dsimp only
  have h32 : j < 32 := by omega
  by_cases z : j = k
  · subst z
    rcases hkd with rfl | rfl <;> simp [clb_tb h32, or_tb, p2_tb]
  · have zk : ¬ k = j := fun y => z y.symm
    rcases hkd with rfl | rfl <;> simp [clb_tb h32, or_tb, p2_tb, z, zk]
section
variable {t : Nat × Nat} {l : Nat × Nat × Nat} {A : St} {P : Nat}
theorem x109_l (h : Lc l A) (ho : Lok l) {k : Nat} (hk : k < 16) : x109 A (Int32.ofNat k) = Int32.ofNat (if wvl l k = 1 then 1 else if wvl l k = 2 then 2 else 0) := by
  obtain ⟨h1, h2, h3⟩ := h
  obtain ⟨o1, o2, o3⟩ := ho
  unfold x109 Lt
  rw [h1, h2, h3, i32_tb (by omega) (by omega), i32_tb (by omega) (by omega), i32_tb (by omega) (by omega)]
  unfold wvl
  cases l.1.testBit k <;> cases l.2.1.testBit k <;> cases l.2.2.testBit k <;> decide
theorem x100_l (h : Lc l A) {k kd : Nat} (hk : k < 16) (hkd : kd = 1 ∨ kd = 2) : ∃ A', x100 A (Int32.ofNat k) (Int32.ofNat kd) = some A' ∧ Lc (stl kd k l) A' ∧ ∀ a b, (a ≠ 58 ∨ (b ≠ 9 ∧ b ≠ 10 ∧ b ≠ 11)) → A' a b = A a b := by
  obtain ⟨h1, h2, h3⟩ := h
  unfold x100 stl Lt
  rw [h1, h2, h3, i32_cr (by omega), i32_cr (by omega), i32_cr (by omega), i32_sh1 k (by omega), i32_or, i32_or]
  rcases hkd with rfl | rfl
  · rw [if_pos (by decide), Option.bind_some, if_neg (by decide)]
    refine ⟨_, rfl, ⟨?_, ?_, ?_⟩, fun a b z => by rw [up2_o (by omega), up2_o (by omega), up2_o (by omega)]⟩
    · simp (disch := omega) only [up2_o, up2_s]; rfl
    · simp (disch := omega) only [up2_o, up2_s]; rfl
    · simp (disch := omega) only [up2_s]
  · rw [if_neg (by decide), Option.bind_some, if_pos (by decide)]
    refine ⟨_, rfl, ⟨?_, ?_, ?_⟩, fun a b z => by rw [up2_o (by omega), up2_o (by omega), up2_o (by omega)]⟩
    · simp (disch := omega) only [up2_o, up2_s]; rfl
    · simp (disch := omega) only [up2_o, up2_s]; rfl
    · simp (disch := omega) only [up2_s]
theorem x100_t {x y : Int32} : ∃ A', x100 A x y = some A' := by
  unfold x100 Lt
  split <;> (rw [Option.bind_some]; split <;> exact ⟨_, rfl⟩)
/-- pushed: right, or too deep -/
theorem cp1 (h : Cs t A) (ht : Sok t) (h16 : t.1 ≤ 16) {k : Nat} (hk : k = 1 ∨ k = 2) : ∃ A', x110 A (Int32.ofNat k) = some A' ∧ Cs (sps k t) A' ∧ (∀ t', psg k t = some t' → Cs t' A') ∧ (psg k t = none → ¬ A' 58 7 ≤ 16) ∧ ∀ a b, (a ≠ 58 ∨ (b ≠ 7 ∧ b ≠ 8)) → A' a b = A a b := by
  obtain ⟨A', a1, a2, a3⟩ := x110_k h ht (by omega) hk
  refine ⟨A', a1, a2, fun t' z => ?_, fun z => ?_, a3⟩
  · unfold psg at z
    split at z
    · cases z; exact a2
    · cases z
  · unfold psg at z
    split at z
    · cases z
    · rw [a2.1, i32_l3 (x := 16) (b := 16) rfl (by show t.1 + 1 < _; omega) (by decide)]
      show ¬ t.1 + 1 ≤ 16
      omega
theorem cpo (h : Cs t A) (ht : Sok t) (h16 : t.1 ≤ 16) {k : Nat} (hk : k ≤ 2) : ∃ A', x110 A (Int32.ofNat k) = some A' ∧ (∀ t', pso k t = some t' → Cs t' A') ∧ (pso k t = none → ¬ A' 58 7 ≤ 16) ∧ ∀ a b, (a ≠ 58 ∨ (b ≠ 7 ∧ b ≠ 8)) → A' a b = A a b := by
  unfold pso
  by_cases z : k = 0
  · subst z
    refine ⟨A, x110_0, fun t' y => ?_, fun y => ?_, fun _ _ _ => rfl⟩
    · rw [if_pos rfl] at y; cases y; exact h
    · rw [if_pos rfl] at y; cases y
  · rw [if_neg z]
    obtain ⟨A', a1, -, a3, a4, a5⟩ := cp1 h ht h16 (k := k) (by omega)
    exact ⟨A', a1, a3, a4, a5⟩
/-- what the class's apply() looks at -/
def OpC (P m o vv fk rt rs c rf : Nat) (a b : Int32) (A : St) : Prop := ((o = 2 ∨ o = 3 ∨ o = 4) → a = Int32.ofNat vv ∧ vv < 16) ∧ ((o = 38 ∨ o = 39) → ∃ r, r < 96 ∧ b = Int32.ofNat r ∧ A (P + 4) (5 * r + 3) = Int32.ofNat fk) ∧ ((o = 40 ∨ o = 41) → ∃ r, r < 16 ∧ b = Int32.ofNat r ∧ A (P + 6) (4 * r + 3) = Int32.ofNat fk) ∧ ((o = 49 ∨ o = 50) → ∃ r, r < 24 ∧ b = Int32.ofNat r ∧ A (P + 8) (16 * r + 4) = Int32.ofNat c ∧ (∀ i, i < c → A (P + 8) (16 * r + 10 + i) = if rf.testBit i then 2 else 1) ∧ A (P + 8) (16 * r + 3) = Int32.ofNat rs) ∧ c ≤ 6 ∧ rs ≤ 2 ∧ (fk = 1 ∨ fk = 2) ∧ rt ≤ 2 ∧ A 58 3 = Int32.ofNat m ∧ m < 24 ∧ A (P + 8) (16 * m + 3) = Int32.ofNat rt
/-- the answer of apply() -/
def ApR (X : Option (Int32 × St)) (A : St) (e : Option (Nat × Nat)) (l : Nat × Nat × Nat) : Prop := ∃ v A', X = some (v, A') ∧ (v = 0 ∨ v = 1) ∧ (∀ t', e = some t' → v = 1 ∧ Cs t' A' ∧ Lc l A') ∧ (e = none → v = 0 ∨ ¬ A' 58 7 ≤ 16)
theorem lc_fr {A' : St} (h : Lc l A) (hA : ∀ a b, (a ≠ 58 ∨ (b ≠ 7 ∧ b ≠ 8)) → A' a b = A a b) : Lc l A' := ⟨by rw [hA _ _ (by omega)]; exact h.1, by rw [hA _ _ (by omega)]; exact h.2.1, by rw [hA _ _ (by omega)]; exact h.2.2⟩
/-- instructions with kinds of their own -/
theorem x113_l {o : Nat} (ho : o < 59) (hno : o ≠ 2 ∧ o ≠ 3 ∧ o ≠ 4 ∧ o ≠ 5 ∧ o ≠ 6 ∧ o ≠ 7 ∧ o ≠ 38 ∧ o ≠ 39 ∧ o ≠ 40 ∧ o ≠ 41 ∧ o ≠ 49 ∧ o ≠ 50 ∧ o ≠ 51) (h : Cs t A) (ht : Sok t) (h16 : t.1 ≤ 16) (hl : Lc l A) : ApR (x113 A (Int32.ofNat o)) A ((tkz (tkl o) t).bind (pso (gvk o))) l := by
  have key : ∀ o, o < 59 → (o = 2 ∨ o = 3 ∨ o = 4 ∨ o = 5 ∨ o = 6 ∨ o = 7 ∨ o = 38 ∨ o = 39 ∨ o = 40 ∨ o = 41 ∨ o = 49 ∨ o = 50 ∨ o = 51) ∨ (xTAKESL.getD o 0 = Int32.ofNat (enc (tkl o)) ∧ enc (tkl o) < 300 ∧ ((tkl o).all fun k => k == 1 || k == 2) = true ∧ (tkl o).length < 10 ∧ xGIVESL.getD o 0 = Int32.ofNat (gvk o) ∧ gvk o ≤ 2) := by decide
  obtain ⟨k1, k2, k3', k4, k5, k6⟩ := (key o ho).resolve_left (by omega)
  have k3 : ∀ k, k ∈ tkl o → k = 1 ∨ k = 2 := fun k hk => by
    have := List.all_eq_true.mp k3' k hk
    simpa using this
  have hin : inb (Int32.ofNat o) 59 := (i32_inb (by omega)).mpr (by omega)
  have hcl : (Int32.ofNat o).toNatClampNeg = o := i32_cl (by omega)
  have e114 : x114 A (Int32.ofNat o) = some (Int32.ofNat (enc (tkl o))) := by
    unfold x114
    rw [if_neg (i32_nn (by omega)), if_neg (by rw [i32_l2 (x := 59) (b := 59) rfl (by omega) (by decide)]; omega)]
    simp only [if_pos hin, hcl, k1]
  have e115 : ∀ K : St, x115 K (Int32.ofNat o) = some (Int32.ofNat (gvk o)) := fun K => by
    unfold x115
    rw [if_neg (i32_nn (by omega)), if_neg (by rw [i32_l2 (x := 59) (b := 59) rfl (by omega) (by decide)]; omega)]
    simp only [if_pos hin, hcl, k5]
  obtain ⟨v, A1, a1, a2, -, a4⟩ := l113_l (b1 := Int32.ofNat o) (tkl o) t A 1 100000 k3 k2 (Or.inr rfl) (by omega)
  obtain ⟨a5, a6⟩ := a4 h ht rfl
  unfold x113
  rw [e114, Option.bind_some, a1, Option.bind_some]
  dsimp only
  rw [e115, Option.bind_some]
  cases z : tkz (tkl o) t with
  | none =>
    obtain ⟨A2, b1⟩ := x110_t (A := A1) (x := Int32.ofNat (gvk o))
    rw [b1, Option.bind_some, if_pos a2]
    exact ⟨v, A2, rfl, a2, fun t' y => (nomatch y), fun _ => Or.inl (a6 z)⟩
  | some t1 =>
    obtain ⟨c1, c2⟩ := a5 t1 z
    obtain ⟨d1, d2⟩ := tkz_ok z ht
    obtain ⟨A2, b1, b2, b3, b4⟩ := cpo c2 d1 (by omega) k6
    rw [b1, Option.bind_some, if_pos a2]
    have hf := x113_fr A A Frm.refl (v, A2) (by
      unfold x113
      rw [e114, Option.bind_some, a1, Option.bind_some]
      dsimp only
      rw [e115, Option.bind_some, b1, Option.bind_some, if_pos a2])
    refine ⟨v, A2, rfl, a2, fun t' y => ⟨c1, b2 t' y, ⟨?_, ?_, ?_⟩⟩, fun y => Or.inr (b3 y)⟩
    · rw [show A2 58 9 = A 58 9 from hf 58 9 rfl]; exact hl.1
    · rw [show A2 58 10 = A 58 10 from hf 58 10 rfl]; exact hl.2.1
    · rw [show A2 58 11 = A 58 11 from hf 58 11 rfl]; exact hl.2.2
/-- the kinds of a called method -/
theorem l112_l (hP : P = 3 ∨ P = 18) {b1 : Int32} {r rf : Nat} (hr : r < 24) : ∀ (c : Nat) (t : Nat × Nat) (A : St) (b3 : Int32) (f : Nat), c ≤ 6 → (∀ i, i < c → A (P + 8) (16 * r + 10 + i) = if rf.testBit i then 2 else 1) → (b3 = 0 ∨ b3 = 1) → c < f → ∃ v A', l112_194 P b1 (Int32.ofNat r) f b3 (Int32.ofNat c - 1) A = some (v, A') ∧ (v = 0 ∨ v = 1) ∧ (b3 = 0 → v = 0) ∧ (∀ a b, (a ≠ 58 ∨ (b ≠ 7 ∧ b ≠ 8)) → A' a b = A a b) ∧ (Cs t A → Sok t → b3 = 1 → (∀ t', tkz (ckl rf c) t = some t' → v = 1 ∧ Cs t' A') ∧ (tkz (ckl rf c) t = none → v = 0)) := by
  have hP2 : 3 ≤ P ∧ P ≤ 18 := by omega
  intro c
  induction c with
  | zero =>
    intro t A b3 f hc hk hb hf
    obtain ⟨f, rfl⟩ : ∃ g, f = g + 1 := ⟨f - 1, by omega⟩
    refine ⟨b3, A, ?_, hb, id, fun _ _ _ => rfl, fun h1 _ h2 => ⟨fun t' z => by cases z; exact ⟨h2, h1⟩, fun z => by cases z⟩⟩
    rw [l112_194, if_pos (by decide)]
  | succ c ih =>
    intro t A b3 f hc hk hb hf
    obtain ⟨f, rfl⟩ : ∃ g, f = g + 1 := ⟨f - 1, by omega⟩
    obtain ⟨w, A1, a1⟩ := x111_t (A := A)
    have fr1 : ∀ a b, (a ≠ 58 ∨ (b ≠ 7 ∧ b ≠ 8)) → A1 a b = A a b := fun a b z => by
      have := x111_fr A A Frm.refl _ a1
      refine this a b ?_
      cases y : mdb [(58, some 8), (58, some 7)] a b with
      | false => rfl
      | true =>
        obtain ⟨e, he, f1, f2⟩ := mdb_of y
        simp only [List.mem_cons, List.not_mem_nil, or_false] at he
        rcases he with rfl | rfl
        all_goals
          simp only [reduceCtorEq, false_or, Option.some.injEq] at f1 f2
          omega
    have hkd : x89 P A1 (Int32.ofNat r) (Int32.ofNat c) = Int32.ofNat (if rf.testBit c then 2 else 1) := by
      rw [x89_k hP hr (by omega), fr1 _ _ (by omega), hk c (by omega)]
      cases rf.testBit c <;> rfl
    rw [i32_p, l112_194, if_neg (i32_nn (by omega)), a1, Option.bind_some]
    dsimp only
    rw [hkd, show Int32.ofNat c + -1 = Int32.ofNat c - 1 from by rw [Int32.sub_eq_add_neg]]
    generalize hkk : (if rf.testBit c then 2 else 1) = kd
    have hk12 : kd = 1 ∨ kd = 2 := by rw [← hkk]; split <;> simp
    obtain ⟨b2', hb2, hb3, heq⟩ : ∃ b2' : Int32, (b2' = 0 ∨ b2' = 1) ∧ (b2' = 1 ↔ (w = Int32.ofNat kd ∧ b3 ≠ 0)) ∧ (if w = Int32.ofNat kd then if b3 = 0 then l112_194 P b1 (Int32.ofNat r) f 0 (Int32.ofNat c - 1) A1 else l112_194 P b1 (Int32.ofNat r) f 1 (Int32.ofNat c - 1) A1 else l112_194 P b1 (Int32.ofNat r) f 0 (Int32.ofNat c - 1) A1) = l112_194 P b1 (Int32.ofNat r) f b2' (Int32.ofNat c - 1) A1 := by
      by_cases y1 : w = Int32.ofNat kd
      · by_cases y2 : b3 = 0
        · exact ⟨0, Or.inl rfl, ⟨fun z => absurd z (by decide), fun z => absurd y2 z.2⟩, by rw [if_pos y1, if_pos y2]⟩
        · exact ⟨1, Or.inr rfl, ⟨fun _ => ⟨y1, y2⟩, fun _ => rfl⟩, by rw [if_pos y1, if_neg y2]⟩
      · exact ⟨0, Or.inl rfl, ⟨fun z => absurd z (by decide), fun z => absurd z.1 y1⟩, by rw [if_neg y1]⟩
    rw [heq]
    have hk' : ∀ i, i < c → A1 (P + 8) (16 * r + 10 + i) = if rf.testBit i then 2 else 1 := fun i hi => by rw [fr1 _ _ (by omega)]; exact hk i (by omega)
    have b00 : b3 = 0 → b2' = 0 := fun y => by
      rcases hb2 with y' | y'
      · exact y'
      · exact absurd y (hb3.mp y').2
    by_cases hct : Cs t A ∧ Sok t
    · obtain ⟨hcs, ht⟩ := hct
      obtain ⟨w', A1', c1, c2, c3, -⟩ := x111_k hcs ht kd hk12
      rw [c1] at a1
      cases a1
      cases z : tkk kd t with
      | none =>
        have hw := c3 z
        obtain ⟨v, A2, v1, v2, v3, v4, -⟩ := ih t A1 b2' f (by omega) hk' hb2 (by omega)
        have b0 : b2' = 0 := by
          rcases hb2 with y | y
          · exact y
          · exact absurd (hb3.mp y).1 hw
        refine ⟨v, A2, v1, v2, fun _ => v3 b0, fun a b y => (v4 a b y).trans (fr1 a b y), fun _ _ _ => ⟨fun t' y => ?_, fun _ => v3 b0⟩⟩
        rw [ckl, hkk, tkz, z] at y
        cases y
      | some t1 =>
        obtain ⟨d3, d4⟩ := c2 t1 z
        obtain ⟨v, A2, v1, v2, v3, v4, v5⟩ := ih t1 A1 b2' f (by omega) hk' hb2 (by omega)
        refine ⟨v, A2, v1, v2, fun y => v3 (b00 y), fun a b y => (v4 a b y).trans (fr1 a b y), fun _ _ y => ?_⟩
        have := v5 d4 (tkk_ok z ht).1 (hb3.mpr ⟨d3, by rw [y]; decide⟩)
        rw [ckl, hkk, tkz, z, Option.bind_some]
        exact this
    · obtain ⟨v, A2, v1, v2, v3, v4, -⟩ := ih t A1 b2' f (by omega) hk' hb2 (by omega)
      exact ⟨v, A2, v1, v2, fun y => v3 (b00 y), fun a b y => (v4 a b y).trans (fr1 a b y), fun y1 y2 => absurd ⟨y1, y2⟩ hct⟩
end
